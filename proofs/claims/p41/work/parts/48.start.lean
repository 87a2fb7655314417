/-! What holds at the law's start. -/
theorem xins (c : Nat) (hc : c < 10) : Cond.instantiable (xct c).1 (xct c).2.2 ∈ wG := match c, hc with
  | 0, _ => wG_t 30 (by decide +kernel) (by decide +kernel)
  | 1, _ => wG_t 206 (by decide +kernel) (by decide +kernel)
  | 2, _ => wG_t 225 (by decide +kernel) (by decide +kernel)
  | 3, _ => wG_t 60 (by decide +kernel) (by decide +kernel)
  | 4, _ => wG_t 120 (by decide +kernel) (by decide +kernel)
  | 5, _ => wG_t 36 (by decide +kernel) (by decide +kernel)
  | 6, _ => wG_t 253 (by decide +kernel) (by decide +kernel)
  | 7, _ => wG_t 96 (by decide +kernel) (by decide +kernel)
  | 8, _ => wG_t 24 (by decide +kernel) (by decide +kernel)
  | 9, _ => wG_t 16 (by decide +kernel) (by decide +kernel)
  | n + 10, h => absurd h (by omega)
theorem xwI : Cond.arrayClass .int ∈ wG := wG_t 58 (by decide +kernel) (by decide +kernel)
theorem xwD : Cond.arrayOver (.object RX0) ∈ lw_tbl := tb_t 192 (by decide +kernel)
theorem xwS : Cond.arrayOver (.object RX8) ∈ lw_tbl := tb_t 212 (by decide +kernel)
abbrev xfl : List Cond := flatC (Jvm.Cond.and given_1 narrow_1)
theorem xk_start {s : State} {b L : Nat} {xs : Nat → Int32} (hts : ∀ w ∈ lw_tbl, w.before #[Value.ref b] s = true) (hX : va_X b L xs s s.heap) (hb : b < s.heap.size) : ∃ g : xG, g.2.2.1 = s.heap ∧ g.2.2.2.2 = (L, xs) ∧ g.2.2.2.1 300 = some b ∧ xK g s := by
  have hG : ∀ w ∈ wG, w.before #[Value.ref b] s = true := fun w h => hts w (wG_sub w h)
  have hcl : ∀ c : Nat, ∃ q : ClassId × (Nat → Nat), c < 10 → u_Kn s (xct c).1 (xct c).2.1 (xct c).2.2 q.1 q.2 := by
    intro c
    by_cases hc : c < 10
    · obtain ⟨cC, iS, h⟩ := u_known (ws := wG) (n := (xct c).2.2) hG (xfac c hc).2.1 (hG _ (xins c hc))
      exact ⟨(cC, iS), fun _ => h⟩
    · exact ⟨(0, fun _ => 0), fun h => absurd h hc⟩
  obtain ⟨D, hD⟩ := Classical.axiomOfChoice hcl
  obtain ⟨cI, kI, pI, a1, a2, a3⟩ := Cond.arrayClass_spec (hG _ xwI)
  obtain ⟨pD, cD, kD, b1, -, b2, b3, b4⟩ := Cond.arrayOver_spec (hts _ xwD)
  obtain ⟨pS, cS, kS, c1, -, c2, c3, c4⟩ := Cond.arrayOver_spec (hts _ xwS)
  refine ⟨((fun c => (D c).1, fun c => (D c).2), (cI, cD, cS), s.heap, fun k => if k = 300 then some b else none, L, xs), rfl, rfl, rfl, ⟨?_, ?_⟩, ?_, va_AO.of (hts _ xwD), va_AO.of (hts _ xwS), b, rfl, hb, hX⟩
  · intro c q hq
    by_cases hc : c < 10
    · rw [(xfac c hc).1] at hq
      cases hq
      exact hD c hc
    · rw [List.getElem?_eq_none (by show 10 ≤ c; omega)] at hq
      cases hq
  · intro k q hq
    match k, hq with
    | 0, hq => cases hq; exact ⟨fun N z => ⟨(fun k h => by cases h), kI, a2, pI, a3⟩, a1⟩
    | 1, hq => cases hq; exact ⟨fun N z => ⟨(fun k h => by cases h), kD, b2, pD, b3⟩, kD, pD, b2, b3, b1, b4⟩
    | 2, hq => cases hq; exact ⟨fun N z => ⟨(fun k h => by cases h), kS, c2, pS, c3⟩, kS, pS, c2, c3, c1, c4⟩
    | n + 3, hq => cases hq
  · intro w hw
    have h1 := List.mem_filter.mp hw
    have h2 := hts w (List.mem_append_right _ h1.1)
    have h3 := h1.2
    cases w with
    | methodLinkNest a i x h => exact va_Nw.of rfl h2
    | fieldLinkNest a i b n d h => exact va_Nw.of rfl h2
    | _ => simp at h3
