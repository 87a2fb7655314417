/-! The object: its state now, and the states that undo brings back, the last one first. -/
def CI (R : xN) (s : Nat → Int) (hs : List (Nat → Int)) : Prop := SR R 1 s ∧ iHist R ∧ (hs.length : Int) ≤ R 45 1 ∧ ∀ k : Nat, k < hs.length → SR R (R 46 ((R 45 1).toNat - 1 - k)).toNat (hs.getD k (fun _ => 0))
theorem CI.of {R R' : xN} {s s' : Nat → Int} {hs : List (Nat → Int)} (h : CI R s hs) (h1 : SR R' 1 s') (e : ∀ q j : Nat, 45 ≤ q → q < 311 → R' q j = R q j) : CI R' s' hs := by
  obtain ⟨i1, i2, i5, i6⟩ := h
  have n5 := i2.2.1
  refine ⟨h1, i2.of (e 45 1 (by omega) (by omega)) (fun k _ => e 46 k (by omega) (by omega)), by rw [e 45 1 (by omega) (by omega)]; exact i5, fun k hk => ?_⟩
  rw [e 45 1 (by omega) (by omega), e 46 _ (by omega) (by omega)]
  obtain ⟨ik, hik, hek⟩ := i2.2.2.1 ((R 45 1).toNat - 1 - k) (by omega)
  have := i6 k hk
  rw [hek, Int.toNat_natCast] at this ⊢
  exact this.out (fun q j h1 h2 => e q j (by omega) (by omega))
theorem CI.tri {R R' : xN} {s : Nat → Int} {hs : List (Nat → Int)} (h : CI R s hs) (k : kTri R R') : CI R' s hs := h.of (h.1.out (fun q j _ _ => k q j (by omega))) (fun q j _ _ => k q j (by omega))
theorem CI.nil {R : xN} {s : Nat → Int} {hs : List (Nat → Int)} (h : CI R s hs) : CI R s [] := ⟨h.1, h.2.1, by have := h.2.1.1; show ((0 : Nat) : Int) ≤ _; omega, fun k hk => absurd hk (Nat.not_lt_zero _)⟩
theorem CI.sg {R : xN} {s s' : Nat → Int} {hs : List (Nat → Int)} (h : CI R s hs) (e : ∀ j : Nat, j < 464 → s' j = s j) : CI R s' hs := ⟨h.1.sg e, h.2⟩
/-- an action: keep, do, settle -/
theorem act9 {f f9 : xN → Option (Int × xN)} {sp : sSp} (hc : cSpec f sp) (h9 : ∀ R, f9 R = (f_X1_keep 45 1 R).bind (fun v1 => (f v1).bind (fun v2 => (f_X1_settle 45 v2.1 v2.2).bind (fun v3 => some (v3.1, v3.2))))) {R : xN} {s : Nat → Int} {hs : List (Nat → Int)} (hI : CI R s hs) : ∃ R', f9 R = some ((sp s).1, R') ∧ (err (sp s).1 → CI R' (sp s).2 hs) ∧ (¬ err (sp s).1 → hs.length ≤ 4 → CI R' (sp s).2 (s :: hs)) := by
  obtain ⟨i1, i2, i5, i6⟩ := hI
  have n0 := i2.1
  have n5 := i2.2.1
  obtain ⟨R1, k1, k2, k3⟩ := hkeep i2 i1.fil
  obtain ⟨i, hi, he⟩ := i2.2.2.1 (R 45 1).toNat (by omega)
  rw [he, Int.toNat_natCast] at k2 k3
  have s1 : SR R1 1 s := i1.out (fun q j h1 h2 => k3 q j (by omega))
  have sp1 : SR R1 (47 + 44 * i) s := i1.eq k2
  obtain ⟨R2, b1, b2, b3⟩ := hc R1 s s1
  have f12 : ∀ q j : Nat, ¬ (1 ≤ q ∧ q < 45) → ¬ (311 ≤ q ∧ q < 314) → ¬ (47 + 44 * i ≤ q ∧ q < 47 + 44 * i + 44) → R2 q j = R q j := fun q j h1 h2 h3 => by rw [b2 q j h1 h2, k3 q j (by omega)]
  have sp2 : SR R2 (47 + 44 * i) s := sp1.out (fun q j h1 h2 => b2 q j (by omega) (by omega))
  have old : ∀ k : Nat, k < hs.length → SR R2 (R 46 ((R 45 1).toNat - 1 - k)).toNat (hs.getD k (fun _ => 0)) ∧ ∃ ik : Nat, ik < 6 ∧ R 46 ((R 45 1).toNat - 1 - k) = ((47 + 44 * ik : Nat) : Int) := fun k hk => by
    obtain ⟨ik, hik, hek⟩ := i2.2.2.1 ((R 45 1).toNat - 1 - k) (by omega)
    refine ⟨?_, ik, hik, hek⟩
    have hne : ik ≠ i := fun h => by
      have := i2.2.2.2 ((R 45 1).toNat - 1 - k) (R 45 1).toNat (by omega) (by omega) (by rw [hek, he, h])
      omega
    have := i6 k hk
    rw [hek, Int.toNat_natCast] at this ⊢
    exact this.out (fun q j h1 h2 => f12 q j (by omega) (by omega) (by omega))
  by_cases hr : err (sp s).1
  · refine ⟨R2, ?_, fun _ => ⟨b3, ?_, ?_, fun k hk => ?_⟩, fun h => absurd hr h⟩
    · rw [h9, k1, Option.bind_some, b1, Option.bind_some]
      show (f_X1_settle 45 (sp s).1 R2).bind _ = _
      rw [settle_err hr]
      rfl
    · exact i2.of (f12 45 1 (by omega) (by omega) (by omega)) (fun k hk => f12 46 k (by omega) (by omega) (by omega))
    · rw [f12 45 1 (by omega) (by omega) (by omega)]; exact i5
    · rw [f12 45 1 (by omega) (by omega) (by omega), f12 46 _ (by omega) (by omega) (by omega)]
      exact (old k hk).1
  · by_cases hn : R 45 1 < 5
    · have h45 : R2 45 1 = R 45 1 := f12 45 1 (by omega) (by omega) (by omega)
      have hset := settle_grow (R := R2) hr (by omega) (by omega)
      rw [h45] at hset
      have g3 : ∀ q j : Nat, ¬ (q = 45 ∧ j = 1) → (xup R2 45 1 (R 45 1 + 1)) q j = R2 q j := fun q j h => xup_nn h
      have g45 : (xup R2 45 1 (R 45 1 + 1)) 45 1 = R 45 1 + 1 := xup_eq
      generalize hR3 : xup R2 45 1 (R 45 1 + 1) = R3 at hset g3 g45
      have f46 : ∀ k : Nat, R3 46 k = R 46 k := fun k => by rw [g3 46 k (by omega), f12 46 k (by omega) (by omega) (by omega)]
      refine ⟨R3, ?_, fun h => absurd h hr, fun _ h4 => ⟨?_, ?_, ?_, fun k hk => ?_⟩⟩
      · rw [h9, k1, Option.bind_some, b1, Option.bind_some]
        show (f_X1_settle 45 (sp s).1 R2).bind _ = _
        rw [hset]
        rfl
      · exact b3.out (fun q j h1 h2 => g3 q j (by omega))
      · obtain ⟨-, -, u3, u4⟩ := i2
        refine ⟨by omega, by omega, fun k hk => by rw [f46]; exact u3 k hk, fun k k' hk hk' e => u4 k k' hk hk' (by rw [f46, f46] at e; exact e)⟩
      · rw [g45, List.length_cons]; omega
      · rw [List.length_cons] at hk
        rw [g45, f46]
        cases k with
        | zero =>
          rw [show (R 45 1 + 1).toNat - 1 - 0 = (R 45 1).toNat by omega, he, Int.toNat_natCast]
          exact sp2.out (fun q j h1 h2 => g3 q j (by omega))
        | succ k =>
          obtain ⟨o1, ik, o2, o3⟩ := old k (by omega)
          rw [show (R 45 1 + 1).toNat - 1 - (k + 1) = (R 45 1).toNat - 1 - k by omega]
          rw [o3, Int.toNat_natCast] at o1 ⊢
          exact o1.out (fun q j h1 h2 => g3 q j (by omega))
    · have hn5 : R 45 1 = 5 := by omega
      have h45 : R2 45 1 = 5 := by rw [f12 45 1 (by omega) (by omega) (by omega), hn5]
      have h46 : ∀ k : Nat, R2 46 k = R 46 k := fun k => f12 46 k (by omega) (by omega) (by omega)
      have hh2 : iHist R2 := i2.of (f12 45 1 (by omega) (by omega) (by omega)) (fun k _ => h46 k)
      obtain ⟨R3, t1, t2, t3, t4⟩ := settle_drop (i := (sp s).1) hr hh2 h45
      have f46a : ∀ k : Nat, k < 5 → R3 46 k = R 46 (k + 1) := fun k hk => by rw [t2 k hk, h46]
      have f46b : R3 46 5 = R 46 0 := by rw [t3, h46]
      have f45 : R3 45 1 = 5 := by rw [t4 45 1 (by omega), h45]
      refine ⟨R3, ?_, fun h => absurd h hr, fun _ h4 => ⟨?_, ?_, ?_, fun k hk => ?_⟩⟩
      · rw [h9, k1, Option.bind_some, b1, Option.bind_some]
        show (f_X1_settle 45 (sp s).1 R2).bind _ = _
        rw [t1]
        rfl
      · exact b3.out (fun q j h1 h2 => t4 q j (by omega))
      · obtain ⟨-, -, u3, u4⟩ := i2
        have turn : ∀ k : Nat, k < 6 → ∃ k2 : Nat, k2 < 6 ∧ R3 46 k = R 46 k2 ∧ (k2 = k + 1 ∨ k2 + 5 = k) := fun k hk => by
          by_cases h5 : k < 5
          · exact ⟨k + 1, by omega, f46a k h5, Or.inl rfl⟩
          · have : k = 5 := by omega
            subst this
            exact ⟨0, by omega, f46b, Or.inr rfl⟩
        refine ⟨by omega, by omega, fun k hk => ?_, fun k k' hk hk' e => ?_⟩
        · obtain ⟨k2, hk2, e2, -⟩ := turn k hk
          rw [e2]; exact u3 k2 hk2
        · obtain ⟨k2, hk2, e2, x2⟩ := turn k hk
          obtain ⟨k3, hk3, e3, x3⟩ := turn k' hk'
          rw [e2, e3] at e
          have := u4 k2 k3 hk2 hk3 e
          omega
      · rw [f45, List.length_cons]; omega
      · rw [List.length_cons] at hk
        have ht : (5 : Int).toNat = 5 := rfl
        rw [f45, ht, f46a _ (by omega)]
        cases k with
        | zero =>
          rw [hn5, ht] at he
          rw [show 5 - 1 - 0 + 1 = 5 from rfl, he, Int.toNat_natCast]
          exact sp2.out (fun q j h1 h2 => t4 q j (by omega))
        | succ k =>
          obtain ⟨o1, ik, o2, o3⟩ := old k (by omega)
          rw [hn5, ht] at o1 o3
          rw [show 5 - 1 - (k + 1) + 1 = 5 - 1 - k by omega]
          rw [o3, Int.toNat_natCast] at o1 ⊢
          exact o1.out (fun q j h1 h2 => t4 q j (by omega))
theorem undo9 {R : xN} {s s' : Nat → Int} {hs : List (Nat → Int)} (hI : CI R s (s' :: hs)) : ∃ (U : Int) (R' : xN), f_X9_undo 0 R = some (U, R') ∧ 0 ≤ U ∧ CI R' s' hs := by
  obtain ⟨i1, i2, i5, i6⟩ := hI
  have n0 := i2.1
  have n5 := i2.2.1
  rw [List.length_cons] at i5
  unfold f_X9_undo f_X1_goBack
  rw [show 0 + 45 = 45 from rfl]
  have hn : 0 < R 45 1 := by omega
  obtain ⟨U, hU⟩ := Int.eq_ofNat_of_zero_le (show 0 ≤ R 45 1 - 1 by omega)
  have hUt : (R 45 1).toNat = U + 1 := by omega
  have e1 : Qe (w4 (R 45 1 - 1)) (U : Int) := by unfold Qe; rw [w4_of (by omega), hU]
  have hh1 : iHist (xup R 45 1 (U : Int)) := by
    obtain ⟨a, b, c, d⟩ := i2
    have e : ∀ k : Nat, xup R 45 1 (U : Int) 46 k = R 46 k := fun k => xup_nn (by omega)
    refine ⟨by rw [xup_eq]; omega, by rw [xup_eq]; omega, fun k hk => by rw [e]; exact c k hk, fun k k' hk hk' h => d k k' hk hk' (by rw [e, e] at h; exact h)⟩
  obtain ⟨ik, hik, hek⟩ := i2.2.2.1 U (by omega)
  have past : SR R (47 + 44 * ik) s' := by
    have := i6 0 (by rw [List.length_cons]; omega)
    rw [hUt, show U + 1 - 1 - 0 = U by omega, hek, Int.toNat_natCast] at this
    exact this
  have past1 : SR (xup R 45 1 (U : Int)) (47 + 44 * ik) s' := past.out (fun q j h1 h2 => xup_nn (by omega))
  have h45 : ((xup R 45 1 (U : Int)) 46 ((xup R 45 1 (U : Int)) 45 1).toNat).toNat = 47 + 44 * ik := by
    rw [xup_eq, Int.toNat_natCast, xup_nn (by omega), hek, Int.toNat_natCast]
  obtain ⟨R1, b1, b2, b3⟩ := hback hh1 (by rw [h45]; exact past1.fil)
  rw [h45] at b2
  have f : ∀ q j : Nat, 45 ≤ q → ¬ (q = 45 ∧ j = 1) → R1 q j = R q j := fun q j h1 h2 => by rw [b3 q j (by omega), xup_nn h2]
  have f45 : R1 45 1 = (U : Int) := by rw [b3 45 1 (by omega), xup_eq]
  refine ⟨(U : Int), R1, ?_, by omega, past1.eq b2, ?_, ?_, fun k hk => ?_⟩
  · rw [if_pos hn, e1.eq, xlet_eq, show 0 + 1 = 1 from rfl, b1, Option.bind_some, Option.bind_some, f45]
  · obtain ⟨a, b, c, d⟩ := i2
    have e : ∀ k : Nat, R1 46 k = R 46 k := fun k => f 46 k (by omega) (by omega)
    refine ⟨by omega, by omega, fun k hk => by rw [e]; exact c k hk, fun k k' hk hk' h => d k k' hk hk' (by rw [e, e] at h; exact h)⟩
  · rw [f45]; omega
  · rw [f45, f 46 _ (by omega) (by omega)]
    obtain ⟨ik', hik', hek'⟩ := i2.2.2.1 ((U : Int).toNat - 1 - k) (by omega)
    have := i6 (k + 1) (by rw [List.length_cons]; omega)
    rw [hUt, show U + 1 - 1 - (k + 1) = (U : Int).toNat - 1 - k by omega] at this
    rw [hek', Int.toNat_natCast] at this ⊢
    exact this.out (fun q j h1 h2 => f q j (by omega) (by omega))
/-- the desk's row of a state -/
theorem SW.uniq {s : Nat → Int} {H W H' W' : Nat} {g g' : gG} (w : SW s H W g) (w' : SW s H' W' g') : H' = H ∧ W' = W ∧ g' = g := by
  have h1 : H' = H := by have := w.2.2.1; have := w'.2.2.1; omega
  have h2 : W' = W := by have := w.2.2.2.1; have := w'.2.2.2.1; omega
  subst h1 h2
  have h3 := w.2.2.2.2.2.2.1
  have h4 := w'.2.2.2.2.2.2.1
  rw [h3] at h4
  exact ⟨rfl, rfl, (Option.some.inj h4).symm⟩
theorem CI.dr {R : xN} {s : Nat → Int} {hs : List (Nat → Int)} {H W : Nat} {g : gG} (h : CI R s hs) (w : SW s H W g) : DR R 2 s H W g := by
  obtain ⟨H', W', g', w', r⟩ := h.1.1
  obtain ⟨e1, e2, e3⟩ := w.uniq w'
  subst e1 e2 e3
  exact r
theorem dact9 {f f9 : xN → Option (Int × xN)} {sp : sSp} (hc : dSpec f sp) (h9 : ∀ R, f9 R = (f_X1_keep 45 1 R).bind (fun v1 => (f v1).bind (fun v2 => (f_X1_settle 45 v2.1 v2.2).bind (fun v3 => some (v3.1, v3.2))))) {R : xN} {s : Nat → Int} {hs : List (Nat → Int)} (hI : CI R s hs) : ∃ R', f9 R = some ((sp s).1, R') ∧ (err (sp s).1 → CI R' (sp s).2 hs) ∧ (¬ err (sp s).1 → hs.length ≤ 4 → CI R' (sp s).2 (s :: hs)) := act9 (fun R s hs => by
  obtain ⟨H, W, g, w, r⟩ := hs.1
  obtain ⟨a1, -, R', a3, a4, a5⟩ := hc R s H W g w r
  exact ⟨R', a3, fun q j h1 h2 => a4 q j (by omega) h2, hs.desk a5 a1 (fun q j h => a4 q j (by omega) (by omega))⟩) h9 hI
