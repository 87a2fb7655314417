/-! What holds at the law's start. -/
theorem xins (c : Nat) (hc : c < 11) : Cond.instantiable (xct c).1 (xct c).2.2 ∈ wG := match c, hc with
  | 0, _ => wG_t 35 (by decide +kernel) (by decide +kernel)
  | 1, _ => wG_t 211 (by decide +kernel) (by decide +kernel)
  | 2, _ => wG_t 230 (by decide +kernel) (by decide +kernel)
  | 3, _ => wG_t 65 (by decide +kernel) (by decide +kernel)
  | 4, _ => wG_t 125 (by decide +kernel) (by decide +kernel)
  | 5, _ => wG_t 41 (by decide +kernel) (by decide +kernel)
  | 6, _ => wG_t 258 (by decide +kernel) (by decide +kernel)
  | 7, _ => wG_t 101 (by decide +kernel) (by decide +kernel)
  | 8, _ => wG_t 29 (by decide +kernel) (by decide +kernel)
  | 9, _ => wG_t 21 (by decide +kernel) (by decide +kernel)
  | 10, _ => wG_t 1076 (by decide +kernel) (by decide +kernel)
  | n + 11, h => absurd h (by omega)
theorem xwI : Cond.arrayClass .int ∈ wG := wG_t 63 (by decide +kernel) (by decide +kernel)
theorem xwD : Cond.arrayOver (.object RX0) ∈ lw_tbl := tb_t 197 (by decide +kernel)
theorem xwS : Cond.arrayOver (.object RX8) ∈ lw_tbl := tb_t 217 (by decide +kernel)
theorem xwC1 : Cond.laysStatic "java/lang/String" "COMPACT_STRINGS" "Z" ∈ lw_tbl := tb_t 714 (by decide +kernel)
theorem xwC2 : Cond.initialized "java/lang/String" ∈ lw_tbl := tb_t 16 (by decide +kernel)
theorem xwF1 : Cond.laysStatic "jdk/internal/util/Preconditions" "SIOOBE_FORMATTER" "Ljava/util/function/BiFunction;" ∈ lw_tbl := tb_t 730 (by decide +kernel)
theorem xwF2 : Cond.initialized "jdk/internal/util/Preconditions" ∈ lw_tbl := tb_t 18 (by decide +kernel)
theorem xwR (i : Nat) (hi : i < 15) : Cond.stringRef RX9 (xso i).1 (xso i).2 ∈ lw_tbl := match i, hi with
  | 0, _ => tb_t 691 (by decide +kernel)
  | 1, _ => tb_t 692 (by decide +kernel)
  | 2, _ => tb_t 693 (by decide +kernel)
  | 3, _ => tb_t 694 (by decide +kernel)
  | 4, _ => tb_t 695 (by decide +kernel)
  | 5, _ => tb_t 696 (by decide +kernel)
  | 6, _ => tb_t 697 (by decide +kernel)
  | 7, _ => tb_t 698 (by decide +kernel)
  | 8, _ => tb_t 699 (by decide +kernel)
  | 9, _ => tb_t 700 (by decide +kernel)
  | 10, _ => tb_t 766 (by decide +kernel)
  | 11, _ => tb_t 767 (by decide +kernel)
  | 12, _ => tb_t 768 (by decide +kernel)
  | 13, _ => tb_t 769 (by decide +kernel)
  | 14, _ => tb_t 785 (by decide +kernel)
  | n + 15, h => absurd h (by omega)
abbrev xfl : List Cond := flatC (Jvm.Cond.and given_1 narrow_1)
def xtm (i : Nat) : Term := .string RX9 (xso i).1
set_option maxRecDepth 100000 in
theorem xf_ex : ∀ i : Fin 15, Cond.exactly (xtm i) "java/lang/String" ∈ xfl := by decide +kernel
set_option maxRecDepth 100000 in
theorem xf_co : ∀ i : Fin 15, Cond.eq (.field (xtm i) "java/lang/String" "coder" "B") (.int 0) ∈ xfl := by decide +kernel
set_option maxRecDepth 100000 in
theorem xf_ar : ∀ i : Fin 15, Cond.arrayOf (.field (xtm i) "java/lang/String" "value" "[B") .byte ∈ xfl := by decide +kernel
set_option maxRecDepth 100000 in
theorem xf_le : ∀ i : Fin 15, Cond.eq (.length (.field (xtm i) "java/lang/String" "value" "[B")) (.int (Int32.ofNat (xslen.getD i 0))) ∈ xfl := by decide +kernel
set_option maxRecDepth 100000 in
theorem xf_el : ∀ i : Fin 15, ∀ j : Fin 7, j.val < xslen.getD i 0 → Cond.eq (.elem (.field (xtm i) "java/lang/String" "value" "[B") (.int (Int32.ofNat j))) (.int ((xsbyt.getD i []).getD j 0)) ∈ xfl := by decide +kernel
def xpr (c : Cond) : Option (Nat × Nat) := match c with
  | .not (.eq (.string o k) (.string o' k')) => if o = RX9 ∧ o' = RX9 then some (k, k') else none
  | _ => none
theorem xpr_of {c : Cond} {p : Nat × Nat} (h : xpr c = some p) : c = .not (.eq (.string RX9 p.1) (.string RX9 p.2)) := by
  unfold xpr at h
  split at h
  · split at h
    · rename_i hq
      cases h
      rw [hq.1, hq.2]
    · cases h
  · cases h
def xpl : List (Nat × Nat) := [(221, 223), (221, 225), (223, 225), (221, 227), (223, 227), (225, 227), (221, 229), (223, 229), (225, 229), (227, 229), (221, 231), (223, 231), (225, 231), (227, 231), (229, 231), (221, 233), (223, 233), (225, 233), (227, 233), (229, 233), (231, 233), (221, 235), (223, 235), (225, 235), (227, 235), (229, 235), (231, 235), (233, 235), (221, 237), (223, 237), (225, 237), (227, 237), (229, 237), (231, 237), (233, 237), (235, 237), (221, 239), (223, 239), (225, 239), (227, 239), (229, 239), (231, 239), (233, 239), (235, 239), (237, 239), (221, 241), (223, 241), (225, 241), (227, 241), (229, 241), (231, 241), (233, 241), (235, 241), (237, 241), (239, 241), (221, 243), (223, 243), (225, 243), (227, 243), (229, 243), (231, 243), (233, 243), (235, 243), (237, 243), (239, 243), (241, 243), (221, 245), (223, 245), (225, 245), (227, 245), (229, 245), (231, 245), (233, 245), (235, 245), (237, 245), (239, 245), (241, 245), (243, 245), (221, 247), (223, 247), (225, 247), (227, 247), (229, 247), (231, 247), (233, 247), (235, 247), (237, 247), (239, 247), (241, 247), (243, 247), (245, 247), (221, 211), (223, 211), (225, 211), (227, 211), (229, 211), (231, 211), (233, 211), (235, 211), (237, 211), (239, 211), (241, 211), (243, 211), (245, 211), (247, 211)]
set_option maxRecDepth 100000 in
theorem xpl_eq : xfl.filterMap xpr = xpl := by decide +kernel
theorem xpl_ne : ∀ i j : Fin 15, i ≠ j → ((xso i).1, (xso j).1) ∈ xpl ∨ ((xso j).1, (xso i).1) ∈ xpl := by decide +kernel
theorem xpl_in {p : Nat × Nat} (h : p ∈ xpl) : Cond.not (.eq (.string RX9 p.1) (.string RX9 p.2)) ∈ xfl := by
  rw [← xpl_eq] at h
  obtain ⟨c, hc, he⟩ := List.mem_filterMap.mp h
  rw [← xpr_of he]
  exact hc
theorem xf_ne (i j : Fin 15) (h : i ≠ j) : Cond.not (Cond.eq (xtm i) (xtm j)) ∈ xfl ∨ Cond.not (Cond.eq (xtm j) (xtm i)) ∈ xfl := (xpl_ne i j h).elim (fun q => Or.inl (xpl_in q)) (fun q => Or.inr (xpl_in q))
set_option maxRecDepth 100000 in
theorem xf_cs : Cond.eq (.static "java/lang/String" "COMPACT_STRINGS" "Z") (.int 1) ∈ xfl := by decide +kernel
set_option maxRecDepth 100000 in
theorem xf_fo : Cond.isRef (.static "jdk/internal/util/Preconditions" "SIOOBE_FORMATTER" "Ljava/util/function/BiFunction;") ∈ xfl := by decide +kernel
theorem xlen_le : ∀ i : Fin 15, xslen.getD i 0 < 7 := by decide +kernel
theorem xk_start {s : State} {b L : Nat} {xs : Nat → Int32} (hts : ∀ w ∈ lw_tbl, w.before #[Value.ref b] s = true) (hX : va_X b L xs s s.heap) (hb : b < s.heap.size) (hgv : (Jvm.Cond.and given_1 narrow_1).before #[Value.ref b] s = true) : ∃ g : xG, g.2.2.1 = s.heap ∧ g.2.2.2.2 = (L, xs) ∧ g.2.2.2.1 300 = some b ∧ xK g s := by
  have hG : ∀ w ∈ wG, w.before #[Value.ref b] s = true := fun w h => hts w (wG_sub w h)
  have hf := flat_of_before _ hgv
  have hcl : ∀ c : Nat, ∃ q : ClassId × (Nat → Nat), c < 11 → u_Kn s (xct c).1 (xct c).2.1 (xct c).2.2 q.1 q.2 := by
    intro c
    by_cases hc : c < 11
    · obtain ⟨cC, iS, h⟩ := u_known (ws := wG) (n := (xct c).2.2) hG (xfac c hc).2.1 (hG _ (xins c hc))
      exact ⟨(cC, iS), fun _ => h⟩
    · exact ⟨(0, fun _ => 0), fun h => absurd h hc⟩
  obtain ⟨D, hD⟩ := Classical.axiomOfChoice hcl
  obtain ⟨cI, kI, pI, a1, a2, a3⟩ := Cond.arrayClass_spec (hG _ xwI)
  obtain ⟨pD, cD, kD, b1, -, b2, b3, b4⟩ := Cond.arrayOver_spec (hts _ xwD)
  obtain ⟨pS, cS, kS, c1, -, c2, c3, c4⟩ := Cond.arrayOver_spec (hts _ xwS)
  have hA : ∀ a : Nat, a < s.heap.size → ¬ s.heap.size ≤ a := fun a h1 h2 => Nat.lt_irrefl _ (Nat.lt_of_lt_of_le h1 h2)
  obtain ⟨adK, adV, hS, hE⟩ := vk_Sof (args := #[Value.ref b]) (s := s) (N := 15) (tm := xtm) (len := xslen) (byt := xsbyt) (A := fun q => s.heap.size ≤ q)
    (fun i hi => Nat.lt_trans (xlen_le ⟨i, hi⟩) (by decide)) (fun i hi => hf _ (xf_ex ⟨i, hi⟩)) (fun i hi => hf _ (xf_co ⟨i, hi⟩)) (fun i hi => hf _ (xf_ar ⟨i, hi⟩)) (fun i hi => hf _ (xf_le ⟨i, hi⟩))
    (fun i hi j hj => hf _ (xf_el ⟨i, hi⟩ ⟨j, Nat.lt_trans hj (xlen_le ⟨i, hi⟩)⟩ hj))
    (fun i j hi hj h => (xf_ne ⟨i, hi⟩ ⟨j, hj⟩ (fun q => h (congrArg Fin.val q))).elim (fun q => Or.inl (hf _ q)) (fun q => Or.inr (hf _ q))) hA
  have z1 := va_Zof (A := fun q => s.heap.size ≤ q) (hts _ xwC1) (hts _ xwC2) (va_eqi (hf _ xf_cs)) hA
  obtain ⟨v, v1, v2⟩ := Cond.isRef_spec (hf _ xf_fo)
  obtain ⟨fo, hfo⟩ : ∃ fo : Option Nat, v = va_rf fo := by
    cases v with
    | ref a => exact ⟨some a, rfl⟩
    | null => exact ⟨none, rfl⟩
    | _ => cases v2
  subst hfo
  have z2 := va_Zof (A := fun q => s.heap.size ≤ q) (hts _ xwF1) (hts _ xwF2) v1 hA
  refine ⟨((fun c => (D c).1, fun c => (D c).2), (cI, cD, cS), s.heap, fun k => if k < 15 then some (adK k) else if 100 ≤ k ∧ k < 115 then some (adV (k - 100)) else if k = 200 then fo else if k = 300 then some b else none, L, xs), rfl, rfl, rfl, ⟨?_, ?_⟩, ?_, va_AO.of (hts _ xwD), va_AO.of (hts _ xwS), adK, adV, ?_, ?_, hS, z1, z2, b, rfl, hb, hX⟩
  · intro c q hq
    by_cases hc : c < 11
    · rw [(xfac c hc).1] at hq
      cases hq
      exact hD c hc
    · rw [List.getElem?_eq_none (by show 11 ≤ c; omega)] at hq
      cases hq
  · intro k q hq
    match k, hq with
    | 0, hq => cases hq; exact ⟨fun N z => ⟨(fun k h => by cases h), kI, a2, pI, a3⟩, a1⟩
    | 1, hq => cases hq; exact ⟨fun N z => ⟨(fun k h => by cases h), kD, b2, pD, b3⟩, kD, pD, b2, b3, b1, b4⟩
    | 2, hq => cases hq; exact ⟨fun N z => ⟨(fun k h => by cases h), kS, c2, pS, c3⟩, kS, pS, c2, c3, c1, c4⟩
    | n + 3, hq => cases hq
  · intro w hw
    have h1 := List.mem_filter.mp hw
    have h2 := hts w (List.mem_append_right _ h1.1)
    have h3 := h1.2
    cases w with
    | methodLinkNest a i x h => exact va_Nw.of rfl h2
    | fieldLinkNest a i b n d h => exact va_Nw.of rfl h2
    | _ => simp at h3
  · intro i hi
    refine ⟨?_, ?_⟩
    · show (if i < 15 then _ else _) = _
      rw [if_pos hi]
    · show (if 100 + i < 15 then _ else _) = _
      rw [if_neg (by omega), if_pos (by omega), Nat.add_sub_cancel_left]
  · intro i hi
    exact vk_R.of (hts _ (xwR i hi)) (hE i hi)
