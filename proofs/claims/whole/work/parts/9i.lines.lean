/-! Notes laid out: the pages that aren't hidden, the lines of the openings. -/
theorem xup_ro {R : xN} {a k q : Nat} {v : Int} (h : q ≠ a) : xup R a k v q = R q := funext fun j => xup_nn (by omega)
def vP (z : Nat → Nat) (p : Nat) : Nat := if z ((p + 1) / 2) = 0 then 1 else 0
/-- how many pages before p aren't hidden -/
def cV (z : Nat → Nat) : Nat → Nat
  | 0 => 0
  | p + 1 => cV z p + vP z p
theorem vP_le {z : Nat → Nat} {p : Nat} : vP z p ≤ 1 := by unfold vP; split <;> omega
theorem cV_s {z : Nat → Nat} {p : Nat} : cV z (p + 1) = cV z p + vP z p := rfl
theorem cV_le {z : Nat → Nat} : ∀ p, cV z p ≤ p := by
  intro p
  induction p with
  | zero => exact Nat.le_refl 0
  | succ p ih => have := vP_le (z := z) (p := p); rw [cV_s]; omega
theorem cV_mono {z : Nat → Nat} {p : Nat} : ∀ q, p ≤ q → cV z p ≤ cV z q := by
  intro q
  induction q with
  | zero => intro h; rw [show p = 0 by omega]; exact Nat.le_refl _
  | succ q ih =>
    intro h
    by_cases hq : p ≤ q
    · have := ih hq; rw [cV_s]; omega
    · rw [show p = q + 1 by omega]; exact Nat.le_refl _
theorem cV_inv {z : Nat → Nat} : ∀ m k, k < cV z m → ∃ q, q < m ∧ vP z q = 1 ∧ cV z q = k := by
  intro m
  induction m with
  | zero => intro k h; exact absurd h (Nat.not_lt_zero k)
  | succ m ih =>
    intro k h
    rw [cV_s] at h
    by_cases hk : k < cV z m
    · obtain ⟨q, h1, h2, h3⟩ := ih k hk
      exact ⟨q, by omega, h2, h3⟩
    · have := vP_le (z := z) (p := m)
      exact ⟨m, by omega, by omega, by omega⟩
theorem cV_inj {z : Nat → Nat} {p q : Nat} (hp : vP z p = 1) (hq : vP z q = 1) (h : cV z p = cV z q) : p = q := by
  by_cases h1 : p < q
  · have := cV_mono (z := z) (p := p + 1) q (by omega)
    rw [cV_s] at this; omega
  · by_cases h2 : q < p
    · have := cV_mono (z := z) (p := q + 1) p (by omega)
      rw [cV_s] at this; omega
    · omega
/-- the first line of an opening -/
def sT (z : Nat → Nat) (L D o : Nat) : Nat := L * cV z (if o ≤ D then 2 * o - 1 else 2 * D)
/-- the lines of an opening -/
def lO (z : Nat → Nat) (L D o : Nat) : Nat := if z o = 0 then (if o = 0 ∨ o = D then L else L * 2) else 0
theorem sT_0 {z : Nat → Nat} {L D : Nat} : sT z L D 0 = 0 := by
  unfold sT
  rw [if_pos (Nat.zero_le D)]
  exact Nat.mul_zero L
theorem sT_s {z : Nat → Nat} {L D o : Nat} (hD : 1 ≤ D) (ho : o ≤ D) : sT z L D (o + 1) = sT z L D o + lO z L D o := by
  unfold sT lO
  rw [if_pos ho]
  by_cases h0 : o = 0
  · subst h0
    rw [if_pos (show 0 + 1 ≤ D by omega), show 2 * (0 + 1) - 1 = 0 + 1 from rfl, cV_s, Nat.mul_add]
    have e : vP z 0 = if z 0 = 0 then 1 else 0 := rfl
    rw [e, show 2 * 0 - 1 = 0 from rfl]
    by_cases hz : z 0 = 0
    · rw [if_pos hz, if_pos hz, if_pos (Or.inl rfl), Nat.mul_one]
    · rw [if_neg hz, if_neg hz, Nat.mul_zero]
  · obtain ⟨m, rfl⟩ : ∃ m, o = m + 1 := ⟨o - 1, by omega⟩
    have e1 : vP z (2 * m + 1) = if z (m + 1) = 0 then 1 else 0 := by
      unfold vP; rw [show (2 * m + 1 + 1) / 2 = m + 1 by omega]
    have e2 : vP z (2 * m + 2) = if z (m + 1) = 0 then 1 else 0 := by
      unfold vP; rw [show (2 * m + 2 + 1) / 2 = m + 1 by omega]
    rw [show 2 * (m + 1) - 1 = 2 * m + 1 by omega]
    by_cases hd : m + 1 = D
    · rw [if_neg (by omega), show 2 * D = 2 * m + 1 + 1 by omega, cV_s, e1, Nat.mul_add]
      by_cases hz : z (m + 1) = 0
      · rw [if_pos hz, if_pos hz, if_pos (Or.inr hd), Nat.mul_one]
      · rw [if_neg hz, if_neg hz, Nat.mul_zero]
    · rw [if_pos (by omega), show 2 * (m + 1 + 1) - 1 = 2 * m + 1 + 1 + 1 by omega, cV_s, cV_s, show 2 * m + 1 + 1 = 2 * m + 2 from rfl, e1, e2, Nat.mul_add, Nat.mul_add]
      by_cases hz : z (m + 1) = 0
      · rw [if_pos hz, if_pos hz, if_neg (by omega)]; omega
      · rw [if_neg hz, if_neg hz, Nat.mul_zero]
theorem sT_mono {z : Nat → Nat} {L D o : Nat} (hD : 1 ≤ D) : ∀ o', o ≤ o' → o' ≤ D + 1 → sT z L D o ≤ sT z L D o' := by
  intro o'
  induction o' with
  | zero => intro h _; rw [show o = 0 by omega]; exact Nat.le_refl _
  | succ o' ih =>
    intro h h'
    by_cases hq : o ≤ o'
    · have := ih hq (by omega)
      rw [sT_s hD (by omega)]; omega
    · rw [show o = o' + 1 by omega]; exact Nat.le_refl _
theorem sT_top {z : Nat → Nat} {L D : Nat} : sT z L D (D + 1) = L * cV z (2 * D) := by
  unfold sT
  rw [if_neg (by omega)]
theorem mul_le9 {L k n : Nat} (hL : L ≤ 9) (hk : k ≤ n) : L * k ≤ 9 * n := Nat.mul_le_mul hL hk
theorem sT_le {z : Nat → Nat} {L D o : Nat} (hL : L ≤ 9) (hD : D ≤ 16) : sT z L D o ≤ 288 := by
  unfold sT
  have h1 : cV z (if o ≤ D then 2 * o - 1 else 2 * D) ≤ 32 := by
    have := cV_le (z := z) (if o ≤ D then 2 * o - 1 else 2 * D)
    have h2 : (if o ≤ D then 2 * o - 1 else 2 * D) ≤ 32 := by split <;> omega
    omega
  exact mul_le9 hL h1
/-- which openings of a row are shut -/
def zO (s : Nat → Int) (t : Nat → Nat) (D o : Nat) : Nat := msk (s 8).toNat (spE s) (shN t D o)
theorem hid_vP {s : Nat → Int} {t : Nat → Nat} {D p : Nat} : (hid s t D p ↔ vP (zO s t D) p = 0) ∧ (¬ hid s t D p ↔ vP (zO s t D) p = 1) := by
  unfold hid vP zO
  constructor
  · constructor
    · intro h; rw [if_neg h]
    · intro h; split at h
      · omega
      · assumption
  · constructor
    · intro h; rw [if_pos (Classical.byContradiction h)]
    · intro h; split at h
      · rename_i q; exact fun g => g q
      · omega
/-- what the class's layout reads of the desk -/
def CB (R : xN) (s : Nat → Int) (L D : Nat) (t : Nat → Nat) : Prop := LC R 6 D t ∧ R 2 5 = s 7 ∧ R 2 6 = s 8 ∧ (0 ≤ s 8 ∧ s 8 ≤ 15) ∧ R 2 9 = (L : Int) ∧ (1 ≤ L ∧ L ≤ 9) ∧ 1 ≤ D
theorem LC.k {R R' : xN} {D : Nat} {t : Nat → Nat} (h : LC R 6 D t) (k : ∀ q j : Nat, q < 311 → R' q j = R q j) : LC R' 6 D t := by
  refine ⟨h.1, fun i hi => ⟨(h.2.1 i hi).1, by rw [k 7 i (by omega)]; exact (h.2.1 i hi).2⟩, ?_⟩
  have := h.2.2
  unfold f_X3_depth at this ⊢
  rw [k 6 5 (by omega)]
  exact this
theorem CB.k {R R' : xN} {s : Nat → Int} {L D : Nat} {t : Nat → Nat} (h : CB R s L D t) (k : ∀ q j : Nat, q < 311 → R' q j = R q j) : CB R' s L D t := by
  obtain ⟨h1, h2, h3, h4, h5, h6⟩ := h
  refine ⟨h1.k k, ?_, ?_, h4, ?_, h6⟩
  · rw [k 2 5 (by omega)]; exact h2
  · rw [k 2 6 (by omega)]; exact h3
  · rw [k 2 9 (by omega)]; exact h5
theorem la9 {R : xN} {s : Nat → Int} {L D o : Nat} {t : Nat → Nat} (h : CB R s L D t) (ho : o ≤ D) : f_X0_linesAt 2 (o : Int) R = some (lO (zO s t D) L D o : Int) := by
  obtain ⟨h1, h2, h3, h4, h5, h6, h7⟩ := h
  have hD := h1.1
  have hs := shut9 h1 ho h2 h3 h4
  unfold f_X0_linesAt lO
  rw [hs, Option.bind_some, show 2 + 4 = 6 from rfl, h1.2.2, Option.bind_some, xlet_eq, h5]
  have hz : zO s t D o = msk (s 8).toNat (spE s) (shN t D o) := rfl
  rw [← hz]
  have e2 : Qe (w4 ((L : Int) * 2)) ((L * 2 : Nat) : Int) := by unfold Qe; rw [w4_of (by omega)]; omega
  rw [e2.eq]
  by_cases hc : zO s t D o = 0
  · rw [if_pos (show (zO s t D o : Int) = 0 by omega), if_pos hc]
    by_cases h0 : o = 0
    · rw [if_pos (show (o : Int) = 0 by omega), if_pos (Or.inl h0)]
    · rw [if_neg (show ¬ (o : Int) = 0 by omega)]
      by_cases hd : o = D
      · rw [if_pos (show (o : Int) = (D : Int) by omega), if_pos (Or.inr hd)]
      · rw [if_neg (show ¬ (o : Int) = (D : Int) by omega), if_neg (show ¬ (o = 0 ∨ o = D) by omega)]
  · rw [if_neg (show ¬ (zO s t D o : Int) = 0 by omega), if_neg hc]
    rfl
theorem cln_lp {s : Nat → Int} {L D : Nat} {t : Nat → Nat} : ∀ (n c o : Nat) (R : xN), c < n → o + c = D + 1 → CB R s L D t → R 314 5 = ((D + 1 : Nat) : Int) → R 318 o = (sT (zO s t D) L D o : Int) → ∃ R', (∀ X : Int → xN → Option xN, lp_X2_countLines_27 314 2 n (o : Int) R X = X ((D + 1 : Nat) : Int) R') ∧ (∀ k : Nat, o ≤ k → k ≤ D + 1 → R' 318 k = (sT (zO s t D) L D k : Int)) ∧ ∀ q j : Nat, ¬ (q = 318 ∧ o < j) → R' q j = R q j := by
  intro n
  induction n with
  | zero => intro c o R h; omega
  | succ n ih =>
    intro c o R h1 h2 hC h5 h8
    have hD := hC.1.1
    obtain ⟨hL, hD1⟩ := hC.2.2.2.2.2
    cases c with
    | zero =>
      refine ⟨R, fun X => ?_, fun k h3 h4 => ?_, fun q j _ => rfl⟩
      · rw [lp_X2_countLines_27, h5, if_pos (by omega), show o = D + 1 by omega]
      · rw [show k = o by omega]; exact h8
    | succ c =>
      have ho : o ≤ D := by omega
      have e5 : Qe (w4 ((o : Int) + 1)) ((o + 1 : Nat) : Int) := by unfold Qe; rw [w4_of (by omega)]; omega
      have hs := sT_s (z := zO s t D) (L := L) hD1 ho
      have hb := sT_le (z := zO s t D) (L := L) (o := o + 1) hL.2 hD
      have e6 : Qe (w4 ((sT (zO s t D) L D o : Int) + (lO (zO s t D) L D o : Int))) (sT (zO s t D) L D (o + 1) : Int) := by unfold Qe; rw [w4_of (by omega)]; omega
      obtain ⟨R', b1, b2, b3⟩ := ih c (o + 1) (xup R 318 (o + 1) (sT (zO s t D) L D (o + 1) : Int)) (by omega) (by omega) (hC.k (fun q j hq => xup_nn (by omega))) (by rw [xup_nn (by omega)]; exact h5) xup_eq
      refine ⟨R', fun X => ?_, fun k h3 h4 => ?_, fun q j hq => by rw [b3 q j (by omega), xup_nn (by omega)]⟩
      · rw [lp_X2_countLines_27, h5, if_neg (by omega), if_pos (show (0 : Int) ≤ (o : Int) ∧ (o : Int) < 18 by omega), la9 hC ho, Option.bind_some, e5.eq, if_pos (show (0 : Int) ≤ ((o + 1 : Nat) : Int) ∧ ((o + 1 : Nat) : Int) < 18 by omega), tnc, tnc, show 314 + 4 = 318 from rfl, h8, e6.eq, xlet_eq, xlet_eq]
        exact b1 X
      · by_cases hk : k = o
        · subst hk; rw [b3 318 k (by omega), xup_nn (by omega)]; exact h8
        · exact b2 k (by omega) h4
/-- the class's layout so far: openings and their lines -/
def Ls (R : xN) (s : Nat → Int) (L D : Nat) (t : Nat → Nat) : Prop := R 314 6 = (L : Int) ∧ R 314 5 = ((D + 1 : Nat) : Int) ∧ ∀ k : Nat, k ≤ D + 1 → R 318 k = (sT (zO s t D) L D k : Int)
theorem cln9 {R : xN} {s : Nat → Int} {L D : Nat} {t : Nat → Nat} (hC : CB R s L D t) (h6 : R 314 6 = (L : Int)) : ∃ R', f_X2_countLines 314 2 R = some R' ∧ Ls R' s L D t ∧ ∀ q j : Nat, ¬ (q = 314 ∨ q = 318) → R' q j = R q j := by
  have hD := hC.1.1
  have e1 : Qe (w4 ((if (16 : Int) < (D : Int) then 16 else (D : Int)) + 1)) ((D + 1 : Nat) : Int) := by
    unfold Qe
    rw [if_neg (by omega), w4_of (by omega)]; omega
  obtain ⟨R', b1, b2, b3⟩ := cln_lp (s := s) (L := L) (D := D) (t := t) 6000 (D + 1) 0 (xup (xup R 314 5 ((D + 1 : Nat) : Int)) 318 0 0) (by omega) (by omega) ((hC.k (fun q j hq => xup_nn (by omega))).k (fun q j hq => xup_nn (by omega))) (by rw [xup_nn (by omega), xup_eq]) (by rw [sT_0]; exact xup_eq)
  rw [z0] at b1
  refine ⟨R', ?_, ⟨?_, ?_, fun k hk => b2 k (Nat.zero_le k) hk⟩, fun q j hq => ?_⟩
  · unfold f_X2_countLines
    rw [show 2 + 4 = 6 from rfl, hC.1.2.2, Option.bind_some, xlet_eq, xlet_eq, e1.eq, show 314 + 4 = 318 from rfl, b1]
  · rw [b3 314 6 (by omega), xup_nn (by omega), xup_nn (by omega)]; exact h6
  · rw [b3 314 5 (by omega), xup_nn (by omega), xup_eq]
  · rw [b3 q j (by omega), xup_nn (by omega), xup_nn (by omega)]
theorem lno9 {R : xN} {s : Nat → Int} {L D o : Nat} {t : Nat → Nat} (hC : CB R s L D t) (hs : Ls R s L D t) (ho : o ≤ D) : f_X2_linesOf 314 (o : Int) R = some (lO (zO s t D) L D o : Int) := by
  have hD := hC.1.1
  obtain ⟨hL, hD1⟩ := hC.2.2.2.2.2
  have h1 := sT_s (z := zO s t D) (L := L) hD1 ho
  have hb := sT_le (z := zO s t D) (L := L) (o := o + 1) hL.2 hD
  have e5 : Qe (w4 ((o : Int) + 1)) ((o + 1 : Nat) : Int) := by unfold Qe; rw [w4_of (by omega)]; omega
  have e6 : Qe (w4 ((sT (zO s t D) L D (o + 1) : Int) - (sT (zO s t D) L D o : Int))) (lO (zO s t D) L D o : Int) := by unfold Qe; rw [w4_of (by omega)]; omega
  have e7 : Qe (w4 (((D + 1 : Nat) : Int) - 1)) (D : Int) := by unfold Qe; rw [w4_of (by omega)]; omega
  unfold f_X2_linesOf
  rw [hs.2.1, e7.eq, in9, Option.bind_some, if_pos (decide_eq_true (by omega)), e5.eq, if_pos (by omega), if_pos (by omega), tnc, tnc, show 314 + 4 = 318 from rfl, hs.2.2 o (by omega), hs.2.2 (o + 1) (by omega), e6.eq]
theorem Ls.k {R R' : xN} {s : Nat → Int} {L D : Nat} {t : Nat → Nat} (h : Ls R s L D t) (k : ∀ q j : Nat, q = 318 ∨ (q = 314 ∧ j ≠ 3) → R' q j = R q j) : Ls R' s L D t := ⟨by rw [k 314 6 (by omega)]; exact h.1, by rw [k 314 5 (by omega)]; exact h.2.1, fun o ho => by rw [k 318 o (by omega)]; exact h.2.2 o ho⟩
/-- a list of the pages that aren't hidden, in cell b -/
def Pg (R : xN) (b : Nat) (z : Nat → Nat) (m : Nat) : Prop := ∀ q, q < m → vP z q = 1 → R b (cV z q) = (q : Int)
theorem Pg.up {R : xN} {b m : Nat} {z : Nat → Nat} (h : Pg R b z m) (hv : vP z m = 1) : Pg (xup R b (cV z m) (m : Int)) b z (m + 1) := by
  intro q hq hz
  by_cases hqm : q = m
  · subst hqm; exact xup_eq
  · have h1 := cV_mono (z := z) (p := q + 1) m (by omega)
    rw [cV_s] at h1
    rw [xup_nn (by omega)]
    exact h q (by omega) hz
theorem Pg.skip {R : xN} {b m : Nat} {z : Nat → Nat} (h : Pg R b z m) (hv : ¬ vP z m = 1) : Pg R b z (m + 1) := fun q hq hz => by
  by_cases hqm : q = m
  · subst hqm; exact absurd hz hv
  · exact h q (by omega) hz
theorem Pg.k {R R' : xN} {b m : Nat} {z : Nat → Nat} (h : Pg R b z m) (k : ∀ j, R' b j = R b j) : Pg R' b z m := fun q hq hz => by rw [k]; exact h q hq hz
theorem lst_lp {s : Nat → Int} {L D : Nat} {t : Nat → Nat} : ∀ (n c p : Nat) (R : xN), c < n → p + c = 2 * D → CB R s L D t → Ls R s L D t → R 314 3 = (cV (zO s t D) p : Int) → Pg R 317 (zO s t D) p → ∃ R', (∀ X : Int → xN → Option xN, lp_X2_listPages_7 314 2 n (p : Int) R X = X ((2 * D : Nat) : Int) R') ∧ R' 314 3 = (cV (zO s t D) (2 * D) : Int) ∧ Pg R' 317 (zO s t D) (2 * D) ∧ ∀ q j : Nat, ¬ (q = 317 ∨ (q = 314 ∧ j = 3)) → R' q j = R q j := by
  intro n
  induction n with
  | zero => intro c p R h; omega
  | succ n ih =>
    intro c p R h1 h2 hC hs h3 hP
    have hD := hC.1.1
    obtain ⟨hL, hD1⟩ := hC.2.2.2.2.2
    have e1 : Qe (w4 (w4 ((D : Int) * 2) - 1)) (2 * (D : Int) - 1) := by unfold Qe; rw [w4_of (x := (D : Int) * 2) (by omega), w4_of (by omega)]; omega
    have hlp : f_X3_lastPage 6 R = some (2 * (D : Int) - 1) := by
      unfold f_X3_lastPage
      rw [hC.1.2.2, Option.bind_some, e1.eq]
    have hc := cV_le (z := zO s t D) p
    cases c with
    | zero =>
      refine ⟨R, fun X => ?_, ?_, ?_, fun q j _ => rfl⟩
      · rw [lp_X2_listPages_7, show 2 + 4 = 6 from rfl, hlp, Option.bind_some, if_pos (by omega), show p = 2 * D by omega]
      · rw [← show p = 2 * D by omega]; exact h3
      · rw [← show p = 2 * D by omega]; exact hP
    | succ c =>
      have e5 : Qe (w4 ((p : Int) + 1)) ((p + 1 : Nat) : Int) := by unfold Qe; rw [w4_of (by omega)]; omega
      have eh := half1 (p := p) (by omega)
      have hl := lno9 hC hs (o := (p + 1) / 2) (by omega)
      have hv : vP (zO s t D) p = 1 ↔ ¬ lO (zO s t D) L D ((p + 1) / 2) = 0 := by
        unfold vP lO
        by_cases hz : zO s t D ((p + 1) / 2) = 0
        · rw [if_pos hz, if_pos hz]
          refine ⟨fun _ => ?_, fun _ => rfl⟩
          split <;> omega
        · rw [if_neg hz, if_neg hz]
          exact ⟨fun h => by omega, fun h => absurd rfl h⟩
      by_cases hvp : vP (zO s t D) p = 1
      · have hlp' := hv.mp hvp
        have e6 : Qe (w4 ((cV (zO s t D) p : Int) + 1)) (cV (zO s t D) (p + 1) : Int) := by
          unfold Qe
          rw [cV_s, hvp, w4_of (by omega)]; omega
        obtain ⟨R', b1, b2, b3, b4⟩ := ih c (p + 1) (xup (xup R 317 (cV (zO s t D) p) (p : Int)) 314 3 (cV (zO s t D) (p + 1) : Int)) (by omega) (by omega) ((hC.k (fun q j hq => xup_nn (by omega))).k (fun q j hq => xup_nn (by omega))) ((hs.k (fun q j hq => xup_nn (by omega))).k (fun q j hq => xup_nn (by omega))) xup_eq ((hP.up hvp).k (fun j => xup_nn (by omega)))
        refine ⟨R', fun X => ?_, b2, b3, fun q j hq => by rw [b4 q j hq, xup_nn (by omega), xup_nn (by omega)]⟩
        rw [lp_X2_listPages_7, show 2 + 4 = 6 from rfl, hlp, Option.bind_some, if_neg (by omega), h3, if_neg (by omega), eh.eq, hl, Option.bind_some, if_neg (by omega), if_pos (by omega), tnc, show 314 + 3 = 317 from rfl, xlet_eq, xlet_eq, xlet_eq, xup_nn (show ¬ (314 = 317 ∧ (3 : Nat) = cV (zO s t D) p) by omega), h3, e6.eq, e5.eq]
        exact b1 X
      · have hlp' : lO (zO s t D) L D ((p + 1) / 2) = 0 := Classical.byContradiction fun h => hvp (hv.mpr h)
        have hv0 : vP (zO s t D) p = 0 := by have := vP_le (z := zO s t D) (p := p); omega
        obtain ⟨R', b1, b2, b3, b4⟩ := ih c (p + 1) R (by omega) (by omega) hC hs (by rw [cV_s, hv0]; exact h3) (hP.skip hvp)
        refine ⟨R', fun X => ?_, b2, b3, b4⟩
        rw [lp_X2_listPages_7, show 2 + 4 = 6 from rfl, hlp, Option.bind_some, if_neg (by omega), h3, if_neg (by omega), eh.eq, hl, Option.bind_some, if_pos (by omega), xlet_eq, e5.eq]
        exact b1 X
theorem lst9 {R : xN} {s : Nat → Int} {L D : Nat} {t : Nat → Nat} (hC : CB R s L D t) (hs : Ls R s L D t) : ∃ R', f_X2_listPages 314 2 R = some R' ∧ Ls R' s L D t ∧ R' 314 3 = (cV (zO s t D) (2 * D) : Int) ∧ Pg R' 317 (zO s t D) (2 * D) ∧ ∀ q j : Nat, ¬ (q = 317 ∨ (q = 314 ∧ j = 3)) → R' q j = R q j := by
  have hD := hC.1.1
  obtain ⟨R', b1, b2, b3, b4⟩ := lst_lp (s := s) (L := L) (D := D) (t := t) 6000 (2 * D) 0 (xup R 314 3 0) (by omega) (by omega) (hC.k (fun q j hq => xup_nn (by omega))) (hs.k (fun q j hq => xup_nn (by omega))) xup_eq (fun q hq => absurd hq (Nat.not_lt_zero q))
  rw [z0] at b1
  refine ⟨R', ?_, (hs.k (fun q j hq => xup_nn (by omega))).k (fun q j hq => b4 q j (by omega)), b2, b3, fun q j hq => by rw [b4 q j hq, xup_nn (by omega)]⟩
  unfold f_X2_listPages
  rw [xlet_eq, b1]
/-- the model's pages -/
theorem ml_lp {W D : Nat} {t : Nat → Nat} : ∀ (n c p : Nat) (R : xN), c < n → p + c = 2 * D → LM R W D t → (R 324 7 = 0 ∨ R 324 7 = 1) → (0 ≤ R 324 8 ∧ R 324 8 ≤ 15) → R 323 28 = (cV (zO (R 324) t D) p : Int) → Pg R 338 (zO (R 324) t D) p → ∃ R', (∀ X : Int → xN → Option xN, lp_X10_layNotes_7 323 n (p : Int) R X = X ((2 * D : Nat) : Int) R') ∧ R' 323 28 = (cV (zO (R 324) t D) (2 * D) : Int) ∧ Pg R' 338 (zO (R 324) t D) (2 * D) ∧ ∀ q j : Nat, ¬ (q = 338 ∨ (q = 323 ∧ j = 28)) → R' q j = R q j := by
  intro n
  induction n with
  | zero => intro c p R h; omega
  | succ n ih =>
    intro c p R h1 h2 hL h7 h8 h3 hP
    have hD := hL.1
    have h9 := hL.2.2.2.1
    have e1 : Qe (w4 (2 * (D : Int))) ((2 * D : Nat) : Int) := by unfold Qe; rw [w4_of (by omega)]; omega
    have hc := cV_le (z := zO (R 324) t D) p
    cases c with
    | zero =>
      refine ⟨R, fun X => ?_, ?_, ?_, fun q j _ => rfl⟩
      · rw [lp_X10_layNotes_7, h9, e1.eq, if_pos (by omega), show p = 2 * D by omega]
      · rw [← show p = 2 * D by omega]; exact h3
      · rw [← show p = 2 * D by omega]; exact hP
    | succ c =>
      have e5 : Qe (w4 ((p : Int) + 1)) ((p + 1 : Nat) : Int) := by unfold Qe; rw [w4_of (by omega)]; omega
      have hh := hid10 hL (p := p) (by omega) h7 h8
      obtain ⟨v0, v1⟩ := hid_vP (s := R 324) (t := t) (D := D) (p := p)
      by_cases hvp : vP (zO (R 324) t D) p = 1
      · have hn := hh.2 (v1.mpr hvp)
        have e6 : Qe (w4 ((cV (zO (R 324) t D) p : Int) + 1)) (cV (zO (R 324) t D) (p + 1) : Int) := by
          unfold Qe
          rw [cV_s, hvp, w4_of (by omega)]; omega
        have hr : (xup (xup R 338 (cV (zO (R 324) t D) p) (p : Int)) 323 28 (cV (zO (R 324) t D) (p + 1) : Int)) 324 = R 324 := by rw [xup_ro (by omega), xup_ro (by omega)]
        obtain ⟨R', b1, b2, b3, b4⟩ := ih c (p + 1) (xup (xup R 338 (cV (zO (R 324) t D) p) (p : Int)) 323 28 (cV (zO (R 324) t D) (p + 1) : Int)) (by omega) (by omega) (hL.fr (by rw [hr]) (by rw [xup_nn (by omega), xup_nn (by omega)]) (fun q j g1 g2 => by rw [xup_nn (by omega), xup_nn (by omega)])) (by rw [hr]; exact h7) (by rw [hr]; exact h8) (by rw [hr]; exact xup_eq) (by rw [hr]; exact (hP.up hvp).k (fun j => xup_nn (by omega)))
        rw [hr] at b2 b3
        refine ⟨R', fun X => ?_, b2, b3, fun q j hq => by rw [b4 q j hq, xup_nn (by omega), xup_nn (by omega)]⟩
        rw [lp_X10_layNotes_7, h9, e1.eq, if_neg (by omega), hn, Option.bind_some, if_neg Bool.false_ne_true, h3, if_pos (by omega), tnc, show 323 + 15 = 338 from rfl, xlet_eq, xlet_eq, xlet_eq, xup_nn (show ¬ (323 = 338 ∧ (28 : Nat) = cV (zO (R 324) t D) p) by omega), h3, e6.eq, e5.eq]
        exact b1 X
      · have hv0 : vP (zO (R 324) t D) p = 0 := by have := vP_le (z := zO (R 324) t D) (p := p); omega
        have hy := hh.1 (v0.mpr hv0)
        obtain ⟨R', b1, b2, b3, b4⟩ := ih c (p + 1) R (by omega) (by omega) hL h7 h8 (by rw [cV_s, hv0]; exact h3) (hP.skip hvp)
        refine ⟨R', fun X => ?_, b2, b3, b4⟩
        rw [lp_X10_layNotes_7, h9, e1.eq, if_neg (by omega), hy, Option.bind_some, if_pos rfl, xlet_eq, e5.eq]
        exact b1 X
