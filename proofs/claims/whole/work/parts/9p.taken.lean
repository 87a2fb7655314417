/-! Lines taken on a page. -/
def smF (h : Nat → Nat) : Nat → Nat
  | 0 => 0
  | m + 1 => smF h m + h m
theorem smF_ext {h h' : Nat → Nat} : ∀ m, (∀ y, y < m → h y = h' y) → smF h m = smF h' m := by
  intro m
  induction m with
  | zero => intro _; rfl
  | succ m ih =>
    intro e
    show smF h m + h m = smF h' m + h' m
    rw [ih (fun y hy => e y (by omega)), e m (by omega)]
theorem smF_add {h h' : Nat → Nat} {y0 d : Nat} : ∀ m, (∀ y, y < m → h' y = h y + if y = y0 then d else 0) → smF h' m = smF h m + if y0 < m then d else 0 := by
  intro m
  induction m with
  | zero => intro _; rw [if_neg (by omega)]; rfl
  | succ m ih =>
    intro e
    have h1 := ih (fun y hy => e y (by omega))
    have h2 := e m (by omega)
    show smF h' m + h' m = smF h m + h m + _
    rw [h1, h2]
    by_cases c : m = y0
    · subst c
      rw [if_neg (by omega), if_pos rfl, if_pos (by omega)]; omega
    · rw [if_neg c]
      by_cases c2 : y0 < m
      · rw [if_pos c2, if_pos (by omega)]; omega
      · rw [if_neg c2, if_neg (by omega)]; omega
theorem smF_le {h : Nat → Nat} (hh : ∀ y, h y ≤ 1) : ∀ m, smF h m ≤ m := by
  intro m
  induction m with
  | zero => exact Nat.le_refl 0
  | succ m ih => show smF h m + h m ≤ m + 1; have := hh m; omega
/-- a line is one of the first notes' -/
def cvB (f : Nat → Int) (ln : Nat → Nat) : Nat → Nat → Bool
  | 0, _ => false
  | a + 1, y => cvB f ln a y || decide (0 ≤ f a ∧ f a ≤ (y : Int) ∧ (y : Int) < f a + (ln a : Int))
theorem cvB_of {f : Nat → Int} {ln : Nat → Nat} : ∀ a y, cvB f ln a y = true → ∃ b, b < a ∧ 0 ≤ f b ∧ f b ≤ (y : Int) ∧ (y : Int) < f b + (ln b : Int) := by
  intro a
  induction a with
  | zero => intro y h; exact absurd h (by show ¬ (false = true); decide)
  | succ a ih =>
    intro y h
    have h' : (cvB f ln a y || decide (0 ≤ f a ∧ f a ≤ (y : Int) ∧ (y : Int) < f a + (ln a : Int))) = true := h
    rw [Bool.or_eq_true_iff, decide_eq_true_iff] at h'
    rcases h' with h' | h'
    · obtain ⟨b, b1, b2⟩ := ih y h'
      exact ⟨b, by omega, b2⟩
    · exact ⟨a, by omega, h'⟩
def hW (p : Nat → Int) (L : Nat) (pg : Int) (y : Nat) : Nat := if p (y / L) = pg then 1 else 0
def wP (p : Nat → Int) (L : Nat) (pg : Int) (P : Nat → Bool) (y : Nat) : Nat := if P y = true then hW p L pg y else 0
theorem wP_le {p : Nat → Int} {L : Nat} {pg : Int} {P : Nat → Bool} (y : Nat) : wP p L pg P y ≤ 1 := by
  unfold wP hW
  split
  · split <;> omega
  · omega
theorem wP_c {p : Nat → Int} {L : Nat} {pg : Int} {P P' : Nat → Bool} {y : Nat} (h : P y = P' y) : wP p L pg P y = wP p L pg P' y := by unfold wP; rw [h]
theorem tin_lp {R1 R2 : xN} {s : Nat → Int} {L N K a y0 : Nat} {pg : Int} {P : Nat → Bool} (h : Lay R1 R2 s L N K) (hB : NB R1 s N) (hs : NS s N) (hL : 1 ≤ L ∧ L ≤ 9) (ha : a < N) (hy : y0 + lnN s a ≤ L * K) (hP : ∀ y, y0 ≤ y → y < y0 + lnN s a → P y = false) : ∀ (n c i : Nat), c < n → i + c = lnN s a → ∀ X : Int → Int → Option Int, lp_X2_takenOn_33 314 13 pg (a : Int) (y0 : Int) R1 n (smF (wP (R2 338) L pg (fun y => P y || decide (y0 ≤ y ∧ y < y0 + i))) (L * K) : Int) (i : Int) X = X (smF (wP (R2 338) L pg (fun y => P y || decide (y0 ≤ y ∧ y < y0 + lnN s a))) (L * K) : Int) (lnN s a : Int) := by
  have hb : L * K ≤ 9 * 32 := Nat.mul_le_mul hL.2 h.2.2.2.1
  have hln : f_X4_linesOf 13 (a : Int) R1 = some (lnN s a : Int) := by
    unfold f_X4_linesOf
    have := (hs a ha).1
    rw [nf9 (f := 2) (m := 2) hB ha rfl (by omega), Option.bind_some, show 38 + 2 = 40 from rfl]
    exact congrArg some (by unfold lnN; omega)
  intro n
  induction n with
  | zero => intro c i g; omega
  | succ n ih =>
    intro c i g1 g2 X
    cases c with
    | zero =>
      rw [lp_X2_takenOn_33, if_neg (by omega), hln, Option.bind_some, if_pos (by omega), show i = lnN s a by omega]
    | succ c =>
      have e5 : Qe (w4 ((i : Int) + 1)) ((i + 1 : Nat) : Int) := by unfold Qe; rw [w4_of (by omega)]; omega
      have e6 : Qe (w4 ((y0 : Int) + (i : Int))) ((y0 + i : Nat) : Int) := by unfold Qe; rw [w4_of (by omega)]; omega
      obtain ⟨p1, p2, p3⟩ := pgl9 h hL (show y0 + i < L * K by omega)
      have hi := ih c (i + 1) (by omega) (by omega) X
      have hsum : smF (wP (R2 338) L pg (fun y => P y || decide (y0 ≤ y ∧ y < y0 + (i + 1)))) (L * K) = smF (wP (R2 338) L pg (fun y => P y || decide (y0 ≤ y ∧ y < y0 + i))) (L * K) + hW (R2 338) L pg (y0 + i) := by
        rw [smF_add (h := wP (R2 338) L pg (fun y => P y || decide (y0 ≤ y ∧ y < y0 + i))) (y0 := y0 + i) (d := hW (R2 338) L pg (y0 + i)) (L * K) (fun y _ => ?_), if_pos (by omega)]
        by_cases c1 : y = y0 + i
        · subst c1
          show (if (P (y0 + i) || decide (y0 ≤ y0 + i ∧ y0 + i < y0 + (i + 1))) = true then hW (R2 338) L pg (y0 + i) else 0) = (if (P (y0 + i) || decide (y0 ≤ y0 + i ∧ y0 + i < y0 + i)) = true then hW (R2 338) L pg (y0 + i) else 0) + if y0 + i = y0 + i then hW (R2 338) L pg (y0 + i) else 0
          rw [hP (y0 + i) (by omega) (by omega), Bool.false_or, Bool.false_or, decide_eq_true (by omega), decide_eq_false (by omega), if_pos rfl, if_neg Bool.false_ne_true, if_pos rfl]; omega
        · rw [if_neg c1]
          have hd : decide (y0 ≤ y ∧ y < y0 + (i + 1)) = decide (y0 ≤ y ∧ y < y0 + i) := by
            by_cases q : y0 ≤ y ∧ y < y0 + i
            · rw [decide_eq_true q, decide_eq_true (by omega)]
            · rw [decide_eq_false q, decide_eq_false (by omega)]
          rw [Nat.add_zero]
          exact wP_c (P := fun y => P y || decide (y0 ≤ y ∧ y < y0 + (i + 1))) (P' := fun y => P y || decide (y0 ≤ y ∧ y < y0 + i)) (by
            show (P y || decide (y0 ≤ y ∧ y < y0 + (i + 1))) = (P y || decide (y0 ≤ y ∧ y < y0 + i))
            rw [hd])
      have hle := smF_le (h := wP (R2 338) L pg (fun y => P y || decide (y0 ≤ y ∧ y < y0 + i))) (fun y => wP_le y) (L * K)
      rw [hsum] at hi
      rw [lp_X2_takenOn_33, if_neg (by omega), hln, Option.bind_some, if_neg (by omega), e6.eq, p1, Option.bind_some, asn9.1, asn9.2, Option.bind_some, Option.bind_some, e5.eq, xlet_eq, xlet_eq, xlet_eq, xlet_eq]
      unfold hW at hi
      generalize smF (wP (R2 338) L pg (fun y => P y || decide (y0 ≤ y ∧ y < y0 + i))) (L * K) = acc at *
      by_cases c1 : R2 338 ((y0 + i) / L) = pg
      · have e7 : Qe (w4 ((acc : Int) + 1)) ((acc + 1 : Nat) : Int) := by unfold Qe; rw [w4_of (by omega)]; omega
        rw [if_pos c1] at hi ⊢
        rw [e7.eq]
        exact hi
      · have e7 : Qe (w4 ((acc : Int) + 0)) ((acc + 0 : Nat) : Int) := by unfold Qe; rw [w4_of (by omega)]; omega
        rw [if_neg c1] at hi ⊢
        rw [e7.eq]
        exact hi
theorem tak_lp {R1 R2 : xN} {s : Nat → Int} {L N K : Nat} {pg : Int} (h : Lay R1 R2 s L N K) (hB : NB R1 s N) (hs : NS s N) (hL : 1 ≤ L ∧ L ≤ 9) : ∀ (n c a : Nat), c < n → a + c = N → ∀ X : Int → Int → Option Int, lp_X2_takenOn_5 314 13 pg R1 n (smF (wP (R2 338) L pg (cvB (R2 339) (lnN s) a)) (L * K) : Int) (a : Int) X = X (smF (wP (R2 338) L pg (cvB (R2 339) (lnN s) N)) (L * K) : Int) (N : Int) := by
  have hN := hB.2.1
  intro n
  induction n with
  | zero => intro c a g; omega
  | succ n ih =>
    intro c a g1 g2 X
    cases c with
    | zero => rw [lp_X2_takenOn_5, hB.2.2.1, if_pos (by omega), show a = N by omega]
    | succ c =>
      have e5 : Qe (w4 ((a : Int) + 1)) ((a + 1 : Nat) : Int) := by unfold Qe; rw [w4_of (by omega)]; omega
      have ga : (0 : Int) ≤ (a : Int) ∧ (a : Int) < 12 := by omega
      have hi := ih c (a + 1) (by omega) (by omega) X
      obtain ⟨l1, l2⟩ := h.2.2.2.2.2.2.1 a (by omega)
      rw [lp_X2_takenOn_5, hB.2.2.1, if_neg (by omega), if_neg (by omega), if_pos ga, tnc, show 314 + 2 = 316 from rfl, l1, xlet_eq]
      by_cases c1 : R2 339 a < 0
      · have hx : smF (wP (R2 338) L pg (cvB (R2 339) (lnN s) (a + 1))) (L * K) = smF (wP (R2 338) L pg (cvB (R2 339) (lnN s) a)) (L * K) := smF_ext _ (fun y _ => by
          unfold wP
          rw [show cvB (R2 339) (lnN s) (a + 1) y = (cvB (R2 339) (lnN s) a y || decide (0 ≤ R2 339 a ∧ R2 339 a ≤ (y : Int) ∧ (y : Int) < R2 339 a + (lnN s a : Int))) from rfl, decide_eq_false (by omega), Bool.or_false])
        rw [show nine (R2 339 a) = -9 by unfold nine; rw [if_pos c1], lp_X2_takenOn_33, if_pos rfl, xlet_eq, e5.eq, ← hx]
        exact hi
      · obtain ⟨y0, hy⟩ := Int.eq_ofNat_of_zero_le (show 0 ≤ R2 339 a by omega)
        have hyb := l2 (by omega)
        have hP : ∀ y, y0 ≤ y → y < y0 + lnN s a → cvB (R2 339) (lnN s) a y = false := fun y g3 g4 => by
          apply Bool.eq_false_iff.mpr
          intro hc
          obtain ⟨b, b1, b2, b3, b4⟩ := cvB_of a y hc
          exact h.2.2.2.2.2.2.2 b a (by omega) (by omega) (by omega) b2 (by omega) y b3 b4 (by omega) (by omega)
        have ht := tin_lp (pg := pg) (P := cvB (R2 339) (lnN s) a) h hB hs hL (show a < N by omega) (y0 := y0) (by omega) hP 6000 (lnN s a) 0 (by have := (hs a (by omega)).1; unfold lnN; omega) (by omega)
        have h0 : smF (wP (R2 338) L pg (fun y => cvB (R2 339) (lnN s) a y || decide (y0 ≤ y ∧ y < y0 + 0))) (L * K) = smF (wP (R2 338) L pg (cvB (R2 339) (lnN s) a)) (L * K) := smF_ext _ (fun y _ => wP_c (by
          show (cvB (R2 339) (lnN s) a y || decide (y0 ≤ y ∧ y < y0 + 0)) = _
          rw [decide_eq_false (by omega), Bool.or_false]))
        have h1 : smF (wP (R2 338) L pg (fun y => cvB (R2 339) (lnN s) a y || decide (y0 ≤ y ∧ y < y0 + lnN s a))) (L * K) = smF (wP (R2 338) L pg (cvB (R2 339) (lnN s) (a + 1))) (L * K) := smF_ext _ (fun y _ => wP_c (by
          show (cvB (R2 339) (lnN s) a y || decide (y0 ≤ y ∧ y < y0 + lnN s a)) = (cvB (R2 339) (lnN s) a y || decide (0 ≤ R2 339 a ∧ R2 339 a ≤ (y : Int) ∧ (y : Int) < R2 339 a + (lnN s a : Int)))
          rw [hy]
          have hd : decide (y0 ≤ y ∧ y < y0 + lnN s a) = decide (0 ≤ (y0 : Int) ∧ (y0 : Int) ≤ (y : Int) ∧ (y : Int) < (y0 : Int) + (lnN s a : Int)) := by
            by_cases q : y0 ≤ y ∧ y < y0 + lnN s a
            · rw [decide_eq_true q, decide_eq_true (by omega)]
            · rw [decide_eq_false q, decide_eq_false (by omega)]
          rw [hd]))
        rw [h0, h1, z0] at ht
        rw [show nine (R2 339 a) = (y0 : Int) by unfold nine; rw [if_neg c1, hy], ht, xlet_eq, e5.eq]
        exact hi
theorem lin_lp {R1 R2 : xN} {s : Nat → Int} {L N K y : Nat} {p1 p2 : Int} (h : Lay R1 R2 s L N K) (hs : NS s N) (hL : 1 ≤ L ∧ L ≤ 9) (hN : N ≤ 12) (hr : R2 324 = s) (h37 : s 37 = (N : Int)) (hy : y < 1000) : ∀ (n c a : Nat), c < n → a + c = N → ∀ X : Bool → Int → Option (Int × xN), lp_X10_linesOn_30 323 p1 p2 (y : Int) R2 n (cvB (R2 339) (lnN s) a y) (a : Int) X = X (cvB (R2 339) (lnN s) N y) (N : Int) := by
  have hb : L * K ≤ 9 * 32 := Nat.mul_le_mul hL.2 h.2.2.2.1
  intro n
  induction n with
  | zero => intro c a g; omega
  | succ n ih =>
    intro c a g1 g2 X
    cases c with
    | zero => rw [lp_X10_linesOn_30, show 323 + 1 = 324 from rfl, hr, h37, if_pos (by omega), show a = N by omega]
    | succ c =>
      have e5 : Qe (w4 ((a : Int) + 1)) ((a + 1 : Nat) : Int) := by unfold Qe; rw [w4_of (by omega)]; omega
      have ga : (0 : Int) ≤ (a : Int) ∧ (a : Int) < 12 := by omega
      have hi := ih c (a + 1) (by omega) (by omega) X
      rw [show cvB (R2 339) (lnN s) (a + 1) y = (cvB (R2 339) (lnN s) a y || decide (0 ≤ R2 339 a ∧ R2 339 a ≤ (y : Int) ∧ (y : Int) < R2 339 a + (lnN s a : Int))) from rfl] at hi
      have e40 : Qe (w4 (((38 + 4 * a : Nat) : Int) + 2)) ((40 + 4 * a : Nat) : Int) := by unfold Qe; rw [w4_of (by omega)]; omega
      have g40 : (0 : Int) ≤ ((40 + 4 * a : Nat) : Int) ∧ ((40 + 4 * a : Nat) : Int) < 464 := by omega
      rw [lp_X10_linesOn_30, show 323 + 1 = 324 from rfl, hr, h37, if_neg (by omega), e5.eq]
      by_cases c1 : cvB (R2 339) (lnN s) a y = true
      · rw [c1, Bool.true_or] at hi
        rw [c1, if_pos rfl, xlet_eq]
        exact hi
      · rw [Bool.eq_false_iff.mpr c1, Bool.false_or] at hi
        rw [Bool.eq_false_iff.mpr c1, if_neg Bool.false_ne_true, if_pos ga, tnc, show 323 + 16 = 339 from rfl]
        by_cases c2 : R2 339 a < 0
        · rw [decide_eq_false (by omega)] at hi
          rw [if_pos c2, xlet_eq]
          exact hi
        · have hln : s (40 + 4 * a) = (lnN s a : Int) := by
            have := (hs a (by omega)).1
            unfold lnN; omega
          have hyb := (h.2.2.2.2.2.2.1 a (by omega)).2 (by omega)
          have hl := (hs a (by omega)).1
          have e8 : Qe (w4 (w4 (R2 339 a + (lnN s a : Int)) - 1)) (R2 339 a + (lnN s a : Int) - 1) := by unfold Qe; rw [w4_of (x := R2 339 a + (lnN s a : Int)) (by omega), w4_of (by omega)]
          rw [if_neg c2, if_pos ga, if_pos ga, (nx0 (show a < 12 by omega)).eq, e40.eq, if_pos g40, tnc, hln, e8.eq, in10, Option.bind_some, xlet_eq, xlet_eq]
          by_cases c3 : 0 ≤ R2 339 a ∧ R2 339 a ≤ (y : Int) ∧ (y : Int) < R2 339 a + (lnN s a : Int)
          · rw [decide_eq_true c3] at hi
            rw [decide_eq_true (by omega), if_pos rfl]
            exact hi
          · rw [decide_eq_false c3] at hi
            rw [decide_eq_false (by omega), if_neg Bool.false_ne_true]
            exact hi
theorem lon_lp {R1 R2 : xN} {s : Nat → Int} {L N K : Nat} {pg : Int} (h : Lay R1 R2 s L N K) (hs : NS s N) (hL : 1 ≤ L ∧ L ≤ 9) (hN : N ≤ 12) (hr : R2 324 = s) (h37 : s 37 = (N : Int)) (h11 : s 11 = (L : Int)) : ∀ (n c y : Nat), c < n → y + c = L * K → ∀ X : Int → Int → Option (Int × xN), lp_X10_linesOn_8 323 pg R2 n (smF (wP (R2 338) L pg (cvB (R2 339) (lnN s) N)) y : Int) (y : Int) X = X (smF (wP (R2 338) L pg (cvB (R2 339) (lnN s) N)) (L * K) : Int) ((L * K : Nat) : Int) := by
  have hb : L * K ≤ 9 * 32 := Nat.mul_le_mul hL.2 h.2.2.2.1
  have e4 : Qe (w4 ((K : Int) * (L : Int))) ((L * K : Nat) : Int) := by
    have : (K : Int) * (L : Int) = ((L * K : Nat) : Int) := by rw [Int.mul_comm]; rfl
    unfold Qe
    rw [this, w4_of (by omega)]
  intro n
  induction n with
  | zero => intro c y g; omega
  | succ n ih =>
    intro c y g1 g2 X
    cases c with
    | zero => rw [lp_X10_linesOn_8, show 323 + 1 = 324 from rfl, hr, h11, h.2.2.1, e4.eq, if_pos (by omega), show y = L * K by omega]
    | succ c =>
      have e5 : Qe (w4 ((y : Int) + 1)) ((y + 1 : Nat) : Int) := by unfold Qe; rw [w4_of (by omega)]; omega
      obtain ⟨p1, p2, p3⟩ := pgl9 h hL (show y < L * K by omega)
      have p2' : (0 : Int) ≤ ((y / L : Nat) : Int) ∧ ((y / L : Nat) : Int) < 32 := by
        have := h.2.2.2.1
        generalize y / L = q at p2 ⊢
        omega
      have hi := ih c (y + 1) (by omega) (by omega) X
      rw [show smF (wP (R2 338) L pg (cvB (R2 339) (lnN s) N)) (y + 1) = smF (wP (R2 338) L pg (cvB (R2 339) (lnN s) N)) y + wP (R2 338) L pg (cvB (R2 339) (lnN s) N) y from rfl] at hi
      have hle := smF_le (h := wP (R2 338) L pg (cvB (R2 339) (lnN s) N)) (fun y => wP_le y) y
      have hl := lin_lp (p1 := pg) (p2 := (smF (wP (R2 338) L pg (cvB (R2 339) (lnN s) N)) y : Int)) (y := y) h hs hL hN hr h37 (by omega) 6000 N 0 (by omega) (by omega)
      rw [show cvB (R2 339) (lnN s) 0 y = false from rfl, z0] at hl
      rw [lp_X10_linesOn_8, show 323 + 1 = 324 from rfl, hr, h11, h.2.2.1, e4.eq, if_neg (by omega), hl, e5.eq]
      generalize smF (wP (R2 338) L pg (cvB (R2 339) (lnN s) N)) y = acc at *
      unfold wP at hi
      by_cases c1 : cvB (R2 339) (lnN s) N y = true
      · rw [if_pos c1] at hi ⊢
        unfold hW at hi
        rw [if_pos (show (L : Int) ≠ 0 by omega), (dvq (y := y) (L := L) (by omega)).eq, if_pos p2', tnc, show 323 + 15 = 338 from rfl, xlet_eq, xlet_eq, xlet_eq]
        by_cases c2 : R2 338 (y / L) = pg
        · have e7 : Qe (w4 ((acc : Int) + 1)) ((acc + 1 : Nat) : Int) := by unfold Qe; rw [w4_of (by omega)]; omega
          rw [if_pos c2] at hi ⊢
          rw [e7.eq]
          exact hi
        · have e7 : Qe (w4 ((acc : Int) + 0)) ((acc + 0 : Nat) : Int) := by unfold Qe; rw [w4_of (by omega)]; omega
          rw [if_neg c2] at hi ⊢
          rw [e7.eq]
          exact hi
      · have e7 : Qe (w4 ((acc : Int) + 0)) ((acc + 0 : Nat) : Int) := by unfold Qe; rw [w4_of (by omega)]; omega
        rw [if_neg c1] at hi ⊢
        rw [e7.eq, xlet_eq, xlet_eq]
        exact hi
/-- both count the same lines on a page -/
theorem taken_eq {R1 R2 Ra : xN} {s : Nat → Int} {L N K : Nat} {pg : Int} (h : Lay R1 R2 s L N K) (hB : NB R1 s N) (hs : NS s N) (hL : 1 ≤ L ∧ L ≤ 9) (hr : R2 324 = s) (h11 : s 11 = (L : Int)) (hm : f_X10_layNotes 323 Ra = some R2) : ∃ v : Int, f_X2_takenOn 314 pg 13 R1 = some v ∧ f_X10_linesOn 323 pg Ra = some (v, R2) := by
  have hb : L * K ≤ 9 * 32 := Nat.mul_le_mul hL.2 h.2.2.2.1
  have hN := hB.2.1
  have h1 := tak_lp (pg := pg) h hB hs hL 6000 N 0 (by omega) (by omega) (fun z19 z20 => some z19)
  have h2 := lon_lp (pg := pg) h hs hL hN hr hB.1 h11 6000 (L * K) 0 (by omega) (by omega) (fun z26 z27 => some (z26, R2))
  have h0 : smF (wP (R2 338) L pg (cvB (R2 339) (lnN s) 0)) (L * K) = 0 := by
    have : ∀ m, smF (wP (R2 338) L pg (cvB (R2 339) (lnN s) 0)) m = 0 := fun m => by
      induction m with
      | zero => rfl
      | succ m ih => show smF (wP (R2 338) L pg (cvB (R2 339) (lnN s) 0)) m + 0 = 0; rw [ih]
    exact this _
  rw [h0, z0] at h1
  rw [show smF (wP (R2 338) L pg (cvB (R2 339) (lnN s) N)) 0 = 0 from rfl, z0] at h2
  refine ⟨(smF (wP (R2 338) L pg (cvB (R2 339) (lnN s) N)) (L * K) : Int), ?_, ?_⟩
  · unfold f_X2_takenOn
    exact h1
  · unfold f_X10_linesOn
    rw [hm, Option.bind_some]
    exact h2
