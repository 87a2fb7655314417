/-! The text's tokens: the class's reader. -/
def isL (v : Int) : Bool := decide (97 ≤ v ∧ v ≤ 122)
def isD (v : Int) : Bool := decide (48 ≤ v ∧ v ≤ 57)
def run1 (a b : Int) : Bool := (isL a && isL b) || (isD a && isD b)
/-- behind blanks -/
def skA (T : Nat → Int) : Nat → Nat → Nat
  | 0, p => p
  | c + 1, p => if T p = 32 then skA T c (p + 1) else p
/-- behind a run -/
def exA (T : Nat → Int) (s : Nat) : Nat → Nat → Nat
  | 0, p => p
  | c + 1, p => if run1 (T s) (T p) = true then exA T s c (p + 1) else p
def tS (T : Nat → Int) (N p : Nat) : Nat := skA T (N - p) p
def tE (T : Nat → Int) (N p : Nat) : Nat := if tS T N p < N then exA T (tS T N p) (N - (tS T N p + 1)) (tS T N p + 1) else tS T N p
theorem skA_ok {T : Nat → Int} : ∀ c p, p ≤ skA T c p ∧ skA T c p ≤ p + c := by
  intro c
  induction c with
  | zero => intro p; exact ⟨Nat.le_refl p, Nat.le_refl p⟩
  | succ c ih =>
    intro p
    show p ≤ (if T p = 32 then skA T c (p + 1) else p) ∧ (if T p = 32 then skA T c (p + 1) else p) ≤ p + (c + 1)
    have := ih (p + 1)
    split <;> omega
theorem exA_ok {T : Nat → Int} {s : Nat} : ∀ c p, p ≤ exA T s c p ∧ exA T s c p ≤ p + c ∧ ∀ q, p ≤ q → q < exA T s c p → run1 (T s) (T q) = true := by
  intro c
  induction c with
  | zero => intro p; exact ⟨Nat.le_refl p, Nat.le_refl p, fun q h1 h2 => by have : q < p := h2; omega⟩
  | succ c ih =>
    intro p
    obtain ⟨i1, i2, i3⟩ := ih (p + 1)
    show p ≤ (if run1 (T s) (T p) = true then exA T s c (p + 1) else p) ∧ (if run1 (T s) (T p) = true then exA T s c (p + 1) else p) ≤ p + (c + 1) ∧ ∀ q, p ≤ q → q < (if run1 (T s) (T p) = true then exA T s c (p + 1) else p) → run1 (T s) (T q) = true
    by_cases c1 : run1 (T s) (T p) = true
    · rw [if_pos c1]
      refine ⟨by omega, by omega, fun q h1 h2 => ?_⟩
      by_cases hq : q = p
      · rw [hq]; exact c1
      · exact i3 q (by omega) h2
    · rw [if_neg c1]
      exact ⟨by omega, by omega, fun q h1 h2 => by omega⟩
/-- what is known of a token -/
def TF (T : Nat → Int) (N s e : Nat) : Prop := s ≤ N ∧ e ≤ N ∧ (s = N → e = N) ∧ (s < N → s < e ∧ (isL (T s) = true → ∀ p, s ≤ p → p < e → isL (T p) = true) ∧ (isD (T s) = true → ∀ p, s ≤ p → p < e → isD (T p) = true))
theorem isLD {v : Int} : ¬ (isL v = true ∧ isD v = true) := by
  unfold isL isD
  rw [decide_eq_true_iff, decide_eq_true_iff]
  omega
theorem run_L {a b : Int} (h : isL a = true) : run1 a b = isL b := by
  have hd : isD a = false := Bool.eq_false_iff.mpr fun g => isLD ⟨h, g⟩
  unfold run1
  rw [h, hd, Bool.true_and, Bool.false_and, Bool.or_false]
theorem run_D {a b : Int} (h : isD a = true) : run1 a b = isD b := by
  have hd : isL a = false := Bool.eq_false_iff.mpr fun g => isLD ⟨g, h⟩
  unfold run1
  rw [h, hd, Bool.true_and, Bool.false_and, Bool.false_or]
theorem tok_ok {T : Nat → Int} {N p : Nat} (h : p ≤ N) : TF T N (tS T N p) (tE T N p) ∧ p ≤ tS T N p ∧ (tS T N p < N → p < tE T N p) := by
  obtain ⟨a1, a2⟩ := skA_ok (T := T) (N - p) p
  have e1 : tS T N p = skA T (N - p) p := rfl
  rw [← e1] at a1 a2
  have e2 : tE T N p = if tS T N p < N then exA T (tS T N p) (N - (tS T N p + 1)) (tS T N p + 1) else tS T N p := rfl
  generalize tS T N p = s at *
  obtain ⟨b1, b2, b3⟩ := exA_ok (T := T) (s := s) (N - (s + 1)) (s + 1)
  by_cases c : s < N
  · rw [if_pos c] at e2
    rw [← e2] at b1 b2 b3
    refine ⟨⟨by omega, by omega, fun h => by omega, fun _ => ⟨by omega, fun hl q q1 q2 => ?_, fun hl q q1 q2 => ?_⟩⟩, by omega, fun _ => by omega⟩
    · by_cases hq : q = s
      · rw [hq]; exact hl
      · have := b3 q (by omega) q2
        rw [run_L hl] at this
        exact this
    · by_cases hq : q = s
      · rw [hq]; exact hl
      · have := b3 q (by omega) q2
        rw [run_D hl] at this
        exact this
  · rw [if_neg c] at e2
    exact ⟨⟨by omega, by omega, fun h => by omega, fun h => absurd h c⟩, by omega, fun h => absurd h c⟩
/-- the class's reader has the text -/
def CX (R : xN) (T : Nat → Int) (N : Nat) : Prop := R 320 1 = (N : Int) ∧ N ≤ 120 ∧ ∀ j : Nat, j < N → R 321 j = T j ∧ 1 ≤ T j ∧ T j ≤ 255
theorem CX.k {R R' : xN} {T : Nat → Int} {N : Nat} (h : CX R T N) (k1 : R' 320 1 = R 320 1) (k2 : ∀ j, R' 321 j = R 321 j) : CX R' T N := ⟨by rw [k1]; exact h.1, h.2.1, fun j hj => by rw [k2]; exact h.2.2 j hj⟩
theorem at6 {R : xN} {i : Nat} (hi : i < 120) : f_X6_at 320 (i : Int) R = some (R 321 i) := by
  unfold f_X6_at
  rw [in9, Option.bind_some, if_pos (decide_eq_true (by omega)), if_pos (by omega), tnc]
theorem at6n {R : xN} {i : Nat} : ∃ v, f_X6_at 320 (i : Int) R = some v := by
  unfold f_X6_at
  rw [in9, Option.bind_some]
  by_cases h : (0 : Int) ≤ (i : Int) ∧ (i : Int) ≤ 119
  · rw [if_pos (decide_eq_true h), if_pos (by omega)]
    exact ⟨_, rfl⟩
  · rw [if_neg (by rw [decide_eq_false h]; decide)]
    exact ⟨_, rfl⟩
theorem let9 {v : Int} {R : xN} : f_X6_isLetter v R = some (isL v) := by
  unfold f_X6_isLetter isL
  by_cases h1 : v < 97
  · rw [if_pos h1, decide_eq_false (by omega)]
  · rw [if_neg h1]
    by_cases h2 : 122 < v
    · rw [if_pos h2, decide_eq_false (by omega)]
    · rw [if_neg h2, decide_eq_true (by omega)]
theorem dig9 {v : Int} {R : xN} : f_X6_isDigit v R = some (isD v) := by
  unfold f_X6_isDigit isD
  by_cases h1 : v < 48
  · rw [if_pos h1, decide_eq_false (by omega)]
  · rw [if_neg h1]
    by_cases h2 : 57 < v
    · rw [if_pos h2, decide_eq_false (by omega)]
    · rw [if_neg h2, decide_eq_true (by omega)]
theorem one9 {v w : Int} {R : xN} : f_X6_isOneRun v w R = some (run1 v w) := by
  unfold f_X6_isOneRun run1
  rw [let9, let9, dig9, dig9, Option.bind_some, Option.bind_some, Option.bind_some, Option.bind_some]
  cases isL v <;> cases isL w <;> cases isD v <;> cases isD w <;> rfl
theorem sk9 {T : Nat → Int} {N : Nat} : ∀ (n c p : Nat) (R : xN), c < n → p + c = N → CX R T N → R 320 2 = (p : Int) → ∃ R', (∀ X : xN → Option xN, lp_X6_advance_8 320 n R X = X R') ∧ R' 320 2 = (skA T c p : Int) ∧ ∀ q j : Nat, ¬ (q = 320 ∧ j = 2) → R' q j = R q j := by
  intro n
  induction n with
  | zero => intro c p R h; omega
  | succ n ih =>
    intro c p R h1 h2 hX h3
    have hN := hX.2.1
    cases c with
    | zero =>
      refine ⟨R, fun X => ?_, h3, fun q j _ => rfl⟩
      rw [lp_X6_advance_8, hX.1, h3, if_pos (by omega)]
    | succ c =>
      have e5 : Qe (w4 ((p : Int) + 1)) ((p + 1 : Nat) : Int) := by unfold Qe; rw [w4_of (by omega)]; omega
      have hd : skA T (c + 1) p = if T p = 32 then skA T c (p + 1) else p := rfl
      have ht := (hX.2.2 p (by omega)).1
      by_cases c1 : T p = 32
      · obtain ⟨R', b1, b2, b3⟩ := ih c (p + 1) (xup R 320 2 ((p + 1 : Nat) : Int)) (by omega) (by omega) (hX.k (xup_nn (by omega)) (fun j => xup_nn (by omega))) xup_eq
        refine ⟨R', fun X => ?_, by rw [hd, if_pos c1]; exact b2, fun q j hq => by rw [b3 q j hq, xup_nn (by omega)]⟩
        rw [lp_X6_advance_8, hX.1, h3, if_neg (by omega), at6 (by omega), Option.bind_some, ht, if_pos c1, xlet_eq, e5.eq]
        exact b1 X
      · refine ⟨R, fun X => ?_, by rw [hd, if_neg c1]; exact h3, fun q j _ => rfl⟩
        rw [lp_X6_advance_8, hX.1, h3, if_neg (by omega), at6 (by omega), Option.bind_some, ht, if_neg c1]
theorem ex9 {T : Nat → Int} {N s : Nat} (hs : s < N) : ∀ (n c p : Nat) (R : xN), c < n → p + c = N → CX R T N → R 320 2 = (s : Int) → R 320 3 = (p : Int) → ∃ R', (∀ X : xN → Option xN, lp_X6_advance_62 320 n R X = X R') ∧ R' 320 3 = (exA T s c p : Int) ∧ ∀ q j : Nat, ¬ (q = 320 ∧ j = 3) → R' q j = R q j := by
  intro n
  induction n with
  | zero => intro c p R h; omega
  | succ n ih =>
    intro c p R h1 h2 hX h3 h4
    have hN := hX.2.1
    cases c with
    | zero =>
      refine ⟨R, fun X => ?_, h4, fun q j _ => rfl⟩
      rw [lp_X6_advance_62, hX.1, h4, if_pos (by omega)]
    | succ c =>
      have e5 : Qe (w4 ((p : Int) + 1)) ((p + 1 : Nat) : Int) := by unfold Qe; rw [w4_of (by omega)]; omega
      have hd : exA T s (c + 1) p = if run1 (T s) (T p) = true then exA T s c (p + 1) else p := rfl
      have ht := (hX.2.2 p (by omega)).1
      have hts := (hX.2.2 s hs).1
      by_cases c1 : run1 (T s) (T p) = true
      · obtain ⟨R', b1, b2, b3⟩ := ih c (p + 1) (xup R 320 3 ((p + 1 : Nat) : Int)) (by omega) (by omega) (hX.k (xup_nn (by omega)) (fun j => xup_nn (by omega))) (by rw [xup_nn (by omega)]; exact h3) xup_eq
        refine ⟨R', fun X => ?_, by rw [hd, if_pos c1]; exact b2, fun q j hq => by rw [b3 q j hq, xup_nn (by omega)]⟩
        rw [lp_X6_advance_62, hX.1, h3, h4, if_neg (by omega), at6 (by omega), at6 (by omega), Option.bind_some, Option.bind_some, one9, Option.bind_some, ht, hts, if_pos c1, xlet_eq, e5.eq]
        exact b1 X
      · refine ⟨R, fun X => ?_, by rw [hd, if_neg c1]; exact h4, fun q j _ => rfl⟩
        rw [lp_X6_advance_62, hX.1, h3, h4, if_neg (by omega), at6 (by omega), at6 (by omega), Option.bind_some, Option.bind_some, one9, Option.bind_some, ht, hts, if_neg c1]
/-- the class's token -/
def CT (R : xN) (T : Nat → Int) (N s e : Nat) : Prop := CX R T N ∧ R 320 2 = (s : Int) ∧ R 320 3 = (e : Int)
theorem adv9 {T : Nat → Int} {N p : Nat} {R : xN} (hX : CX R T N) (hp : p ≤ N) (h3 : R 320 3 = (p : Int)) : ∃ R', f_X6_advance 320 R = some R' ∧ CT R' T N (tS T N p) (tE T N p) ∧ ∀ q j : Nat, ¬ (q = 320 ∧ 2 ≤ j ∧ j ≤ 3) → R' q j = R q j := by
  have hN := hX.2.1
  obtain ⟨⟨t1, t2, t3, t4⟩, t5, t6⟩ := tok_ok (T := T) hp
  obtain ⟨R1, a1, a2, a3⟩ := sk9 (T := T) (N := N) 6000 (N - p) p (xup R 320 2 (p : Int)) (by omega) (by omega) (hX.k (xup_nn (by omega)) (fun j => xup_nn (by omega))) xup_eq
  have a2' : R1 320 2 = (tS T N p : Int) := a2
  have k1 : ∀ q j : Nat, ¬ (q = 320 ∧ j = 2) → R1 q j = R q j := fun q j hq => by rw [a3 q j hq, xup_nn (by omega)]
  have hX1 := hX.k (k1 320 1 (by omega)) (fun j => k1 321 j (by omega))
  have he : tE T N p = if tS T N p < N then exA T (tS T N p) (N - (tS T N p + 1)) (tS T N p + 1) else tS T N p := rfl
  have e5 : Qe (w4 ((tS T N p : Int) + 1)) ((tS T N p + 1 : Nat) : Int) := by unfold Qe; rw [w4_of (by omega)]; omega
  unfold f_X6_advance
  rw [h3, xlet_eq, a1, xlet_eq, a2', hX1.1, e5.eq]
  by_cases c : tS T N p < N
  · rw [if_pos c] at he
    rw [if_neg (by omega)]
    obtain ⟨R2, b1, b2, b3⟩ := ex9 (T := T) c 6000 (N - (tS T N p + 1)) (tS T N p + 1) (xup R1 320 3 ((tS T N p + 1 : Nat) : Int)) (by omega) (by omega) (hX1.k (xup_nn (by omega)) (fun j => xup_nn (by omega))) (by rw [xup_nn (by omega)]; exact a2') xup_eq
    have k2 : ∀ q j : Nat, ¬ (q = 320 ∧ j = 3) → R2 q j = R1 q j := fun q j hq => by rw [b3 q j hq, xup_nn (by omega)]
    refine ⟨R2, b1 _, ⟨hX1.k (k2 320 1 (by omega)) (fun j => k2 321 j (by omega)), by rw [k2 320 2 (by omega)]; exact a2', by rw [he]; exact b2⟩, fun q j hq => by rw [k2 q j (by omega), k1 q j (by omega)]⟩
  · rw [if_neg c] at he
    rw [if_pos (by omega)]
    refine ⟨xup R1 320 3 (N : Int), ?_, ⟨hX1.k (xup_nn (by omega)) (fun j => xup_nn (by omega)), by rw [xup_nn (by omega)]; exact a2', by rw [xup_eq, he]; omega⟩, fun q j hq => by rw [xup_nn (by omega), k1 q j (by omega)]⟩
    rw [show (6000 : Nat) = 5999 + 1 from rfl, lp_X6_advance_62, xup_eq, xup_nn (by omega), hX1.1, if_pos (by omega)]
/-- the token is a word of the class's -/
def isW (T : Nat → Int) (s e k : Nat) : Prop := (xch k).length = e - s ∧ ∀ i, i < e - s → T (s + i) = (((xch k).getD i 0 : Nat) : Int)
theorem wd_lp {T : Nat → Int} {N s e k : Nat} {R : xN} (hk : k < 15) (hT : CT R T N s e) (hF : TF T N s e) (hl : (xch k).length = e - s) : ∀ (n c i : Nat), c < n → i + c = e - s → ((∀ j, i ≤ j → j < e - s → T (s + j) = (((xch k).getD j 0 : Nat) : Int)) → lp_X6_isWord_20 320 k R n (i : Int) (fun _ => some true) = some true) ∧ (¬ (∀ j, i ≤ j → j < e - s → T (s + j) = (((xch k).getD j 0 : Nat) : Int)) → lp_X6_isWord_20 320 k R n (i : Int) (fun _ => some true) = some false) := by
  obtain ⟨hX, h2, h3⟩ := hT
  have hN := hX.2.1
  have he := hF.2.1
  have hx := xsok15 hk
  have hlen : xslenI k = ((e - s : Nat) : Int) := by unfold xslenI; rw [hl]
  intro n
  induction n with
  | zero => intro c i h; omega
  | succ n ih =>
    intro c i g1 g2
    cases c with
    | zero =>
      refine ⟨fun _ => ?_, fun h => absurd (fun j j1 j2 => by omega) h⟩
      rw [lp_X6_isWord_20, if_pos hx, if_pos hk, hlen, if_pos (by omega)]
    | succ c =>
      have e5 : Qe (w4 ((i : Int) + 1)) ((i + 1 : Nat) : Int) := by unfold Qe; rw [w4_of (by omega)]; omega
      have e6 : Qe (w4 ((s : Int) + (i : Int))) ((s + i : Nat) : Int) := by unfold Qe; rw [w4_of (by omega)]; omega
      have ht := (hX.2.2 (s + i) (by omega)).1
      have hc : xcharI k (i : Int) = (((xch k).getD i 0 : Nat) : Int) := by unfold xcharI; rw [tnc]
      obtain ⟨i1, i2⟩ := ih c (i + 1) (by omega) (by omega)
      have g : k < 15 ∧ (0 : Int) ≤ (i : Int) ∧ (i : Int) < ((e - s : Nat) : Int) := ⟨hk, by omega, by omega⟩
      rw [lp_X6_isWord_20, if_pos hx, if_pos hk, hlen, if_neg (by omega), h2, e6.eq, at6 (by omega), Option.bind_some, if_pos hx, if_pos g, ht, hc, xlet_eq, e5.eq]
      by_cases c1 : T (s + i) = (((xch k).getD i 0 : Nat) : Int)
      · rw [if_pos c1]
        refine ⟨fun h => i1 (fun j j1 j2 => h j (by omega) j2), fun h => i2 (fun h' => h (fun j j1 j2 => ?_))⟩
        by_cases hj : j = i
        · rw [hj]; exact c1
        · exact h' j (by omega) j2
      · rw [if_neg c1]
        exact ⟨fun h => absurd (h i (Nat.le_refl i) (by omega)) c1, fun _ => rfl⟩
theorem wd9 {T : Nat → Int} {N s e k : Nat} {R : xN} (hk : k < 15) (hT : CT R T N s e) (hF : TF T N s e) : (isW T s e k → f_X6_isWord 320 k R = some true) ∧ (¬ isW T s e k → f_X6_isWord 320 k R = some false) := by
  have hx := xsok15 hk
  have hN := hT.1.2.1
  have h0 : s ≤ e := by
    by_cases c : s < N
    · have := (hF.2.2.2 c).1; omega
    · have := hF.1; have := hF.2.2.1 (by omega); omega
  have e6 : Qe (w4 ((e : Int) - (s : Int))) ((e - s : Nat) : Int) := by unfold Qe; have := hF.2.1; rw [w4_of (by omega)]; omega
  unfold f_X6_isWord
  rw [if_pos hx, if_pos hk, hT.2.1, hT.2.2, e6.eq]
  unfold isW
  by_cases c : (xch k).length = e - s
  · obtain ⟨i1, i2⟩ := wd_lp hk hT hF c 6000 (e - s) 0 (by have := hF.2.1; omega) (by omega)
    rw [z0] at i1 i2
    rw [if_pos (show xslenI k = ((e - s : Nat) : Int) by unfold xslenI; rw [c])]
    refine ⟨fun h => i1 (fun j _ hj => h.2 j hj), fun h => i2 (fun h' => h ⟨c, fun j hj => h' j (Nat.zero_le j) hj⟩)⟩
  · rw [if_neg (show ¬ xslenI k = ((e - s : Nat) : Int) by unfold xslenI; omega)]
    exact ⟨fun h => absurd h.1 c, fun _ => rfl⟩
/-- the token is a number -/
def isNb (T : Nat → Int) (N s e : Nat) : Prop := s < N ∧ isD (T s) = true ∧ e - s ≤ 4 ∧ (e - s = 1 ∨ T s ≠ 48)
theorem nb9 {T : Nat → Int} {N s e : Nat} {R : xN} (hT : CT R T N s e) (hF : TF T N s e) : (isNb T N s e → f_X6_isNumber 320 R = some true) ∧ (¬ isNb T N s e → f_X6_isNumber 320 R = some false) := by
  obtain ⟨hX, h2, h3⟩ := hT
  have hN := hX.2.1
  have he := hF.2.1
  unfold f_X6_isNumber isNb
  rw [h2, h3]
  by_cases c : s < N
  · obtain ⟨c1, -, -⟩ := hF.2.2.2 c
    have e6 : Qe (w4 ((e : Int) - (s : Int))) ((e - s : Nat) : Int) := by unfold Qe; rw [w4_of (by omega)]; omega
    have ht := (hX.2.2 s c).1
    rw [xlet_eq, e6.eq, at6 (by omega), ht, in9, Option.bind_some, Option.bind_some, dig9, Option.bind_some]
    by_cases d1 : e - s = 1
    · rw [if_pos (show ((e - s : Nat) : Int) = 1 by omega), if_pos (decide_eq_true (by omega))]
      by_cases d2 : isD (T s) = true
      · rw [d2, if_pos rfl]
        exact ⟨fun _ => rfl, fun h => absurd ⟨c, rfl, by omega, Or.inl d1⟩ h⟩
      · rw [if_neg d2]
        exact ⟨fun h => absurd h.2.1 d2, fun _ => rfl⟩
    · rw [if_neg (show ¬ ((e - s : Nat) : Int) = 1 by omega), Option.bind_some]
      by_cases d3 : T s = 48
      · rw [if_pos d3, Option.bind_some]
        refine ⟨fun h => ?_, fun _ => ?_⟩
        · rcases h.2.2.2 with h | h
          · exact absurd h d1
          · exact absurd d3 h
        · by_cases d4 : (1 : Int) ≤ ((e - s : Nat) : Int) ∧ ((e - s : Nat) : Int) ≤ 4
          · rw [if_pos (decide_eq_true d4), Option.bind_some, dig9, Option.bind_some]; split <;> rfl
          · rw [if_neg (by rw [decide_eq_false d4]; decide)]
      · rw [if_neg d3]
        by_cases d4 : (1 : Int) ≤ ((e - s : Nat) : Int) ∧ ((e - s : Nat) : Int) ≤ 4
        · rw [if_pos (decide_eq_true d4)]
          by_cases d2 : isD (T s) = true
          · rw [d2, if_pos rfl]
            exact ⟨fun _ => rfl, fun h => absurd ⟨c, rfl, by omega, Or.inr d3⟩ h⟩
          · rw [if_neg d2]
            exact ⟨fun h => absurd h.2.1 d2, fun _ => rfl⟩
        · rw [if_neg (by rw [decide_eq_false d4]; decide)]
          exact ⟨fun h => by have := h.2.2.1; omega, fun _ => rfl⟩
  · refine ⟨fun h => absurd h.1 c, fun _ => ?_⟩
    have hse : s = N := by have := hF.1; omega
    have hee := hF.2.2.1 hse
    have e6 : Qe (w4 ((e : Int) - (s : Int))) 0 := by unfold Qe; rw [w4_of (by omega)]; omega
    obtain ⟨v, hv⟩ := at6n (R := R) (i := s)
    rw [xlet_eq, e6.eq, if_neg (by decide), hv, Option.bind_some, in9, Option.bind_some]
    split <;> rfl
theorem ch9 {T : Nat → Int} {N s e : Nat} {R : xN} {v : Int} (hT : CT R T N s e) (hF : TF T N s e) : ((s < N ∧ T s = v) → f_X6_isCharacter 320 v R = some true) ∧ (¬ (s < N ∧ T s = v) → f_X6_isCharacter 320 v R = some false) := by
  obtain ⟨hX, h2, h3⟩ := hT
  have hN := hX.2.1
  unfold f_X6_isCharacter f_X6_hasToken
  rw [hX.1, h2]
  by_cases c : s < N
  · rw [if_neg (by omega), Option.bind_some, if_pos rfl, at6 (by omega), Option.bind_some, (hX.2.2 s c).1]
    by_cases d : T s = v
    · rw [if_pos d]; exact ⟨fun _ => rfl, fun h => absurd ⟨c, d⟩ h⟩
    · rw [if_neg d]; exact ⟨fun h => absurd h.2 d, fun _ => rfl⟩
  · rw [if_pos (by omega), Option.bind_some, if_neg (by decide)]
    exact ⟨fun h => absurd h.1 c, fun _ => rfl⟩
/-- the value of digits -/
def nvl (T : Nat → Int) (s : Nat) : Nat → Int
  | 0 => 0
  | l + 1 => 10 * nvl T s l + (T (s + l) - 48)
theorem nvl_b {T : Nat → Int} {s m : Nat} (h : ∀ i, i < m → isD (T (s + i)) = true) : ∀ l, l ≤ m → l ≤ 4 → 0 ≤ nvl T s l ∧ nvl T s l ≤ 9999 ∧ (l ≤ 3 → nvl T s l ≤ 999) ∧ (l ≤ 2 → nvl T s l ≤ 99) ∧ (l ≤ 1 → nvl T s l ≤ 9) ∧ (l = 0 → nvl T s l = 0) := by
  have hd : ∀ i, i < m → 0 ≤ T (s + i) - 48 ∧ T (s + i) - 48 ≤ 9 := fun i hi => by
    have := of_decide_eq_true (h i hi)
    omega
  have st : ∀ l, nvl T s (l + 1) = 10 * nvl T s l + (T (s + l) - 48) := fun _ => rfl
  have s0 : nvl T s 0 = 0 := rfl
  intro l h1 h2
  have hl : l = 0 ∨ l = 1 ∨ l = 2 ∨ l = 3 ∨ l = 4 := by omega
  rcases hl with rfl | rfl | rfl | rfl | rfl
  · rw [s0]; omega
  · have a0 := hd 0 (by omega)
    rw [st, s0]; omega
  · have a0 := hd 0 (by omega)
    have a1 := hd 1 (by omega)
    rw [st, st, s0]; omega
  · have a0 := hd 0 (by omega)
    have a1 := hd 1 (by omega)
    have a2 := hd 2 (by omega)
    rw [st, st, st, s0]; omega
  · have a0 := hd 0 (by omega)
    have a1 := hd 1 (by omega)
    have a2 := hd 2 (by omega)
    have a3 := hd 3 (by omega)
    rw [st, st, st, st, s0]; omega
theorem nv_lp {T : Nat → Int} {N s e : Nat} {R : xN} (hT : CT R T N s e) (hF : TF T N s e) (hn : isNb T N s e) : ∀ (n c i : Nat), c < n → i + c = e - s → ∃ z : Int, ∀ X : Int → Int → Option Int, lp_X6_numberValue_7 320 R n (nvl T s i) ((s + i : Nat) : Int) X = X (nvl T s (e - s)) z := by
  obtain ⟨hX, h2, h3⟩ := hT
  have hN := hX.2.1
  have he := hF.2.1
  have hse := (hF.2.2.2 hn.1).1
  have hdg : ∀ i, i < e - s → isD (T (s + i)) = true := fun i hi => (hF.2.2.2 hn.1).2.2 hn.2.1 (s + i) (by omega) (by omega)
  intro n
  induction n with
  | zero => intro c i h; omega
  | succ n ih =>
    intro c i g1 g2
    cases c with
    | zero =>
      refine ⟨((s + i : Nat) : Int), fun X => ?_⟩
      rw [lp_X6_numberValue_7, h3, if_pos (by omega), show i = e - s by omega]
    | succ c =>
      have hb := nvl_b hdg i (by omega) (by have := hn.2.2.1; omega)
      have hd := of_decide_eq_true (hdg i (by omega))
      have e5 : Qe (w4 (((s + i : Nat) : Int) + 1)) ((s + (i + 1) : Nat) : Int) := by unfold Qe; rw [w4_of (by omega)]; omega
      have e6 : Qe (w4 (w4 (w4 (nvl T s i * 10) + T (s + i)) - 48)) (nvl T s (i + 1)) := by
        unfold Qe
        rw [show nvl T s (i + 1) = 10 * nvl T s i + (T (s + i) - 48) from rfl, w4_of (x := nvl T s i * 10) (by omega), w4_of (x := nvl T s i * 10 + T (s + i)) (by omega), w4_of (by omega)]; omega
      obtain ⟨z, hz⟩ := ih c (i + 1) (by omega) (by omega)
      refine ⟨z, fun X => ?_⟩
      rw [lp_X6_numberValue_7, h3, if_neg (by omega), at6 (by omega), Option.bind_some, (hX.2.2 (s + i) (by omega)).1, xlet_eq, xlet_eq, e5.eq, e6.eq]
      exact hz X
theorem nv9 {T : Nat → Int} {N s e : Nat} {R : xN} (hT : CT R T N s e) (hF : TF T N s e) (hn : isNb T N s e) : f_X6_numberValue 320 R = some (nvl T s (e - s)) ∧ 0 ≤ nvl T s (e - s) ∧ nvl T s (e - s) ≤ 9999 := by
  have hse := (hF.2.2.2 hn.1).1
  have hdg : ∀ i, i < e - s → isD (T (s + i)) = true := fun i hi => (hF.2.2.2 hn.1).2.2 hn.2.1 (s + i) (by omega) (by omega)
  have hb := nvl_b hdg (e - s) (Nat.le_refl _) hn.2.2.1
  obtain ⟨z, hz⟩ := nv_lp hT hF hn 6000 (e - s) 0 (by have := hn.2.2.1; omega) (by omega)
  refine ⟨?_, hb.1, hb.2.1⟩
  unfold f_X6_numberValue
  rw [xlet_eq, hT.2.1]
  exact hz _
