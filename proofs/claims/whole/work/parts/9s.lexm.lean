/-! The text's tokens: the model's. -/
def wv (f : Nat → Nat) : Nat → Nat
  | 0 => 0
  | l + 1 => 32 * wv f l + f l
theorem wv_lt {f : Nat → Nat} : ∀ l, (∀ i, i < l → f i ≤ 31) → wv f l < 32 ^ l := by
  intro l
  induction l with
  | zero => intro _; show 0 < 1; omega
  | succ l ih =>
    intro h
    have h1 := ih (fun i hi => h i (by omega))
    have h2 := h l (by omega)
    show 32 * wv f l + f l < 32 ^ (l + 1)
    rw [Nat.pow_succ]
    omega
theorem wv_inj : ∀ (l m : Nat) (f g : Nat → Nat), (∀ i, i < l → 1 ≤ f i ∧ f i ≤ 31) → (∀ i, i < m → 1 ≤ g i ∧ g i ≤ 31) → wv f l = wv g m → l = m ∧ ∀ i, i < l → f i = g i := by
  intro l
  induction l with
  | zero =>
    intro m f g h1 h2 h3
    cases m with
    | zero => exact ⟨rfl, fun i hi => absurd hi (Nat.not_lt_zero i)⟩
    | succ m =>
      have := h2 m (by omega)
      have h4 : 0 = 32 * wv g m + g m := h3
      omega
  | succ l ih =>
    intro m f g h1 h2 h3
    cases m with
    | zero =>
      have := h1 l (by omega)
      have h4 : 32 * wv f l + f l = 0 := h3
      omega
    | succ m =>
      have a1 := h1 l (by omega)
      have a2 := h2 m (by omega)
      have h4 : 32 * wv f l + f l = 32 * wv g m + g m := h3
      obtain ⟨b1, b2⟩ := ih m f g (fun i hi => h1 i (by omega)) (fun i hi => h2 i (by omega)) (by omega)
      subst b1
      refine ⟨rfl, fun i hi => ?_⟩
      by_cases c : i = l
      · rw [c]; omega
      · exact b2 i (by omega)
theorem wv_ext {f g : Nat → Nat} : ∀ l, (∀ i, i < l → f i = g i) → wv f l = wv g l := by
  intro l
  induction l with
  | zero => intro _; rfl
  | succ l ih =>
    intro h
    show 32 * wv f l + f l = 32 * wv g l + g l
    rw [ih (fun i hi => h i (by omega)), h l (by omega)]
def dgN (T : Nat → Int) (s i : Nat) : Nat := (T (s + i) - 96).toNat
/-- the model's number of a word -/
def wl (T : Nat → Int) (s l : Nat) : Int := if l ≤ 11 then (wv (dgN T s) l : Int) else 0
def MX (R : xN) (T : Nat → Int) (N : Nat) : Prop := R 323 4 = (N : Int) ∧ N ≤ 120 ∧ ∀ j : Nat, j < N → R 327 j = T j ∧ 1 ≤ T j ∧ T j ≤ 255
theorem MX.k {R R' : xN} {T : Nat → Int} {N : Nat} (h : MX R T N) (k1 : R' 323 4 = R 323 4) (k2 : ∀ j, R' 327 j = R 327 j) : MX R' T N := ⟨by rw [k1]; exact h.1, h.2.1, fun j hj => by rw [k2]; exact h.2.2 j hj⟩
def KD (R : xN) (T : Nat → Int) (N s e : Nat) : Prop := (s = N → R 323 20 = 0 ∧ R 323 21 = 0) ∧ (s < N → isL (T s) = true → R 323 20 = 1 ∧ R 323 21 = wl T s (e - s)) ∧ (s < N → isD (T s) = true → R 323 21 = 0 ∧ (isNb T N s e → R 323 20 = 2 ∧ R 323 22 = nvl T s (e - s)) ∧ (¬ isNb T N s e → R 323 20 = 4)) ∧ (s < N → isL (T s) = false → isD (T s) = false → R 323 21 = 0 ∧ R 323 20 = if T s = 59 then 3 else 4)
/-- the model's token -/
def MT (R : xN) (T : Nat → Int) (N s e : Nat) : Prop := MX R T N ∧ R 323 19 = (s : Int) ∧ R 323 18 = (e : Int) ∧ KD R T N s e
theorem MT.k {R R' : xN} {T : Nat → Int} {N s e : Nat} (h : MT R T N s e) (k1 : R' 323 4 = R 323 4) (k2 : ∀ j, R' 327 j = R 327 j) (k3 : ∀ j, 18 ≤ j → j ≤ 22 → R' 323 j = R 323 j) : MT R' T N s e := by
  obtain ⟨h1, h2, h3, h4⟩ := h
  refine ⟨h1.k k1 k2, by rw [k3 19 (by omega) (by omega)]; exact h2, by rw [k3 18 (by omega) (by omega)]; exact h3, ?_⟩
  unfold KD
  rw [k3 20 (by omega) (by omega), k3 21 (by omega) (by omega), k3 22 (by omega) (by omega)]
  exact h4
theorem sk10 {T : Nat → Int} {N : Nat} : ∀ (n c p : Nat) (R : xN), c < n → p + c = N → MX R T N → R 323 18 = (p : Int) → ∃ R', (∀ X : xN → Option xN, lp_X10_next_0 323 n R X = X R') ∧ R' 323 18 = (skA T c p : Int) ∧ ∀ q j : Nat, ¬ (q = 323 ∧ j = 18) → R' q j = R q j := by
  intro n
  induction n with
  | zero => intro c p R h; omega
  | succ n ih =>
    intro c p R h1 h2 hX h3
    have hN := hX.2.1
    cases c with
    | zero =>
      refine ⟨R, fun X => ?_, h3, fun q j _ => rfl⟩
      rw [lp_X10_next_0, hX.1, h3, if_pos (by omega)]
    | succ c =>
      have e5 : Qe (w4 ((p : Int) + 1)) ((p + 1 : Nat) : Int) := by unfold Qe; rw [w4_of (by omega)]; omega
      have hd : skA T (c + 1) p = if T p = 32 then skA T c (p + 1) else p := rfl
      have ht := (hX.2.2 p (by omega)).1
      have gp : (0 : Int) ≤ (p : Int) ∧ (p : Int) < 120 := by omega
      by_cases c1 : T p = 32
      · obtain ⟨R', b1, b2, b3⟩ := ih c (p + 1) (xup R 323 18 ((p + 1 : Nat) : Int)) (by omega) (by omega) (hX.k (xup_nn (by omega)) (fun j => xup_nn (by omega))) xup_eq
        refine ⟨R', fun X => ?_, by rw [hd, if_pos c1]; exact b2, fun q j hq => by rw [b3 q j hq, xup_nn (by omega)]⟩
        rw [lp_X10_next_0, hX.1, h3, if_neg (by omega), if_pos gp, tnc, show 323 + 4 = 327 from rfl, ht, if_pos c1, xlet_eq, e5.eq]
        exact b1 X
      · refine ⟨R, fun X => ?_, by rw [hd, if_neg c1]; exact h3, fun q j _ => rfl⟩
        rw [lp_X10_next_0, hX.1, h3, if_neg (by omega), if_pos gp, tnc, show 323 + 4 = 327 from rfl, ht, if_neg c1]
theorem let10 {v : Int} {R : xN} : f_X10_isLetter v R = some (isL v) := by
  unfold f_X10_isLetter isL
  rw [in10, Option.bind_some]
theorem dig10 {v : Int} {R : xN} : f_X10_isFigure v R = some (isD v) := by
  unfold f_X10_isFigure isD
  rw [in10, Option.bind_some]
theorem wdm_lp {T : Nat → Int} {N s : Nat} (hs : isL (T s) = true) : ∀ (n c i : Nat) (R : xN), c < n → s + i + c = N → (∀ j, j < i → isL (T (s + j)) = true) → MX R T N → R 323 18 = ((s + i : Nat) : Int) → R 323 21 = wl T s i → ∃ (R' : xN) (z : Int), (∀ X : Int → xN → Option xN, lp_X10_readWord_7 323 n (i : Int) R X = X z R') ∧ R' 323 18 = (exA T s c (s + i) : Int) ∧ R' 323 21 = wl T s (exA T s c (s + i) - s) ∧ ∀ q j : Nat, ¬ (q = 323 ∧ (j = 18 ∨ j = 21)) → R' q j = R q j := by
  intro n
  induction n with
  | zero => intro c i R h; omega
  | succ n ih =>
    intro c i R h1 h2 hp hX h3 h4
    have hN := hX.2.1
    cases c with
    | zero =>
      refine ⟨R, (i : Int), fun X => ?_, h3, ?_, fun q j _ => rfl⟩
      · rw [lp_X10_readWord_7, hX.1, h3, if_pos (by omega)]
      · rw [show exA T s 0 (s + i) = s + i from rfl, show s + i - s = i by omega]; exact h4
    | succ c =>
      have e5 : Qe (w4 (((s + i : Nat) : Int) + 1)) ((s + (i + 1) : Nat) : Int) := by unfold Qe; rw [w4_of (by omega)]; omega
      have e6 : Qe (w4 ((i : Int) + 1)) ((i + 1 : Nat) : Int) := by unfold Qe; rw [w4_of (by omega)]; omega
      have hd : exA T s (c + 1) (s + i) = if isL (T (s + i)) = true then exA T s c (s + i + 1) else s + i := by
        rw [← run_L hs]; rfl
      have ht := (hX.2.2 (s + i) (by omega)).1
      have gp : (0 : Int) ≤ ((s + i : Nat) : Int) ∧ ((s + i : Nat) : Int) < 120 := by omega
      by_cases c1 : isL (T (s + i)) = true
      · rw [if_pos c1] at hd
        have hp' : ∀ j, j < i + 1 → isL (T (s + j)) = true := fun j hj => by
          by_cases q : j = i
          · rw [q]; exact c1
          · exact hp j (by omega)
        by_cases c2 : 11 ≤ i
        · have hw : wl T s (i + 1) = 0 := by unfold wl; rw [if_neg (by omega)]
          obtain ⟨R', z, b1, b2, b3, b4⟩ := ih c (i + 1) (xup (xup R 323 21 0) 323 18 ((s + (i + 1) : Nat) : Int)) (by omega) (by omega) hp' (hX.k (by rw [xup_nn (by omega), xup_nn (by omega)]) (fun j => by rw [xup_nn (by omega), xup_nn (by omega)])) xup_eq (by rw [xup_nn (by omega), xup_eq, hw])
          refine ⟨R', z, fun X => ?_, by rw [hd]; exact b2, by rw [hd]; exact b3, fun q j hq => by rw [b4 q j hq, xup_nn (by omega), xup_nn (by omega)]⟩
          rw [lp_X10_readWord_7, hX.1, h3, if_neg (by omega), if_pos gp, tnc, show 323 + 4 = 327 from rfl, ht, let10, Option.bind_some, if_pos c1, if_pos (by omega), xlet_eq, xlet_eq, xlet_eq, xup_nn (by omega), h3, e5.eq, e6.eq]
          exact b1 X
        · have hlt := wv_lt (f := dgN T s) i (fun j hj => by
            have := of_decide_eq_true (hp j hj)
            unfold dgN; omega)
          have hpw : 32 ^ i ≤ 32 ^ 10 := Nat.pow_le_pow_right (by decide) (by omega)
          have hpw2 : (32 : Nat) ^ 10 = 1125899906842624 := by decide
          have hd1 := of_decide_eq_true c1
          have e7 : Qe (w8 (w8 (w8 (32 * wl T s i) + T (s + i)) - 96)) (wl T s (i + 1)) := by
            unfold Qe wl
            rw [if_pos (by omega), if_pos (by omega), show wv (dgN T s) (i + 1) = 32 * wv (dgN T s) i + dgN T s i from rfl]
            have hg : (dgN T s i : Int) = T (s + i) - 96 := by unfold dgN; omega
            generalize wv (dgN T s) i = u at *
            rw [w8_id (i := 32 * (u : Int)) ⟨by omega, by omega⟩, w8_id (i := 32 * (u : Int) + T (s + i)) ⟨by omega, by omega⟩, w8_id ⟨by omega, by omega⟩]; omega
          obtain ⟨R', z, b1, b2, b3, b4⟩ := ih c (i + 1) (xup (xup R 323 21 (wl T s (i + 1))) 323 18 ((s + (i + 1) : Nat) : Int)) (by omega) (by omega) hp' (hX.k (by rw [xup_nn (by omega), xup_nn (by omega)]) (fun j => by rw [xup_nn (by omega), xup_nn (by omega)])) xup_eq (by rw [xup_nn (by omega), xup_eq])
          refine ⟨R', z, fun X => ?_, by rw [hd]; exact b2, by rw [hd]; exact b3, fun q j hq => by rw [b4 q j hq, xup_nn (by omega), xup_nn (by omega)]⟩
          rw [lp_X10_readWord_7, hX.1, h3, if_neg (by omega), if_pos gp, tnc, show 323 + 4 = 327 from rfl, ht, let10, Option.bind_some, if_pos c1, if_neg (by omega), if_pos gp, h4, e7.eq, xlet_eq, xlet_eq, xlet_eq, xup_nn (by omega), h3, e5.eq, e6.eq]
          exact b1 X
      · rw [if_neg c1] at hd
        refine ⟨R, (i : Int), fun X => ?_, by rw [hd]; exact h3, by rw [hd, show s + i - s = i by omega]; exact h4, fun q j _ => rfl⟩
        rw [lp_X10_readWord_7, hX.1, h3, if_neg (by omega), if_pos gp, tnc, show 323 + 4 = 327 from rfl, ht, let10, Option.bind_some, if_neg c1]
def mn4 (i : Nat) : Nat := if 4 ≤ i then 4 else i
theorem nbm_lp {T : Nat → Int} {N s : Nat} (hs : isD (T s) = true) : ∀ (n c i : Nat) (R : xN), c < n → s + i + c = N → (∀ j, j < i → isD (T (s + j)) = true) → MX R T N → R 323 18 = ((s + i : Nat) : Int) → R 323 22 = nvl T s (mn4 i) → ∃ R', (∀ X : Int → xN → Option xN, lp_X10_readNumber_7 323 n (i : Int) R X = X ((exA T s c (s + i) - s : Nat) : Int) R') ∧ R' 323 18 = (exA T s c (s + i) : Int) ∧ R' 323 22 = nvl T s (mn4 (exA T s c (s + i) - s)) ∧ ∀ q j : Nat, ¬ (q = 323 ∧ (j = 18 ∨ j = 22)) → R' q j = R q j := by
  intro n
  induction n with
  | zero => intro c i R h; omega
  | succ n ih =>
    intro c i R h1 h2 hp hX h3 h4
    have hN := hX.2.1
    cases c with
    | zero =>
      refine ⟨R, fun X => ?_, h3, ?_, fun q j _ => rfl⟩
      · rw [lp_X10_readNumber_7, hX.1, h3, if_pos (by omega), show exA T s 0 (s + i) = s + i from rfl, show s + i - s = i by omega]
      · rw [show exA T s 0 (s + i) = s + i from rfl, show s + i - s = i by omega]; exact h4
    | succ c =>
      have e5 : Qe (w4 (((s + i : Nat) : Int) + 1)) ((s + (i + 1) : Nat) : Int) := by unfold Qe; rw [w4_of (by omega)]; omega
      have e6 : Qe (w4 ((i : Int) + 1)) ((i + 1 : Nat) : Int) := by unfold Qe; rw [w4_of (by omega)]; omega
      have hd : exA T s (c + 1) (s + i) = if isD (T (s + i)) = true then exA T s c (s + i + 1) else s + i := by
        rw [← run_D hs]; rfl
      have ht := (hX.2.2 (s + i) (by omega)).1
      have gp : (0 : Int) ≤ ((s + i : Nat) : Int) ∧ ((s + i : Nat) : Int) < 120 := by omega
      by_cases c1 : isD (T (s + i)) = true
      · rw [if_pos c1] at hd
        have hp' : ∀ j, j < i + 1 → isD (T (s + j)) = true := fun j hj => by
          by_cases q : j = i
          · rw [q]; exact c1
          · exact hp j (by omega)
        by_cases c2 : 4 ≤ i
        · have hw : mn4 (i + 1) = mn4 i := by unfold mn4; rw [if_pos (by omega), if_pos c2]
          obtain ⟨R', b1, b2, b3, b4⟩ := ih c (i + 1) (xup (xup R 323 22 (nvl T s (mn4 i))) 323 18 ((s + (i + 1) : Nat) : Int)) (by omega) (by omega) hp' (hX.k (by rw [xup_nn (by omega), xup_nn (by omega)]) (fun j => by rw [xup_nn (by omega), xup_nn (by omega)])) xup_eq (by rw [xup_nn (by omega), xup_eq, hw])
          refine ⟨R', fun X => ?_, by rw [hd]; exact b2, by rw [hd]; exact b3, fun q j hq => by rw [b4 q j hq, xup_nn (by omega), xup_nn (by omega)]⟩
          rw [hd, lp_X10_readNumber_7, hX.1, h3, if_neg (by omega), if_pos gp, tnc, show 323 + 4 = 327 from rfl, ht, dig10, Option.bind_some, if_pos c1, if_pos (by omega), xlet_eq, xlet_eq, xlet_eq, h4, xup_nn (by omega), h3, e5.eq, e6.eq]
          exact b1 X
        · have hb := nvl_b hp i (Nat.le_refl i) (by omega)
          have hd1 := of_decide_eq_true c1
          have hm : mn4 i = i := by unfold mn4; rw [if_neg c2]
          have hm1 : mn4 (i + 1) = i + 1 := by unfold mn4; split <;> omega
          have e7 : Qe (w4 (w4 (w4 (10 * nvl T s i) + T (s + i)) - 48)) (nvl T s (i + 1)) := by
            unfold Qe
            rw [show nvl T s (i + 1) = 10 * nvl T s i + (T (s + i) - 48) from rfl, w4_of (x := 10 * nvl T s i) (by omega), w4_of (x := 10 * nvl T s i + T (s + i)) (by omega), w4_of (by omega)]; omega
          obtain ⟨R', b1, b2, b3, b4⟩ := ih c (i + 1) (xup (xup R 323 22 (nvl T s (i + 1))) 323 18 ((s + (i + 1) : Nat) : Int)) (by omega) (by omega) hp' (hX.k (by rw [xup_nn (by omega), xup_nn (by omega)]) (fun j => by rw [xup_nn (by omega), xup_nn (by omega)])) xup_eq (by rw [xup_nn (by omega), xup_eq, hm1])
          refine ⟨R', fun X => ?_, by rw [hd]; exact b2, by rw [hd]; exact b3, fun q j hq => by rw [b4 q j hq, xup_nn (by omega), xup_nn (by omega)]⟩
          rw [hd, lp_X10_readNumber_7, hX.1, h3, if_neg (by omega), if_pos gp, tnc, show 323 + 4 = 327 from rfl, ht, dig10, Option.bind_some, if_pos c1, if_neg (by omega), if_pos gp, h4, hm, e7.eq, xlet_eq, xlet_eq, xlet_eq, xup_nn (by omega), h3, e5.eq, e6.eq]
          exact b1 X
      · rw [if_neg c1] at hd
        refine ⟨R, fun X => ?_, by rw [hd]; exact h3, by rw [hd, show s + i - s = i by omega]; exact h4, fun q j _ => rfl⟩
        rw [lp_X10_readNumber_7, hX.1, h3, if_neg (by omega), if_pos gp, tnc, show 323 + 4 = 327 from rfl, ht, dig10, Option.bind_some, if_neg c1, hd, show s + i - s = i by omega]
theorem tE_run {T : Nat → Int} {N p : Nat} (hs : tS T N p < N) (hr : run1 (T (tS T N p)) (T (tS T N p)) = true) : tE T N p = exA T (tS T N p) (N - tS T N p) (tS T N p) := by
  unfold tE
  generalize tS T N p = s at *
  rw [if_pos hs]
  obtain ⟨c, hc⟩ : ∃ c, N - s = c + 1 := ⟨N - s - 1, by omega⟩
  rw [hc, show exA T s (c + 1) s = if run1 (T s) (T s) = true then exA T s c (s + 1) else s from rfl, if_pos hr, show N - (s + 1) = c by omega]
theorem tE_oth {T : Nat → Int} {N p : Nat} (hs : tS T N p < N) (h1 : isL (T (tS T N p)) = false) (h2 : isD (T (tS T N p)) = false) : tE T N p = tS T N p + 1 := by
  unfold tE
  generalize tS T N p = s at *
  rw [if_pos hs]
  have hr : ∀ v, run1 (T s) v = false := fun v => by
    unfold run1
    rw [h1, h2, Bool.false_and, Bool.false_and, Bool.or_false]
  cases N - (s + 1) with
  | zero => rfl
  | succ c =>
    show (if run1 (T s) (T (s + 1)) = true then exA T s c (s + 1 + 1) else s + 1) = s + 1
    rw [hr, if_neg Bool.false_ne_true]
theorem next10 {T : Nat → Int} {N p : Nat} {R : xN} (hX : MX R T N) (hp : p ≤ N) (h3 : R 323 18 = (p : Int)) : ∃ R', f_X10_next 323 R = some R' ∧ MT R' T N (tS T N p) (tE T N p) ∧ ∀ q j : Nat, ¬ (q = 323 ∧ 18 ≤ j ∧ j ≤ 22) → R' q j = R q j := by
  have hN := hX.2.1
  have htok := (tok_ok (T := T) hp).1
  obtain ⟨t1, t2, t3, t4⟩ := id htok
  obtain ⟨R1, a1, a2, a3⟩ := sk10 (T := T) (N := N) 6000 (N - p) p R (by omega) (by omega) hX h3
  have a2' : R1 323 18 = (tS T N p : Int) := a2
  have er := tE_run (T := T) (N := N) (p := p)
  have eo := tE_oth (T := T) (N := N) (p := p)
  generalize hse : tS T N p = s at *
  generalize hee : tE T N p = e at *
  -- the token's place is kept
  have hR7 : ∃ R7, R7 = xup (xup R1 323 19 (s : Int)) 323 21 0 ∧ MX R7 T N ∧ R7 323 18 = (s : Int) ∧ R7 323 19 = (s : Int) ∧ R7 323 21 = 0 ∧ ∀ q j : Nat, ¬ (q = 323 ∧ (j = 18 ∨ j = 19 ∨ j = 21)) → R7 q j = R q j := by
    refine ⟨_, rfl, ?_, ?_, ?_, xup_eq, fun q j hq => by rw [xup_nn (by omega), xup_nn (by omega), a3 q j (by omega)]⟩
    · exact hX.k (by rw [xup_nn (by omega), xup_nn (by omega), a3 323 4 (by omega)]) (fun j => by rw [xup_nn (by omega), xup_nn (by omega), a3 327 j (by omega)])
    · rw [xup_nn (by omega), xup_nn (by omega)]; exact a2'
    · rw [xup_nn (by omega), xup_eq]
  obtain ⟨R7, r0, r1, r2, r3, r4, r5⟩ := hR7
  unfold f_X10_next
  rw [a1, xlet_eq, xlet_eq, a2', ← r0, r2, r1.1]
  by_cases c : s = N
  · rw [if_pos (by omega)]
    have he := t3 c
    refine ⟨xup R7 323 20 0, rfl, ⟨r1.k (xup_nn (by omega)) (fun j => xup_nn (by omega)), by rw [xup_nn (by omega)]; exact r3, by rw [xup_nn (by omega), r2]; omega, ⟨fun _ => ⟨xup_eq, by rw [xup_nn (by omega)]; exact r4⟩, fun h => by omega, fun h => by omega, fun h => by omega⟩⟩, fun q j hq => by rw [xup_nn (by omega), r5 q j (by omega)]⟩
  · have hs : s < N := by omega
    have gp : (0 : Int) ≤ (s : Int) ∧ (s : Int) < 120 := by omega
    rw [if_neg (by omega), if_pos gp, tnc, show 323 + 4 = 327 from rfl, (r1.2.2 s hs).1, let10, Option.bind_some]
    by_cases cl : isL (T s) = true
    · have he := er hs (by rw [run_L cl]; exact cl)
      rw [if_pos cl]
      have h0 : xup R7 323 21 0 = R7 := by
        funext q j
        by_cases hq : q = 323 ∧ j = 21
        · rw [hq.1, hq.2, xup_eq, r4]
        · rw [xup_nn hq]
      obtain ⟨R8, z, b1, b2, b3, b4⟩ := wdm_lp cl 6000 (N - s) 0 R7 (by omega) (by omega) (fun j hj => absurd hj (Nat.not_lt_zero j)) r1 r2 (by rw [r4]; rfl)
      rw [z0] at b1
      rw [Nat.add_zero, ← he] at b2 b3
      unfold f_X10_readWord
      rw [xlet_eq, h0, b1, xlet_eq, Option.bind_some]
      refine ⟨xup R8 323 20 1, rfl, ⟨r1.k (by rw [xup_nn (by omega), b4 323 4 (by omega)]) (fun j => by rw [xup_nn (by omega), b4 327 j (by omega)]), by rw [xup_nn (by omega), b4 323 19 (by omega)]; exact r3, by rw [xup_nn (by omega)]; exact b2, ⟨fun h => absurd h c, fun _ _ => ⟨xup_eq, by rw [xup_nn (by omega)]; exact b3⟩, fun _ h => absurd ⟨cl, h⟩ isLD, fun _ h => by rw [cl] at h; exact absurd h (by decide)⟩⟩, fun q j hq => by rw [xup_nn (by omega), b4 q j (by omega), r5 q j (by omega)]⟩
    · rw [if_neg cl, if_pos gp, dig10, Option.bind_some]
      by_cases cd : isD (T s) = true
      · have he := er hs (by rw [run_D cd]; exact cd)
        have hse' := (t4 hs).1
        have hdg := (t4 hs).2.2 cd
        rw [if_pos cd]
        obtain ⟨R8, b1, b2, b3, b4⟩ := nbm_lp cd 6000 (N - s) 0 (xup R7 323 22 0) (by omega) (by omega) (fun j hj => absurd hj (Nat.not_lt_zero j)) (r1.k (xup_nn (by omega)) (fun j => xup_nn (by omega))) (by rw [xup_nn (by omega)]; exact r2) xup_eq
        rw [z0] at b1
        rw [Nat.add_zero, ← he] at b1 b2 b3
        have k8 : ∀ q j : Nat, ¬ (q = 323 ∧ (j = 18 ∨ j = 22)) → R8 q j = R7 q j := fun q j hq => by rw [b4 q j hq, xup_nn (by omega)]
        -- the answer is one of two kinds
        have fin : ∀ kd : Int, ((isNb T N s e ∧ kd = 2) ∨ (¬ isNb T N s e ∧ kd = 4)) → ∃ R', (some (xup R8 323 20 kd)).bind (fun v17 => some v17) = some R' ∧ MT R' T N s e ∧ ∀ q j : Nat, ¬ (q = 323 ∧ 18 ≤ j ∧ j ≤ 22) → R' q j = R q j := fun kd hk => by
          refine ⟨xup R8 323 20 kd, rfl, ⟨r1.k (by rw [xup_nn (by omega), k8 323 4 (by omega)]) (fun j => by rw [xup_nn (by omega), k8 327 j (by omega)]), by rw [xup_nn (by omega), k8 323 19 (by omega)]; exact r3, by rw [xup_nn (by omega)]; exact b2, ⟨fun h => absurd h c, fun _ h => absurd h cl, fun _ _ => ⟨by rw [xup_nn (by omega), k8 323 21 (by omega)]; exact r4, fun hn => ?_, fun hn => ?_⟩, fun _ _ h => by rw [cd] at h; exact absurd h (by decide)⟩⟩, fun q j hq => by rw [xup_nn (by omega), k8 q j (by omega), r5 q j (by omega)]⟩
          · rcases hk with ⟨_, hk⟩ | ⟨hk, _⟩
            · refine ⟨by rw [xup_eq, hk], ?_⟩
              rw [xup_nn (by omega), b3]
              have : mn4 (e - s) = e - s := by
                have := hn.2.2.1
                unfold mn4; split <;> omega
              rw [this]
            · exact absurd hn hk
          · rcases hk with ⟨hk, _⟩ | ⟨_, hk⟩
            · exact absurd hk hn
            · rw [xup_eq, hk]
        unfold f_X10_readNumber
        rw [xlet_eq, b1, xlet_eq, xlet_eq]
        by_cases c5 : 5 ≤ e - s
        · rw [if_pos (by omega)]
          exact fin 4 (Or.inr ⟨fun h => by have := h.2.2.1; omega, rfl⟩)
        · rw [if_neg (by omega)]
          by_cases c6 : e - s = 1
          · rw [if_pos (by omega)]
            exact fin 2 (Or.inl ⟨⟨hs, cd, by omega, Or.inl c6⟩, rfl⟩)
          · rw [if_neg (by omega), k8 323 19 (by omega), r3, if_pos gp, tnc, show 323 + 4 = 327 from rfl, k8 327 s (by omega), (r1.2.2 s hs).1]
            by_cases c7 : T s = 48
            · rw [if_pos c7]
              refine fin 4 (Or.inr ⟨fun h => ?_, rfl⟩)
              rcases h.2.2.2 with h | h
              · exact c6 h
              · exact h c7
            · rw [if_neg c7]
              exact fin 2 (Or.inl ⟨⟨hs, cd, by omega, Or.inr c7⟩, rfl⟩)
      · have he := eo hs (Bool.eq_false_iff.mpr cl) (Bool.eq_false_iff.mpr cd)
        have e5 : Qe (w4 ((s : Int) + 1)) ((s + 1 : Nat) : Int) := by unfold Qe; rw [w4_of (by omega)]; omega
        rw [if_neg cd, if_pos gp, xlet_eq, xlet_eq, xlet_eq, xup_nn (show ¬ (323 = 323 ∧ (18 : Nat) = 20) by omega), r2, e5.eq]
        refine ⟨_, rfl, ⟨r1.k (by rw [xup_nn (by omega), xup_nn (by omega)]) (fun j => by rw [xup_nn (by omega), xup_nn (by omega)]), by rw [xup_nn (by omega), xup_nn (by omega)]; exact r3, by rw [xup_eq, he], ⟨fun h => absurd h c, fun _ h => absurd h cl, fun _ h => absurd h cd, fun _ _ _ => ⟨by rw [xup_nn (by omega), xup_nn (by omega)]; exact r4, by rw [xup_nn (by omega), xup_eq]⟩⟩⟩, fun q j hq => by rw [xup_nn (by omega), xup_nn (by omega), r5 q j (by omega)]⟩
/-- the model's number of a word of the class's -/
def cdw (k : Nat) : Int := (wv (fun i => (xch k).getD i 0 - 96) (xch k).length : Nat)
theorem xch_num : ∀ k : Nat, k < 15 → k ≠ 9 → (1 ≤ (xch k).length ∧ (xch k).length ≤ 6) ∧ (∀ i, i < 6 → i < (xch k).length → 97 ≤ (xch k).getD i 0 ∧ (xch k).getD i 0 ≤ 122) ∧ 1 ≤ cdw k := by decide +kernel
theorem mw10 {T : Nat → Int} {N s e k : Nat} {R : xN} (hk : k < 15) (hk9 : k ≠ 9) (hT : MT R T N s e) (hF : TF T N s e) : R 323 21 = cdw k ↔ isW T s e k := by
  obtain ⟨⟨x1, x2⟩, x3, x4⟩ := xch_num k hk hk9
  obtain ⟨k1, k2, k3, k4⟩ := hT.2.2.2
  by_cases c : s = N
  · have he := hF.2.2.1 c
    refine ⟨fun h => ?_, fun h => ?_⟩
    · rw [(k1 c).2] at h; omega
    · have := h.1; omega
  · have hs : s < N := by have := hF.1; omega
    obtain ⟨f1, f2, f3⟩ := hF.2.2.2 hs
    have first : isW T s e k → isL (T s) = true := fun h => by
      have h0 := h.2 0 (by omega)
      have hx := x3 0 (by omega) (by omega)
      rw [Nat.add_zero] at h0
      unfold isL
      rw [h0]
      exact decide_eq_true (by omega)
    by_cases cl : isL (T s) = true
    · have hlet : ∀ i, i < e - s → 97 ≤ T (s + i) ∧ T (s + i) ≤ 122 := fun i hi => of_decide_eq_true (f2 cl (s + i) (by omega) (by omega))
      rw [(k2 hs cl).2]
      unfold wl cdw
      by_cases c11 : e - s ≤ 11
      · rw [if_pos c11]
        refine ⟨fun h => ?_, fun h => ?_⟩
        · obtain ⟨g1, g2⟩ := wv_inj (e - s) (xch k).length (dgN T s) (fun i => (xch k).getD i 0 - 96) (fun i hi => by
            have := hlet i hi
            unfold dgN; omega) (fun i hi => by
            have := x3 i (by omega) hi
            show 1 ≤ (xch k).getD i 0 - 96 ∧ (xch k).getD i 0 - 96 ≤ 31
            omega) (by omega)
          refine ⟨g1.symm, fun i hi => ?_⟩
          have h1 : dgN T s i = (xch k).getD i 0 - 96 := g2 i hi
          have h2 := hlet i hi
          have h3 := x3 i (by omega) (by omega)
          unfold dgN at h1
          omega
        · have : wv (dgN T s) (e - s) = wv (fun i => (xch k).getD i 0 - 96) (xch k).length := by
            rw [h.1]
            exact wv_ext _ (fun i hi => by
              have h1 := h.2 i hi
              have h2 := x3 i (by have := h.1; omega) (by have := h.1; omega)
              unfold dgN
              rw [h1]
              omega)
          rw [this]
      · rw [if_neg c11]
        refine ⟨fun h => ?_, fun h => ?_⟩
        · unfold cdw at x4; omega
        · have := h.1; omega
    · have h0 : R 323 21 = 0 := by
        by_cases cd : isD (T s) = true
        · exact (k3 hs cd).1
        · exact (k4 hs (Bool.eq_false_iff.mpr cl) (Bool.eq_false_iff.mpr cd)).1
      refine ⟨fun h => ?_, fun h => absurd (first h) cl⟩
      rw [h0] at h; omega
/-- kinds of tokens -/
theorem mk10 {T : Nat → Int} {N s e : Nat} {R : xN} (hT : MT R T N s e) (hF : TF T N s e) : (R 323 20 = 0 ↔ s = N) ∧ (R 323 20 = 2 ↔ isNb T N s e) ∧ (R 323 20 = 3 ↔ (s < N ∧ T s = 59)) ∧ (isNb T N s e → R 323 22 = nvl T s (e - s)) ∧ (¬ R 323 20 = 1 → R 323 21 = 0) := by
  obtain ⟨k1, k2, k3, k4⟩ := hT.2.2.2
  by_cases c : s = N
  · have h := k1 c
    rw [h.1]
    refine ⟨⟨fun _ => c, fun _ => rfl⟩, ⟨fun h => by omega, fun h => by have := h.1; omega⟩, ⟨fun h => by omega, fun h => by omega⟩, fun h => by have := h.1; omega, fun _ => h.2⟩
  · have hs : s < N := by have := hF.1; omega
    by_cases cl : isL (T s) = true
    · have h := k2 hs cl
      have hv := of_decide_eq_true cl
      rw [h.1]
      refine ⟨⟨fun h => by omega, fun h => absurd h c⟩, ⟨fun h => by omega, fun h => absurd ⟨cl, h.2.1⟩ isLD⟩, ⟨fun h => by omega, fun h => by omega⟩, fun h => absurd ⟨cl, h.2.1⟩ isLD, fun h => absurd rfl h⟩
    · by_cases cd : isD (T s) = true
      · obtain ⟨h1, h2, h3⟩ := k3 hs cd
        have hv := of_decide_eq_true cd
        by_cases hn : isNb T N s e
        · rw [(h2 hn).1]
          exact ⟨⟨fun h => by omega, fun h => absurd h c⟩, ⟨fun _ => hn, fun _ => rfl⟩, ⟨fun h => by omega, fun h => by omega⟩, fun _ => (h2 hn).2, fun _ => h1⟩
        · rw [h3 hn]
          exact ⟨⟨fun h => by omega, fun h => absurd h c⟩, ⟨fun h => by omega, fun h => absurd h hn⟩, ⟨fun h => by omega, fun h => by omega⟩, fun h => absurd h hn, fun _ => h1⟩
      · obtain ⟨h1, h2⟩ := k4 hs (Bool.eq_false_iff.mpr cl) (Bool.eq_false_iff.mpr cd)
        rw [h2]
        by_cases c59 : T s = 59
        · rw [if_pos c59]
          exact ⟨⟨fun h => by omega, fun h => absurd h c⟩, ⟨fun h => by omega, fun h => absurd h.2.1 cd⟩, ⟨fun _ => ⟨hs, c59⟩, fun _ => rfl⟩, fun h => absurd h.2.1 cd, fun _ => h1⟩
        · rw [if_neg c59]
          exact ⟨⟨fun h => by omega, fun h => absurd h c⟩, ⟨fun h => by omega, fun h => absurd h.2.1 cd⟩, ⟨fun h => by omega, fun h => absurd h.2 c59⟩, fun h => absurd h.2.1 cd, fun _ => h1⟩
