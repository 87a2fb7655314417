/-! Pure rows about the functions: first rows. -/
theorem w4_of {x : Int} (h : -2147483648 ≤ x ∧ x ≤ 2147483647) : w4 x = x := w4_id h
theorem xup_get {R : xN} {a k q j : Nat} {v : Int} : xup R a k v q j = if q = a then (if j = k then v else R q j) else R q j := by
  unfold xup
  by_cases h : q = a
  · simp [h]
  · simp [h]
theorem xrow_get {R : xN} {a q : Nat} {f : Nat → Int} : xrow R a f q = if q = a then f else R q := rfl
theorem xcpy_get {R : xN} {a0 a q j n : Nat} : xcpy R a0 a 0 0 n q j = if q = a then (if j < n then R a0 j else R q j) else R q j := by
  unfold xcpy va_cpy
  by_cases h : q = a
  · subst h; simp
  · simp [h]
theorem fill_lp {a N : Nat} {v : Int} (hN : N ≤ 1000) {X : Int → xN → Option xN} : ∀ (n : Nat) (i : Nat) (R : xN), i ≤ N → N - i < n →
    lp_J7_fill_53178_5 a N v (N : Int) n (i : Int) R X = X (N : Int) (xrow R a (fun j => if i ≤ j ∧ j < N then v else R a j)) := by
  intro n
  induction n with
  | zero => intro i R h1 h2; omega
  | succ n ih =>
    intro i R h1 h2
    rw [lp_J7_fill_53178_5]
    by_cases h : (N : Int) ≤ (i : Int)
    · rw [if_pos h]
      have : i = N := by omega
      subst this
      congr 1
      funext q j
      unfold xrow
      by_cases hq : q = a
      · subst hq; simp; intro h1 h2; omega
      · simp [hq]
    · rw [if_neg h, if_pos (by omega)]
      simp only [xlet]
      rw [w4_of (by omega), show (i : Int) + 1 = ((i + 1 : Nat) : Int) by omega, ih (i + 1) _ (by omega) (by omega)]
      congr 1
      funext q j
      unfold xrow
      by_cases hq : q = a
      · subst hq
        simp only [if_true, xup_get]
        by_cases hj : j = i
        · subst hj; simp; omega
        · have e : (i + 1 ≤ j ∧ j < N) ↔ (i ≤ j ∧ j < N) := by omega
          simp [hj, e]
      · simp only [if_neg hq]
        exact congrFun (xup_ne hq) j
theorem fill_eq {a N : Nat} {v : Int} {R : xN} (hN : N ≤ 1000) : f_J7_fill_53178 a N v R = some (xrow R a (fun j => if j < N then v else R a j)) := by
  unfold f_J7_fill_53178
  rw [if_pos (by omega)]
  simp only [xlet]
  rw [show (0 : Int) = ((0 : Nat) : Int) by rfl, fill_lp hN 6000 0 R (by omega) (by omega)]
  simp
theorem renew_eq {a : Nat} {r c : Int} {R : xN} : f_X5_renew a r c R = some (xrow (xrow (xup (xup R a 0 r) a 1 c) (a + 1) (fun j => if j < 32 then -9 else R (a + 1) j)) (a + 2) (fun j => if j < 32 then 0 else R (a + 2) j)) := by
  unfold f_X5_renew
  simp only [xlet]
  rw [fill_eq (by omega)]
  simp only [Option.bind_some]
  rw [fill_eq (by omega)]
  simp only [Option.bind_some]
  congr 1
  funext q j
  simp only [xrow_get, xup_get]
  by_cases h1 : q = a + 2
  · subst h1; simp [xup_get]
  · by_cases h2 : q = a + 1
    · subst h2; simp
    · simp [h1, h2]
theorem len3 {r : Int} (h : r = 1 ∨ r = 2 ∨ r = 4) : 1 ≤ r ∧ r ≤ 4 := by omega
theorem spread_lp {a : Nat} {r c : Int} (hr : r = 1 ∨ r = 2 ∨ r = 4) (hc : c = 1 ∨ c = 2 ∨ c = 4) {X : Int → xN → Option xN} : ∀ (n : Nat) (i : Nat) (R : xN), R a 2 = r → R a 3 = c → (i : Int) ≤ r * c → (r * c).toNat - i < n →
    lp_X3_spread_32 a n (i : Int) R X = X (r * c) (xrow R (a + 1) (fun j => if i ≤ j ∧ (j : Int) < r * c then 4 * ((j : Int) / c) + (j : Int) % c else R (a + 1) j)) := by
  have hrc : 1 ≤ r * c ∧ r * c ≤ 16 := by rcases hr with rfl | rfl | rfl <;> rcases hc with rfl | rfl | rfl <;> decide
  intro n
  induction n with
  | zero => intro i R h1 h2 h3 h4; omega
  | succ n ih =>
    intro i R h1 h2 h3 h4
    rw [lp_X3_spread_32, h1, h2]
    rw [w4_of (x := r * c) (by omega)]
    have fin : i = (r * c).toNat → X (i : Int) R = X (r * c) (xrow R (a + 1) (fun j => if i ≤ j ∧ (j : Int) < r * c then 4 * ((j : Int) / c) + (j : Int) % c else R (a + 1) j)) := by
      intro hi
      have e1 : (i : Int) = r * c := by omega
      rw [e1]
      congr 1
      funext q j
      unfold xrow
      by_cases hq : q = a + 1
      · subst hq
        rw [if_pos rfl, if_neg (by omega)]
      · simp [hq]
    by_cases h16 : 16 ≤ (i : Int)
    · rw [if_pos h16]
      exact fin (by omega)
    · rw [if_neg h16]
      by_cases hd : r * c ≤ (i : Int)
      · rw [if_pos hd]
        exact fin (by omega)
      · rw [if_neg hd]
        have hc1 := len3 hc
        rw [if_pos (by omega), if_pos (by omega), if_pos (by omega)]
        unfold f_X9_cellAt
        simp only [Option.bind_some]
        rw [if_pos (by omega)]
        simp only [xlet]
        have ed : Int.tdiv (i : Int) c = (i : Int) / c := Int.tdiv_eq_ediv_of_nonneg (by omega)
        have em : Int.tmod (i : Int) c = (i : Int) % c := Int.tmod_eq_emod_of_nonneg (by omega)
        have hdv : 0 ≤ (i : Int) / c ∧ (i : Int) / c ≤ 16 := by
          rcases hc with rfl | rfl | rfl <;> omega
        have hmd : 0 ≤ (i : Int) % c ∧ (i : Int) % c ≤ 4 := by
          rcases hc with rfl | rfl | rfl <;> omega
        rw [ed, em, w4_of (x := (i : Int) / c) (by omega), w4_of (x := (i : Int) / c * 4) (by omega), w4_of (x := (i : Int) / c * 4 + (i : Int) % c) (by omega), w4_of (x := (i : Int) + 1) (by omega), show (i : Int) + 1 = ((i + 1 : Nat) : Int) by omega]
        rw [ih (i + 1) _ (by simp [xup_get, h1]) (by simp [xup_get, h2]) (by omega) (by omega)]
        congr 1
        funext q j
        unfold xrow
        by_cases hq : q = a + 1
        · subst hq
          simp only [if_true, xup_get, Int.toNat_natCast]
          by_cases hj : j = i
          · subst hj
            rw [if_neg (by omega), if_pos rfl, if_pos (by omega)]
            omega
          · rw [if_neg hj]
            by_cases hlt : i ≤ j ∧ (j : Int) < r * c
            · rw [if_pos (by omega), if_pos hlt]
            · rw [if_neg (by omega), if_neg hlt]
        · simp only [if_neg hq]
          exact congrFun (xup_ne hq) j
theorem spread_eq {a : Nat} {r c : Int} {R : xN} (hr : r = 1 ∨ r = 2 ∨ r = 4) (hc : c = 1 ∨ c = 2 ∨ c = 4) : f_X3_spread a r c R = some (xrow (xup (xup (xup (xup (xup (xup R a 0 r) a 1 c) a 2 r) a 3 c) a 4 0) a 5 0) (a + 1) (fun j => if (j : Int) < r * c then 4 * ((j : Int) / c) + (j : Int) % c else R (a + 1) j)) := by
  have hrc : 1 ≤ r * c ∧ r * c ≤ 16 := by rcases hr with rfl | rfl | rfl <;> rcases hc with rfl | rfl | rfl <;> decide
  unfold f_X3_spread
  simp only [xlet]
  rw [show (0 : Int) = ((0 : Nat) : Int) by rfl, spread_lp hr hc 6000 0 _ (by simp [xup_get]) (by simp [xup_get]) (by omega) (by omega)]
  congr 1
  congr 1
  funext j
  simp [xup_get]
