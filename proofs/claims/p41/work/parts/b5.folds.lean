/-! Folding, fold by fold. -/
def ukN (m k : Nat) : Nat := if k < m then 10 ^ (m - 1 - k) else 0
theorem p10_le : ∀ k : Nat, k < 4 → 10 ^ k ≤ 1000 := by decide
theorem unit_lp {p1 : Int} {m : Nat} {R : xN} {X : Int → Int → Option (Bool × xN)} (hm : m ≤ 4) : ∀ (n c k : Nat), c < n → k + c = m - 1 → lp_L_folds_8 0 p1 (m : Int) R n ((10 ^ k : Nat) : Int) (k : Int) X = X ((10 ^ (m - 1) : Nat) : Int) ((m - 1 : Nat) : Int) := by
  intro n
  induction n with
  | zero => intro c k h; omega
  | succ n ih =>
    intro c k h1 h2
    have e0 : Qe (w4 ((m : Int) - 1)) ((m : Int) - 1) := by unfold Qe; rw [w4_of (by omega)]
    rw [lp_L_folds_8, e0.eq]
    cases c with
    | zero => rw [if_pos (by omega), show k = m - 1 by omega]
    | succ c =>
      have hk : 10 ^ k ≤ 1000 := p10_le k (by omega)
      have e1 : Qe (w4 (((10 ^ k : Nat) : Int) * 10)) ((10 ^ (k + 1) : Nat) : Int) := by
        unfold Qe
        rw [Nat.pow_succ]
        generalize 10 ^ k = z at *
        rw [w4_of (by omega)]
        omega
      have e5 : Qe (w4 ((k : Int) + 1)) ((k + 1 : Nat) : Int) := by unfold Qe; rw [w4_of (by omega)]; omega
      rw [if_neg (by omega), xlet_eq, xlet_eq, e1.eq, e5.eq]
      exact ih c (k + 1) (by omega) (by omega)
theorem uk_pos {m k : Nat} (h : k < m) : ukN m k = 10 ^ (m - 1 - k) := by unfold ukN; rw [if_pos h]
theorem td10 : ∀ k : Nat, k < 4 → w4 (Int.tdiv ((10 ^ k : Nat) : Int) 10) = ((if k = 0 then 0 else 10 ^ (k - 1) : Nat) : Int) := by decide +kernel
theorem uk_next {m k : Nat} (hm : m ≤ 4) (h : k < m) : Qe (w4 (Int.tdiv ((ukN m k : Nat) : Int) 10)) ((ukN m (k + 1) : Nat) : Int) := by
  unfold Qe
  rw [uk_pos h, td10 _ (by omega)]
  unfold ukN
  by_cases hk : k + 1 < m
  · rw [if_pos hk, if_neg (by omega), show m - 1 - k - 1 = m - 1 - (k + 1) by omega]
  · rw [if_neg hk, if_pos (by omega)]
theorem u1_at {s : Nat → Int} {k j : Nat} {v : Int} : u1 s k v j = if j = k then v else s j := rfl
theorem fold_lp {H W m n0 : Nat} {fs : List Nat} {gF : gG} (hfs : fs.length = m) (hm : m ≤ 4) (hall : gall fs (gg0 H W) = some gF) (hdig : ∀ k, k < m → n0 / 10 ^ (m - 1 - k) % 10 = fs.getD k 0) (hn : n0 < 10000) : ∀ (n c k : Nat) (R : xN) (s : Nat → Int), c < n → k + c = m → CI R s [] → s 0 = (H : Int) → s 1 = (W : Int) → s 2 = (k : Int) → gfs s = fs.take k → s 8 = 0 → s 9 = 0 → s 86 = ((2 ^ k : Nat) : Int) - 1 → ∃ (R' : xN) (s' : Nat → Int) (z4 z5 : Int), (∀ X : Int → Int → Int → xN → Option (Bool × xN), lp_L_folds_32 0 (n0 : Int) (m : Int) n 1 ((ukN m k : Nat) : Int) (k : Int) R X = X 1 z4 z5 R') ∧ CI R' s' [] ∧ s' 2 = (m : Int) ∧ gfs s' = fs ∧ s' 86 = ((2 ^ m : Nat) : Int) - 1 ∧ ∀ j : Nat, ¬ (2 ≤ j ∧ j ≤ 6) → j ≠ 86 → s' j = s j := by
  intro n
  induction n with
  | zero => intro c k R s h; omega
  | succ n ih =>
    intro c k R s h1 h2 ci s0 s1 s2 sg s8 s9 s86
    cases c with
    | zero =>
      have hk : k = m := by omega
      subst hk
      refine ⟨R, s, ((ukN k k : Nat) : Int), (k : Int), fun X => ?_, ci, s2, by rw [sg, List.take_of_length_le (by omega)], s86, fun j _ _ => rfl⟩
      rw [lp_L_folds_32, if_pos (by omega)]
    | succ c =>
      have hk : k < m := by omega
      have hkl : k < fs.length := by omega
      -- the leaves so far
      have hsp : fs = fs.take k ++ (fs[k] :: fs.drop (k + 1)) := by rw [← List.drop_eq_getElem_cons hkl, List.take_append_drop]
      have hall2 := hall
      rw [hsp, gall_app] at hall2
      obtain ⟨gk, hgk, hrest⟩ := Option.bind_eq_some_iff.mp hall2
      rw [gall_cons] at hrest
      have hok : gok fs[k] gk = true := by
        by_cases h : gok fs[k] gk = true
        · exact h
        · rw [if_neg h] at hrest; cases hrest
      have hf := gall_dig hall fs[k] (List.getElem_mem hkl)
      have w : SW s H W gk := ci.sw s0 s1 (by rw [sg]; exact hgk)
      have hcnt : gk.2.2.1 = k := by have := w.cnt; omega
      have hgo := gOf_eq w
      -- the digit
      have hd := hdig k hk
      have hgd : fs.getD k 0 = fs[k] := by rw [List.getD_eq_getElem?_getD, List.getElem?_eq_getElem hkl, Option.getD_some]
      have ed : Qe (Int.tmod (w4 (Int.tdiv (n0 : Int) ((10 ^ (m - 1 - k) : Nat) : Int))) 10) ((fs[k] : Nat) : Int) := by
        unfold Qe
        rw [tdig (by omega) hn, hd, hgd]
      -- the fold
      have hsf : spFold ((fs[k] : Nat) : Int) s = (((2 ^ (k + 1) : Nat) : Int), fold4 s ((fs[k] : Nat) : Int) ((2 ^ k : Nat) : Int)) := by
        unfold spFold
        rw [if_pos (by omega), hgo, Int.toNat_natCast, if_pos ⟨hok, s8, s9⟩, hcnt]
      obtain ⟨R1, a1, -, a3⟩ := dact8 (f9 := f_X9_fold 0 ((fs[k] : Nat) : Int)) d_fold (fun _ => rfl) ci hsf
      have hp2 : 2 ^ k ≤ 8 ∧ 1 ≤ 2 ^ k ∧ 2 ^ (k + 1) = 2 * 2 ^ k := by
        refine ⟨?_, Nat.one_le_two_pow, by rw [Nat.pow_succ, Nat.mul_comm]⟩
        have : ∀ k : Nat, k < 4 → 2 ^ k ≤ 8 := by decide
        exact this k (by omega)
      have ci1 := (a3 (nerr (by show (0 : Int) ≤ ((2 ^ (k + 1) : Nat) : Int); omega)) (Nat.zero_le 4)).nil
      have q1 : Qe (w4 (s 86 + ((2 ^ k : Nat) : Int))) (((2 ^ (k + 1) : Nat) : Int) - 1) := by
        unfold Qe
        rw [s86, hp2.2.2]
        generalize 2 ^ k = z at *
        rw [w4_of (by omega)]
        omega
      have f86 : fold4 s ((fs[k] : Nat) : Int) ((2 ^ k : Nat) : Int) 86 = ((2 ^ (k + 1) : Nat) : Int) - 1 := by
        unfold fold4
        rw [u1_ne (by decide), u1_ne (by omega), u1_eq, q1.eq]
      have f2 : fold4 s ((fs[k] : Nat) : Int) ((2 ^ k : Nat) : Int) 2 = ((k + 1 : Nat) : Int) := by
        unfold fold4
        rw [u1_eq, s2]; omega
      have fr : ∀ j : Nat, ¬ (2 ≤ j ∧ j ≤ 6) → j ≠ 86 → fold4 s ((fs[k] : Nat) : Int) ((2 ^ k : Nat) : Int) j = s j := fun j h3 h4 => by
        unfold fold4
        rw [u1_ne (by omega), u1_ne (by rw [s2, Int.toNat_natCast]; omega), u1_ne h4]
      have fg : gfs (fold4 s ((fs[k] : Nat) : Int) ((2 ^ k : Nat) : Int)) = fs.take (k + 1) := by
        rw [fold4_gfs (by omega), sg]
        rw [List.take_succ, List.getElem?_eq_getElem hkl]
        rfl
      obtain ⟨R', s', z4, z5, b1, b2, b3, b4, b5, b6⟩ := ih c (k + 1) R1 (fold4 s ((fs[k] : Nat) : Int) ((2 ^ k : Nat) : Int)) (by omega) (by omega) ci1 (by rw [fr 0 (by omega) (by omega)]; exact s0) (by rw [fr 1 (by omega) (by omega)]; exact s1) f2 fg (by rw [fr 8 (by omega) (by omega)]; exact s8) (by rw [fr 9 (by omega) (by omega)]; exact s9) f86
      refine ⟨R', s', z4, z5, fun X => ?_, b2, b3, b4, b5, fun j h3 h4 => by rw [b6 j h3 h4, fr j h3 h4]⟩
      have w1 : SW (fold4 s ((fs[k] : Nat) : Int) ((2 ^ k : Nat) : Int)) H W (gput fs[k] gk) := ci1.sw (by rw [fr 0 (by omega) (by omega)]; exact s0) (by rw [fr 1 (by omega) (by omega)]; exact s1) (by
        rw [fold4_gfs (by omega), sg, gall_snoc, hgk, Option.bind_some, if_pos hok])
      have c3 := cnt3 ci w
      rw [hcnt] at c3
      have c86 := effk ci w (k := 0) (by omega)
      have c86' := effk ci1 w1 (k := 0) (by omega)
      have c2 := cnt2 ci1 w1
      rw [show 86 + 0 = 86 from rfl, s86] at c86
      rw [show 86 + 0 = 86 from rfl, f86] at c86'
      rw [f2] at c2
      obtain ⟨v, v1, v2, v3⟩ := pr1 a1
      have e2 : Qe (w4 (2 * ((2 ^ k : Nat) : Int))) ((2 ^ (k + 1) : Nat) : Int) := by
        unfold Qe
        rw [hp2.2.2]
        generalize 2 ^ k = z at *
        rw [w4_of (by omega)]
        omega
      have e3 : Qe (w4 (((2 ^ k : Nat) : Int) - 1 + ((2 ^ k : Nat) : Int))) (((2 ^ (k + 1) : Nat) : Int) - 1) := by
        unfold Qe
        rw [hp2.2.2]
        generalize 2 ^ k = z at *
        rw [w4_of (by omega)]
        omega
      have e5 : Qe (w4 ((k : Int) + 1)) ((k + 1 : Nat) : Int) := by unfold Qe; rw [w4_of (by omega)]; omega
      have hu0 : ((ukN m k : Nat) : Int) ≠ 0 := by
        rw [uk_pos hk]
        have : 0 < 10 ^ (m - 1 - k) := Nat.pos_of_ne_zero (by simp)
        omega
      have eu := uk_next hm hk
      rw [lp_L_folds_32, if_neg (by omega), if_neg (by decide), c3, Option.bind_some, show f_X9_effort 0 0 R = _ from c86, Option.bind_some, if_pos hu0]
      rw [uk_pos hk] at eu ⊢
      rw [ed.eq, v1, Option.bind_some, v2, v3, e2.eq, if_pos rfl, show f_X9_effort 0 0 R1 = _ from c86', Option.bind_some, e3.eq, if_pos rfl, c2, Option.bind_some, e5.eq, if_pos rfl, xlet_eq, xlet_eq, eu.eq]
      exact b1 X
theorem folds9 {H W m n0 : Nat} {gF : gG} {R : xN} {s : Nat → Int} (hfs : (gdk 4 n0).length = m) (hm : m ≤ 4) (hg : gbk H W (n0 : Int) = some gF) (hdig : ∀ k, k < m → n0 / 10 ^ (m - 1 - k) % 10 = (gdk 4 n0).getD k 0) (hn : n0 < 10000) (hgf : gfn 0 (gdk 4 n0) = n0) (ci : CI R s []) (s0 : s 0 = (H : Int)) (s1 : s 1 = (W : Int)) (s2 : s 2 = 0) (s8 : s 8 = 0) (s9 : s 9 = 0) (s86 : s 86 = 0) : ∃ (R' : xN) (s' : Nat → Int), f_L_folds 0 (n0 : Int) (m : Int) R = some (true, R') ∧ CI R' s' [] ∧ SW s' H W gF ∧ s' 2 = (m : Int) ∧ gfs s' = gdk 4 n0 ∧ s' 86 = ((2 ^ m : Nat) : Int) - 1 ∧ ∀ j : Nat, ¬ (2 ≤ j ∧ j ≤ 6) → j ≠ 86 → s' j = s j := by
  obtain ⟨-, -, h3, h4⟩ := gbk_some hg
  rw [Int.toNat_natCast] at h3
  obtain ⟨R', s', z4, z5, b1, b2, b3, b4, b5, b6⟩ := fold_lp hfs hm h3 hdig hn 6000 m 0 R s (by omega) (by omega) ci s0 s1 s2 (gfs_nil s2) s8 s9 (by rw [s86]; rfl)
  have w : SW s' H W gF := b2.sw (by rw [b6 0 (by omega) (by omega)]; exact s0) (by rw [b6 1 (by omega) (by omega)]; exact s1) (by rw [b4]; exact h3)
  refine ⟨R', s', ?_, b2, w, b3, b4, b5, b6⟩
  have hu := unit_lp (p1 := (n0 : Int)) (R := R) (X := fun z4 z5 => lp_L_folds_32 0 (n0 : Int) (m : Int) 6000 1 z4 0 R (fun z19 z20 z21 R22 => if z19 = 0 then some (false, R22) else (f_X9_count 0 4 R22).bind (fun v24 => if v24 = (n0 : Int) then (f_X9_count 0 5 R22).bind (fun v26 => if v26 = 1 then some (true, R22) else some (false, R22)) else some (false, R22)))) hm 6000 (m - 1) 0 (by omega) (by omega)
  unfold f_L_folds
  refine hu.trans ?_
  have hlast : ∀ z : Int, lp_L_folds_32 0 (n0 : Int) (m : Int) 6000 1 ((ukN m 0 : Nat) : Int) 0 R (fun z19 z20 z21 R22 => if z19 = 0 then some (false, R22) else (f_X9_count 0 4 R22).bind (fun v24 => if v24 = (n0 : Int) then (f_X9_count 0 5 R22).bind (fun v26 => if v26 = 1 then some (true, R22) else some (false, R22)) else some (false, R22))) = some (true, R') := fun z => by
    refine (b1 _).trans ?_
    rw [if_neg (by decide), cnt4 b2 w, b4, hgf, Option.bind_some, if_pos rfl, cnt5 b2 w h4, Option.bind_some, if_pos rfl]
  by_cases hm0 : m = 0
  · subst hm0
    show lp_L_folds_32 0 (n0 : Int) ((0 : Nat) : Int) 6000 1 ((10 ^ (0 - 1) : Nat) : Int) 0 R _ = _
    have e : ∀ (y : Int) (X : Int → Int → Int → xN → Option (Bool × xN)), lp_L_folds_32 0 (n0 : Int) ((0 : Nat) : Int) 6000 1 y 0 R X = X 1 y 0 R := fun y X => by
      rw [lp_L_folds_32, if_pos (by decide)]
    have h0 := hlast 0
    rw [e] at h0 ⊢
    exact h0
  · have : 10 ^ (m - 1) = ukN m 0 := by rw [uk_pos (by omega)]; rfl
    show lp_L_folds_32 0 (n0 : Int) (m : Int) 6000 1 ((10 ^ (m - 1) : Nat) : Int) 0 R _ = _
    rw [this]
    exact hlast 0
