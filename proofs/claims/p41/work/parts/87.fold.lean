/-! Actions of a desk: a sheet is taken; folds. -/
theorem len9 {v : Int} {R : xN} (h : v = 1 ∨ v = 2 ∨ v = 4) : f_X0_isLength v R = some true ∧ True := by
  rcases h with rfl | rfl | rfl <;> exact ⟨rfl, trivial⟩
theorem len9n {v : Int} {R : xN} (h : ¬ (v = 1 ∨ v = 2 ∨ v = 4)) : f_X0_isLength v R = some false ∧ True := by
  unfold f_X0_isLength
  have h1 : ¬ v = 1 := fun e => h (Or.inl e)
  have h2 : ¬ v = 2 := fun e => h (Or.inr (Or.inl e))
  have h4 : ¬ v = 4 := fun e => h (Or.inr (Or.inr e))
  rw [if_neg h1, if_neg h2, if_neg h4]
  exact ⟨rfl, trivial⟩
def sheet4 (s : Nat → Int) (a b : Int) : Nat → Int := fun j => if j = 0 then a else if j = 1 then b else if j = 2 ∨ j = 8 ∨ j = 9 ∨ j = 12 then 0 else if 90 ≤ j ∧ j < 122 then -1 else if 122 ≤ j ∧ j < 154 then 0 else s j
theorem sheet4_ne {s : Nat → Int} {a b : Int} {j : Nat} (h : 154 ≤ j ∨ (2 < j ∧ j < 90 ∧ j ≠ 8 ∧ j ≠ 9 ∧ j ≠ 12)) : sheet4 s a b j = s j := by
  unfold sheet4
  rw [if_neg (by omega), if_neg (by omega), if_neg (by omega), if_neg (by omega), if_neg (by omega)]
theorem sheet4_z {s : Nat → Int} {a b : Int} {j : Nat} (h : j = 2 ∨ j = 8 ∨ j = 9 ∨ j = 12) : sheet4 s a b j = 0 := by
  unfold sheet4
  rw [if_neg (by omega), if_neg (by omega), if_pos h]
theorem sheet4_p {s : Nat → Int} {a b : Int} {k : Nat} (h : k < 32) : sheet4 s a b (90 + k) = -1 ∧ sheet4 s a b (122 + k) = 0 := by
  unfold sheet4
  rw [if_neg (by omega), if_neg (by omega), if_neg (by omega), if_pos (by omega), if_neg (by omega), if_neg (by omega), if_neg (by omega), if_neg (by omega), if_pos (by omega)]
  exact ⟨rfl, rfl⟩
def spSheet (a b : Int) : sSp := fun s => if a = 1 ∨ a = 2 ∨ a = 4 then (if b = 1 ∨ b = 2 ∨ b = 4 then (a * b, sheet4 s a b) else (-1, s)) else (-1, s)
theorem lenI_nat {a : Int} (h : a = 1 ∨ a = 2 ∨ a = 4) : ∃ n : Nat, a = (n : Int) ∧ len n := by
  rcases h with rfl | rfl | rfl
  · exact ⟨1, rfl, Or.inl rfl⟩
  · exact ⟨2, rfl, Or.inr (Or.inl rfl)⟩
  · exact ⟨4, rfl, Or.inr (Or.inr rfl)⟩
theorem gfs_nil {s : Nat → Int} (h : s 2 = 0) : gfs s = [] := by unfold gfs; rw [h]; rfl
theorem d_sheet {a b : Int} : dSpec (f_X0_takeSheet 2 a b) (spSheet a b) := by
  intro R s H W g w r
  obtain ⟨k1, k2, k3, k4, k5, k6, k7, k8, k9, k10, k11, k12, k13, k14, k15, k16, k17⟩ := id w
  obtain ⟨r1, r2, r3, r4, r5, r6, r7, r8, r9, r10, r11, r12, r13, r14⟩ := id r
  by_cases h1 : a = 1 ∨ a = 2 ∨ a = 4
  · by_cases h2 : b = 1 ∨ b = 2 ∨ b = 4
    · obtain ⟨H', hH, lH⟩ := lenI_nat h1
      obtain ⟨W', hW, lW⟩ := lenI_nat h2
      subst hH hW
      have hA := area_le lH lW
      obtain ⟨Rr, hRr⟩ : ∃ Rr, f_X5_renew 3 (H' : Int) (W' : Int) R = some Rr := ⟨_, renew_eq⟩
      have eR : Rr = _ := (Option.some.inj (hRr.symm.trans renew_eq))
      obtain ⟨Rs, s1, s2, s3⟩ := spread_put (R := Rr) (b := 6) lH lW
      have q1 : ∀ q j : Nat, q ≠ 3 → q ≠ 4 → q ≠ 5 → Rr q j = R q j := fun q j h3 h4 h5 => by
        rw [eR, xrow_get, if_neg h5, xrow_get, if_neg h4, xup_nn (fun h => h3 h.1), xup_nn (fun h => h3 h.1)]
      have q2 : Rr 3 0 = (H' : Int) ∧ Rr 3 1 = (W' : Int) := by
        rw [eR, xrow_get, if_neg (by decide), xrow_get, if_neg (by decide), xup_nn (by decide), xup_eq, xup_eq]
        exact ⟨rfl, rfl⟩
      have q3 : ∀ j : Nat, j < 32 → Rr 4 j = -9 ∧ Rr 5 j = 0 := fun j hj => by
        rw [eR, xrow_get, if_neg (by decide), xrow_get, if_pos rfl, xrow_get, if_pos rfl]
        exact ⟨if_pos hj, if_pos hj⟩
      have hz : gfs (sheet4 s (H' : Int) (W' : Int)) = [] := gfs_nil (sheet4_z (Or.inl rfl))
      refine dOk (v := (H' : Int) * (W' : Int)) (s' := sheet4 s H' W') (R' := xup (xup (xup Rs 9 3 0) 2 6 0) 2 7 0) (H := H') (W := W') (g := gg0 H' W') ?_ (nerr (by rw [← Int.natCast_mul]; omega)) (fun j hj => sheet4_ne (Or.inl hj)) ?_ (fun q j h _ => by rw [xup_nn (by omega), xup_nn (by omega), xup_nn (by omega), s3 q j (by omega) (by omega), q1 q j (by omega) (by omega) (by omega)]) ?_ ?_
      · unfold spSheet; rw [if_pos h1, if_pos h2]
      · unfold f_X0_takeSheet f_X7_dropAll
        simp only [xlet, Nat.reduceAdd]
        rw [(len9 h1).1, Option.bind_some, if_pos rfl, (len9 h2).1, Option.bind_some, if_pos rfl, hRr, Option.bind_some, s1, Option.bind_some, Option.bind_some, ← Int.natCast_mul, w4n (by omega)]
      · refine ⟨lH, lW, rfl, rfl, ?_, fun i hi => ?_, by rw [hz]; rfl, ?_, ?_, ?_, ?_, ?_, ?_, fun k hk => ?_, ?_, fun k hk => ?_, fun k hk => ?_⟩
        · rw [sheet4_z (Or.inl rfl)]; omega
        · rw [sheet4_z (Or.inl rfl)] at hi; omega
        · rw [sheet4_ne (by omega)]; exact k8
        · rw [sheet4_z (by omega)]; omega
        · rw [sheet4_z (by omega)]; decide
        · rw [sheet4_ne (by omega)]; exact k11
        · rw [sheet4_ne (by omega)]; exact k12
        · rw [sheet4_z (by omega)]; omega
        · rw [sheet4_z (by omega)] at hk; omega
        · rw [sheet4_ne (by omega)]; exact k15
        · rw [sheet4_ne (by omega)] at hk
          rw [sheet4_ne (by omega), sheet4_ne (by omega), sheet4_ne (by omega), sheet4_ne (by omega)]; exact k16 k hk
        · rw [(sheet4_p hk).1, (sheet4_p hk).2]; omega
      · have f : ∀ q j : Nat, q ≠ 2 → q ≠ 6 → q ≠ 7 → q ≠ 9 → (xup (xup (xup Rs 9 3 0) 2 6 0) 2 7 0) q j = Rr q j := fun q j a1 a2 a3 a4 => by rw [xup_nn (by omega), xup_nn (by omega), xup_nn (by omega), s3 q j a2 a3]
        have f2 : ∀ j : Nat, ¬ (6 ≤ j ∧ j ≤ 7) → (xup (xup (xup Rs 9 3 0) 2 6 0) 2 7 0) 2 j = R 2 j := fun j a1 => by rw [xup_nn (by omega), xup_nn (by omega), xup_nn (by omega), s3 2 j (by omega) (by omega), q1 2 j (by omega) (by omega) (by omega)]
        refine ⟨?_, ?_, fun k hk => ?_, ?_, ?_, ?_, ?_, ?_, ?_, ?_, fun k hk => ?_, ?_, fun k hk => ?_, fun k hk => ?_⟩
        · rw [f _ _ (by omega) (by omega) (by omega) (by omega)]; exact q2.1
        · rw [f _ _ (by omega) (by omega) (by omega) (by omega)]; exact q2.2
        · have hp := pl_lt lH lW hk
          rw [f _ _ (by omega) (by omega) (by omega) (by omega), f _ _ (by omega) (by omega) (by omega) (by omega), (sheet4_p (by omega)).1, (sheet4_p (by omega)).2]
          exact q3 _ hp
        · rw [hz]
          exact s2.fr (fun q j hq => by rw [xup_nn (by omega), xup_nn (by omega), xup_nn (by omega)])
        · rw [f2 5 (by omega), sheet4_ne (by omega)]; exact r5
        · rw [xup_nn (by omega), xup_eq, sheet4_z (by omega)]
        · rw [xup_eq, sheet4_z (by omega)]
        · rw [f2 8 (by omega), sheet4_ne (by omega)]; exact r8
        · rw [f2 9 (by omega), sheet4_ne (by omega)]; exact r9
        · rw [xup_nn (by omega), xup_nn (by omega), xup_eq, sheet4_z (by omega)]
        · rw [sheet4_z (by omega)] at hk; omega
        · rw [f _ _ (by omega) (by omega) (by omega) (by omega), q1 _ _ (by omega) (by omega) (by omega), sheet4_ne (by omega)]; exact r12
        · rw [sheet4_ne (by omega)] at hk
          rw [f _ _ (by omega) (by omega) (by omega) (by omega), q1 _ _ (by omega) (by omega) (by omega), sheet4_ne (by omega)]; exact r13 k hk
        · rw [f _ _ (by omega) (by omega) (by omega) (by omega), q1 _ _ (by omega) (by omega) (by omega), sheet4_ne (by omega)]; exact r14 k hk
    · refine dErr (v := -1) w r ?_ ?_
      · unfold spSheet; rw [if_pos h1, if_neg h2]
      · unfold f_X0_takeSheet
        rw [(len9 h1).1, Option.bind_some, if_pos rfl, (len9n h2).1, Option.bind_some, if_neg (by decide)]
  · refine dErr (v := -1) w r ?_ ?_
    · unfold spSheet; rw [if_neg h1]
    · unfold f_X0_takeSheet
      rw [(len9n h1).1, Option.bind_some, if_neg (by decide)]
/-- folds in numbers -/
theorem gall_len : ∀ {fs : List Nat} {g g' : gG}, gall fs g = some g' → g'.2.2.1 = g.2.2.1 + fs.length := by
  intro fs
  induction fs with
  | nil => intro g g' h; cases h; rfl
  | cons f fs ih =>
    intro g g' h
    rw [gall_cons] at h
    by_cases hf : gok f g = true
    · rw [if_pos hf] at h
      rw [ih h, List.length_cons]
      show g.2.2.1 + 1 + fs.length = _
      omega
    · rw [if_neg hf] at h; cases h
theorem SW.cnt {s : Nat → Int} {H W : Nat} {g : gG} (w : SW s H W g) : s 2 = (g.2.2.1 : Int) := by
  have := gall_len w.2.2.2.2.2.2.1
  rw [gfs_len] at this
  have k5 := w.2.2.2.2.1
  have h0 : (gg0 H W).2.2.1 = 0 := rfl
  omega
theorem gfn_snoc {n f : Nat} {fs : List Nat} : gfn n (fs ++ [f]) = gfn n fs * 10 + f := by
  unfold gfn
  rw [List.foldl_append]
  rfl
theorem gfn_lt : ∀ {fs : List Nat} {n : Nat}, (∀ f ∈ fs, 1 ≤ f ∧ f ≤ 4) → gfn n fs < (n + 1) * 10 ^ fs.length := by
  intro fs
  induction fs with
  | nil => intro n _; show n < (n + 1) * 1; omega
  | cons f fs ih =>
    intro n h
    have h1 := h f (List.mem_cons_self)
    have h2 := ih (n := n * 10 + f) (fun x hx => h x (List.mem_cons_of_mem _ hx))
    have h3 : gfn n (f :: fs) = gfn (n * 10 + f) fs := rfl
    rw [h3, List.length_cons, Nat.pow_succ]
    refine Nat.lt_of_lt_of_le h2 ?_
    rw [show (n + 1) * (10 ^ fs.length * 10) = ((n + 1) * 10) * 10 ^ fs.length by rw [Nat.mul_comm (10 ^ fs.length) 10, ← Nat.mul_assoc]]
    exact Nat.mul_le_mul_right _ (by omega)
theorem SW.fnb {s : Nat → Int} {H W : Nat} {g : gG} (w : SW s H W g) : gfn 0 (gfs s) < 10000 := by
  have h1 := gfn_lt (n := 0) (gall_dig w.2.2.2.2.2.2.1)
  have k5 := w.2.2.2.2.1
  have h2 : 10 ^ (gfs s).length ≤ 10 ^ 4 := Nat.pow_le_pow_right (by decide) (by rw [gfs_len]; omega)
  omega
theorem gdk1 : ∀ a ∈ ([1, 2, 3, 4] : List Nat), gdk 4 (gfn 0 [a]) = [a] ∧ gfn 0 [a] ≤ 4444 := by decide
theorem gdk2 : ∀ a ∈ ([1, 2, 3, 4] : List Nat), ∀ b ∈ ([1, 2, 3, 4] : List Nat), gdk 4 (gfn 0 [a, b]) = [a, b] ∧ gfn 0 [a, b] ≤ 4444 := by decide
theorem gdk3 : ∀ a ∈ ([1, 2, 3, 4] : List Nat), ∀ b ∈ ([1, 2, 3, 4] : List Nat), ∀ c ∈ ([1, 2, 3, 4] : List Nat), gdk 4 (gfn 0 [a, b, c]) = [a, b, c] ∧ gfn 0 [a, b, c] ≤ 4444 := by decide +kernel
theorem gdk4 : ∀ a ∈ ([1, 2, 3, 4] : List Nat), ∀ b ∈ ([1, 2, 3, 4] : List Nat), ∀ c ∈ ([1, 2, 3, 4] : List Nat), ∀ d ∈ ([1, 2, 3, 4] : List Nat), gdk 4 (gfn 0 [a, b, c, d]) = [a, b, c, d] ∧ gfn 0 [a, b, c, d] ≤ 4444 := by decide +kernel
theorem dig_mem {f : Nat} (h : 1 ≤ f ∧ f ≤ 4) : f ∈ ([1, 2, 3, 4] : List Nat) := by
  have : f = 1 ∨ f = 2 ∨ f = 3 ∨ f = 4 := by omega
  rcases this with rfl | rfl | rfl | rfl <;> decide
theorem gdk_gfn {fs : List Nat} (hl : fs.length ≤ 4) (h : ∀ f ∈ fs, 1 ≤ f ∧ f ≤ 4) : gdk 4 (gfn 0 fs) = fs ∧ gfn 0 fs ≤ 4444 := by
  match fs, hl, h with
  | [], _, _ => exact ⟨by decide, by decide⟩
  | [a], _, h => exact gdk1 a (dig_mem (h a (by simp)))
  | [a, b], _, h => exact gdk2 a (dig_mem (h a (by simp))) b (dig_mem (h b (by simp)))
  | [a, b, c], _, h => exact gdk3 a (dig_mem (h a (by simp))) b (dig_mem (h b (by simp))) c (dig_mem (h c (by simp)))
  | [a, b, c, d], _, h => exact gdk4 a (dig_mem (h a (by simp))) b (dig_mem (h b (by simp))) c (dig_mem (h c (by simp))) d (dig_mem (h d (by simp)))
  | _ :: _ :: _ :: _ :: _ :: _, hl, _ => exact absurd hl (by simp)
theorem isf9 {R : xN} {s : Nat → Int} (h6 : R 2 6 = s 8) (h7 : R 2 7 = s 9) : f_X0_isFixed 2 R = some (!decide (s 8 = 0 ∧ s 9 = 0)) := by
  unfold f_X0_isFixed
  rw [h6, h7]
  by_cases h1 : s 8 = 0
  · rw [if_pos h1]
    by_cases h2 : s 9 = 0
    · rw [if_pos h2, decide_eq_true ⟨h1, h2⟩]; rfl
    · rw [if_neg h2, decide_eq_false (fun h => h2 h.2)]; rfl
  · rw [if_neg h1, decide_eq_false (fun h => h1 h.1)]; rfl
def fold4 (s : Nat → Int) (v : Int) (d : Int) : Nat → Int := u1 (u1 (u1 s 86 (w4 (s 86 + d))) (3 + (s 2).toNat) v) 2 (s 2 + 1)
def spFold (v : Int) : sSp := fun s => if 1 ≤ v ∧ v ≤ 4 then (if gok v.toNat (gOf s) = true ∧ (s 8 = 0 ∧ s 9 = 0) then (((2 ^ ((gOf s).2.2.1 + 1) : Nat) : Int), fold4 s v ((2 ^ (gOf s).2.2.1 : Nat) : Int)) else (-2, s)) else (-1, s)
theorem fold4_gfs {s : Nat → Int} {f : Nat} {d : Int} (h : 0 ≤ s 2 ∧ s 2 < 4) : gfs (fold4 s (f : Int) d) = gfs s ++ [f] := by
  obtain ⟨c, hc⟩ := Int.eq_ofNat_of_zero_le h.1
  unfold gfs fold4
  rw [u1_eq, hc, show ((c : Int) + 1).toNat = c + 1 by omega, Int.toNat_natCast, List.range_succ, List.map_append]
  congr 1
  · apply List.map_congr_left
    intro i hi
    have := List.mem_range.mp hi
    rw [u1_ne (by omega), u1_ne (by omega), u1_ne (by omega)]
  · show [((u1 (u1 (u1 s 86 (w4 (s 86 + d))) (3 + c) (f : Int)) 2 ((c : Int) + 1)) (3 + c)).toNat] = [f]
    rw [u1_ne (by omega), u1_eq, Int.toNat_natCast]
theorem d_fold {v : Int} : dSpec (f_X0_foldOnce 2 v) (spFold v) := by
  intro R s H W g w r
  obtain ⟨k1, k2, k3, k4, k5, k6, k7, k8, k9, k10, k11, k12, k13, k14, k15, k16, k17⟩ := id w
  obtain ⟨r1, r2, r3, r4, r5, r6, r7, r8, r9, r10, r11, r12, r13, r14⟩ := id r
  have hg := gOf_eq w
  have hc := w.cnt
  by_cases h1 : 1 ≤ v ∧ v ≤ 4
  · obtain ⟨f, hf⟩ := Int.eq_ofNat_of_zero_le (show 0 ≤ v by omega)
    have hft : v.toNat = f := by omega
    have hcan : f_X3_canFold 6 v R = some (gok f g) := by rw [hf]; exact can_eq r4 w.gw
    by_cases h2 : s 8 = 0 ∧ s 9 = 0
    · by_cases h3 : gok f g = true
      · have hk4 : g.2.2.1 + 1 < 5 := (w.gw.put h3).2.2.2.2.1
        have r15 : R 15 0 = s 86 := r14 0 (by omega)
        have r4' : LRg (xup R 15 0 (w4 (s 86 + ((2 ^ g.2.2.1 : Nat) : Int)))) 6 H W g (gfn 0 (gfs s)) := r4.fr (fun q j hq => xup_nn (by omega))
        have hfn := w.fnb
        obtain ⟨R', b1, b2, b3⟩ := lay_put r4' w.gw h3 (by omega)
        have hd' : (2 ^ (g.2.2.1 + 1) : Nat) = 2 ^ (gput f g).2.2.1 := rfl
        have hgf : gfs (fold4 s v ((2 ^ g.2.2.1 : Nat) : Int)) = gfs s ++ [f] := by rw [hf]; exact fold4_gfs (by omega)
        have hj : ∀ j : Nat, ¬ (2 ≤ j ∧ j ≤ 6) → j ≠ 86 → fold4 s v ((2 ^ g.2.2.1 : Nat) : Int) j = s j := fun j h h' => by
          unfold fold4
          rw [u1_ne (by omega), u1_ne (by omega), u1_ne (by omega)]
        have h86 : fold4 s v ((2 ^ g.2.2.1 : Nat) : Int) 86 = w4 (s 86 + ((2 ^ g.2.2.1 : Nat) : Int)) := by
          unfold fold4
          rw [u1_ne (by omega), u1_ne (by omega), u1_eq]
        have h22 : fold4 s v ((2 ^ g.2.2.1 : Nat) : Int) 2 = s 2 + 1 := u1_eq
        have f' : ∀ q j : Nat, q ≠ 6 → q ≠ 7 → q ≠ 8 → q ≠ 15 → R' q j = R q j := fun q j a1 a2 a3 a4 => by rw [b3 q j a1 a2 a3, xup_nn (by omega)]
        refine dOk (v := ((2 ^ (g.2.2.1 + 1) : Nat) : Int)) (s' := fold4 s v ((2 ^ g.2.2.1 : Nat) : Int)) (R' := R') (H := H) (W := W) (g := gput f g) ?_ (nerr (Int.natCast_nonneg _)) (fun j hj' => hj j (by omega) (by omega)) ?_ (fun q j h _ => f' q j (by omega) (by omega) (by omega) (by omega)) (w.gf (fun j _ a1 a2 => hj j a1 (by omega)) ?_ (fun i hi => ?_) ?_) (r.gf w (fun j _ a1 a2 => hj j a1 (by omega)) (fun q j _ a2 a3 a4 a5 => f' q j a3 a4 a5 (by omega)) ?_ (fun k hk => ?_))
        · unfold spFold; rw [hg, if_pos h1, hft, if_pos ⟨h3, h2⟩]
        · unfold f_X0_foldOnce
          simp only [xlet, Nat.reduceAdd]
          rw [in9, Option.bind_some, if_pos (decide_eq_true h1), isf9 r6 r7, Option.bind_some, decide_eq_true h2, if_neg (by decide), hcan, Option.bind_some, if_pos h3, dep9 r4 w.gw, Option.bind_some, r15, hf, b1, Option.bind_some, dep9 b2 (w.gw.put h3), Option.bind_some, hd']
        · rw [h22]; omega
        · rw [h22] at hi
          by_cases hi2 : i = (s 2).toNat
          · unfold fold4; rw [hi2, u1_ne (by omega), u1_eq]; omega
          · unfold fold4; rw [u1_ne (by omega), u1_ne (by omega), u1_ne (by omega)]; exact k6 i (by omega)
        · rw [hgf, gall_snoc, k7, Option.bind_some, if_pos h3]
        · rw [hgf, gfn_snoc]; exact b2
        · by_cases hk0 : k = 0
          · subst hk0
            rw [b3 15 0 (by omega) (by omega) (by omega), xup_eq, h86]
          · rw [b3 15 k (by omega) (by omega) (by omega), xup_nn (by omega), hj _ (by omega) (by omega)]
            exact r14 k hk
      · refine dErr (v := -2) w r ?_ ?_
        · unfold spFold; rw [hg, if_pos h1, hft, if_neg (fun h => h3 h.1)]
        · unfold f_X0_foldOnce
          simp only [Nat.reduceAdd]
          rw [in9, Option.bind_some, if_pos (decide_eq_true h1), isf9 r6 r7, Option.bind_some, decide_eq_true h2, if_neg (by decide), hcan, Option.bind_some, if_neg h3]
    · refine dErr (v := -2) w r ?_ ?_
      · unfold spFold; rw [if_pos h1, if_neg (fun h => h2 h.2)]
      · unfold f_X0_foldOnce
        rw [in9, Option.bind_some, if_pos (decide_eq_true h1), isf9 r6 r7, Option.bind_some, decide_eq_false h2, if_pos (show (!false) = true from rfl)]
  · refine dErr (v := -1) w r ?_ ?_
    · unfold spFold; rw [if_neg h1]
    · unfold f_X0_foldOnce
      rw [in9, Option.bind_some, decide_eq_false h1, if_neg (by decide)]
def unf4 (s : Nat → Int) : Nat → Int := u1 (u1 s 86 (w4 (s 86 + 1))) 2 (s 2 - 1)
def spUnf : sSp := fun s => if s 2 = 0 ∨ ¬ (s 8 = 0 ∧ s 9 = 0) then (-2, s) else (s 2 - 1, unf4 s)
theorem unf4_gfs {s : Nat → Int} (h : 1 ≤ s 2 ∧ s 2 ≤ 4) : ∃ f : Nat, gfs s = gfs (unf4 s) ++ [f] := by
  obtain ⟨c, hc⟩ := Int.eq_ofNat_of_zero_le (show 0 ≤ s 2 - 1 by omega)
  refine ⟨(s (3 + c)).toNat, ?_⟩
  unfold gfs unf4
  rw [u1_eq, show (s 2).toNat = c + 1 by omega, show (s 2 - 1).toNat = c by omega, List.range_succ, List.map_append]
  congr 1
  apply List.map_congr_left
  intro i hi
  have := List.mem_range.mp hi
  rw [u1_ne (by omega), u1_ne (by omega)]
theorem gall_init {fs : List Nat} {f : Nat} {g0 g : gG} (h : gall (fs ++ [f]) g0 = some g) : ∃ g', gall fs g0 = some g' ∧ 1 ≤ f ∧ f ≤ 4 := by
  have hd := gall_dig h f (by simp)
  rw [gall_snoc] at h
  cases hx : gall fs g0 with
  | none => rw [hx] at h; cases h
  | some g' => exact ⟨g', rfl, hd⟩
theorem d_unf : dSpec (f_X0_foldBack 2) spUnf := by
  intro R s H W g w r
  obtain ⟨k1, k2, k3, k4, k5, k6, k7, k8, k9, k10, k11, k12, k13, k14, k15, k16, k17⟩ := id w
  obtain ⟨r1, r2, r3, r4, r5, r6, r7, r8, r9, r10, r11, r12, r13, r14⟩ := id r
  have hc := w.cnt
  have r65 : R 6 5 = s 2 := by rw [hc]; exact r4.2.2.2.2.2.1
  by_cases h2 : s 8 = 0 ∧ s 9 = 0
  · by_cases h1 : s 2 = 0
    · refine dErr (v := -2) w r ?_ ?_
      · unfold spUnf; rw [if_pos (Or.inl h1)]
      · unfold f_X0_foldBack
        simp only [Nat.reduceAdd]
        rw [isf9 r6 r7, Option.bind_some, decide_eq_true h2, if_neg (by decide), r65, if_pos h1]
    · obtain ⟨f, hf⟩ := unf4_gfs (s := s) (by omega)
      rw [hf] at k7
      obtain ⟨g', hg', hfd⟩ := gall_init k7
      have hl : (gfs (unf4 s)).length ≤ 3 := by
        have := congrArg List.length hf
        rw [List.length_append, gfs_len] at this
        have h1 : [f].length = 1 := rfl
        omega
      obtain ⟨e1, e2⟩ := gdk_gfn (fs := gfs (unf4 s)) (by omega) (gall_dig hg')
      have r64 : R 6 4 = ((gfn 0 (gfs (unf4 s)) * 10 + f : Nat) : Int) := by rw [← gfn_snoc, ← hf]; exact r4.2.2.2.2.1
      generalize hn : gfn 0 (gfs (unf4 s)) = n at *
      have e3 : Qe (w4 (Int.tdiv ((n * 10 + f : Nat) : Int) 10)) (n : Int) := by
        unfold Qe
        rw [Int.tdiv_eq_ediv_of_nonneg (by omega), w4_of (by omega)]
        omega
      obtain ⟨R', b1, b2⟩ := cby_all (R := xup R 15 0 (w4 (s 86 + 1))) (b := 6) k1 k2 (show n ≤ 4444 from e2)
      rcases b2 with ⟨g2, c1, c2, c3⟩ | ⟨c1, -⟩
      · rw [e1, hg'] at c1
        cases c1
        rw [e1, hn] at c3
        have hj : ∀ j : Nat, j ≠ 2 → j ≠ 86 → unf4 s j = s j := fun j h h' => by
          unfold unf4
          rw [u1_ne (by omega), u1_ne (by omega)]
        have h22 : unf4 s 2 = s 2 - 1 := u1_eq
        have h86 : unf4 s 86 = w4 (s 86 + 1) := by unfold unf4; rw [u1_ne (by omega), u1_eq]
        have hk : g'.2.2.1 + 1 = g.2.2.1 := by
          have a1 := gall_len hg'
          have a2 := gall_len k7
          rw [List.length_append] at a2
          have h1 : [f].length = 1 := rfl
          omega
        have r15 : R 15 0 = s 86 := r14 0 (by omega)
        have f' : ∀ q j : Nat, q ≠ 6 → q ≠ 7 → q ≠ 8 → q ≠ 15 → R' q j = R q j := fun q j a1 a2 a3 a4 => by rw [b1 q j a1 a2 a3, xup_nn (by omega)]
        have b65 : R' 6 5 = s 2 - 1 := by
          have : R' 6 5 = (g'.2.2.1 : Int) := c3.2.2.2.2.2.1
          omega
        refine dOk (v := s 2 - 1) (s' := unf4 s) (R' := R') (H := H) (W := W) (g := g') ?_ (nerr (by omega)) (fun j hj' => hj j (by omega) (by omega)) ?_ (fun q j h _ => f' q j (by omega) (by omega) (by omega) (by omega)) (w.gf (fun j _ a1 a2 => hj j (by omega) (by omega)) ?_ (fun i hi => ?_) hg') (r.gf w (fun j _ a1 a2 => hj j (by omega) (by omega)) (fun q j _ a2 a3 a4 a5 => f' q j a3 a4 a5 (by omega)) ?_ (fun k hk => ?_))
        · unfold spUnf; rw [if_neg (by omega)]
        · unfold f_X0_foldBack
          simp only [xlet, Nat.reduceAdd]
          have r3' : R 3 0 = (H : Int) := r1
          have r31' : R 3 1 = (W : Int) := r2
          rw [isf9 r6 r7, Option.bind_some, decide_eq_true h2, if_neg (by decide), r65, if_neg h1, r15, xup_nn (by omega), xup_nn (by omega), xup_nn (by omega), r3', r31', r64, e3.eq, c2, Option.bind_some]
          dsimp only
          rw [b65]
        · rw [h22]; omega
        · rw [h22] at hi
          rw [hj _ (by omega) (by omega)]; exact k6 i (by omega)
        · rw [hn]; exact c3
        · by_cases hk0 : k = 0
          · subst hk0
            rw [b1 15 0 (by omega) (by omega) (by omega), xup_eq, h86]
          · rw [b1 15 k (by omega) (by omega) (by omega), xup_nn (by omega), hj _ (by omega) (by omega)]
            exact r14 k hk
      · rw [e1, hg'] at c1; cases c1
  · refine dErr (v := -2) w r ?_ ?_
    · unfold spUnf; rw [if_pos (Or.inr h2)]
    · unfold f_X0_foldBack
      rw [isf9 r6 r7, Option.bind_some, decide_eq_false h2, if_pos (show (!false) = true from rfl)]
