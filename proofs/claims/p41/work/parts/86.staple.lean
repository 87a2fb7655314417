/-! Actions of a desk: notes dropped; staples. -/
theorem isb9 {R : xN} {b H W fn : Nat} {g : gG} (h : LRg R b H W g fn) : f_X3_isBooklet b R = some (decide (g.1 = 1 ∧ g.2.1 = 1)) := by
  obtain ⟨-, -, a2, a3, -⟩ := h
  unfold f_X3_isBooklet
  rw [a2, a3]
  by_cases h1 : g.1 = 1
  · rw [if_pos (by omega)]
    by_cases h2 : g.2.1 = 1
    · rw [if_pos (by omega), decide_eq_true ⟨h1, h2⟩]
    · rw [if_neg (by omega), decide_eq_false (fun h => h2 h.2)]
  · rw [if_neg (by omega), decide_eq_false (fun h => h1 h.1)]
theorem dep9 {R : xN} {b H W fn : Nat} {g : gG} (h : LRg R b H W g fn) (w : GWg H W g) : f_X3_depth b R = some ((2 ^ g.2.2.1 : Nat) : Int) := by
  obtain ⟨-, -, -, -, -, a5, -⟩ := h
  unfold f_X3_depth
  rw [a5, shl1 _ w.2.2.2.2.1]
theorem GWg.dep {H W : Nat} {g : gG} (w : GWg H W g) : 1 ≤ 2 ^ g.2.2.1 ∧ 2 ^ g.2.2.1 ≤ 16 := by
  have hk := w.2.2.2.2.1
  have : g.2.2.1 = 0 ∨ g.2.2.1 = 1 ∨ g.2.2.1 = 2 ∨ g.2.2.1 = 3 ∨ g.2.2.1 = 4 := by omega
  rcases this with h | h | h | h | h <;> rw [h] <;> decide
theorem set_rng {x v : Int} (h : 0 ≤ x ∧ x ≤ 1023) (hv : 0 ≤ v ∧ v ≤ 9) : ∃ z : Int, Qe (b4or x (b4shl 1 v)) z ∧ 0 ≤ z ∧ z ≤ 1023 ∧ ones z.toNat ≤ ones x.toNat + 1 := by
  obtain ⟨n, rfl⟩ := Int.eq_ofNat_of_zero_le h.1
  obtain ⟨p, rfl⟩ := Int.eq_ofNat_of_zero_le hv.1
  have hn : n < 1024 := by omega
  have hp : p < 10 := by omega
  exact ⟨_, rfl, by rw [Int.toNat_natCast]; exact set_num n hn p hp⟩
theorem unset_rng {x v : Int} (h : 0 ≤ x ∧ x ≤ 1023) (hv : 0 ≤ v ∧ v ≤ 9) : ∃ z : Int, Qe (b4and x (b4xor (b4shl 1 v) (-1))) z ∧ 0 ≤ z ∧ z ≤ 1023 ∧ ones z.toNat ≤ ones x.toNat := by
  obtain ⟨n, rfl⟩ := Int.eq_ofNat_of_zero_le h.1
  obtain ⟨p, rfl⟩ := Int.eq_ofNat_of_zero_le hv.1
  have hn : n < 1024 := by omega
  have hp : p < 10 := by omega
  exact ⟨_, rfl, by rw [Int.toNat_natCast]; exact unset_num n hn p hp⟩
def spStaple (v : Int) : sSp := fun s => if 0 ≤ v ∧ v ≤ 9 then (if (gOf s).1 = 1 ∧ (gOf s).2.1 = 1 then (if b4and (b4shr (s 9) v) 1 = 1 then (-2, s) else if ones (s 9).toNat = 3 then (-3, s) else (if ((2 ^ (gOf s).2.2.1 : Nat) : Int) ≤ s 10 then ((2 ^ (gOf s).2.2.1 : Nat) : Int) else s 10, u1 (u1 s 9 (b4or (s 9) (b4shl 1 v))) 89 (w4 (s 89 + 3)))) else (-2, s)) else (-1, s)
theorem d_staple {v : Int} : dSpec (f_X0_setStaple 2 v) (spStaple v) := by
  intro R s H W g w r
  obtain ⟨k1, k2, k3, k4, k5, k6, k7, k8, k9, k10, k11, k12, k13, k14, k15, k16, k17⟩ := id w
  obtain ⟨r1, r2, r3, r4, r5, r6, r7, r8, r9, r10, r11, r12, r13, r14⟩ := id r
  have hg := gOf_eq w
  have hd := w.gw.dep
  by_cases h1 : 0 ≤ v ∧ v ≤ 9
  · by_cases h2 : g.1 = 1 ∧ g.2.1 = 1
    · by_cases h3 : hasb (s 9) v
      · refine dErr (v := -2) w r ?_ ?_
        · unfold spStaple; rw [hg, if_pos h1, if_pos h2]; exact if_pos h3
        · unfold f_X0_setStaple
          rw [in9, Option.bind_some, if_pos (decide_eq_true h1), isb9 r4, Option.bind_some, if_pos (decide_eq_true h2), r7, inset9 h3]
          rfl
      · by_cases h4 : ones (s 9).toNat = 3
        · refine dErr (v := -3) w r ?_ ?_
          · unfold spStaple; rw [hg, if_pos h1, if_pos h2]; exact (if_neg h3).trans (if_pos h4)
          · unfold f_X0_setStaple
            rw [in9, Option.bind_some, if_pos (decide_eq_true h1), isb9 r4, Option.bind_some, if_pos (decide_eq_true h2), r7, inset9n h3, Option.bind_some, if_neg (by decide), bc_eq ⟨k10.1, k10.2.1⟩, Option.bind_some, if_neg (by omega)]
        · obtain ⟨z, hz, hs⟩ := set_rng ⟨k10.1, k10.2.1⟩ h1
          refine dOk (v := if ((2 ^ g.2.2.1 : Nat) : Int) ≤ s 10 then ((2 ^ g.2.2.1 : Nat) : Int) else s 10) (s' := u1 (u1 s 9 z) 89 (w4 (s 89 + 3))) (R' := xup (xup R 2 7 z) 15 3 (w4 (s 89 + 3))) (H := H) (W := W) (g := g) ?_ (nerr (by split <;> omega)) (fun j hj => by rw [u1_ne (by omega), u1_ne (by omega)]) ?_ (fun q j hq _ => by rw [xup_nn (by omega), xup_nn (by omega)]) (w.sc (fun j _ h h' => by rw [u1_ne (by omega), u1_ne (by omega)]) ?_ ?_ ?_ ?_ ?_) (r.sc w (fun j _ h h' => by rw [u1_ne (by omega), u1_ne (by omega)]) (fun q j h h' => by rw [xup_nn (by omega), xup_nn (by omega)]) ?_ ?_ ?_ ?_ ?_ (fun k hk => ?_))
          · unfold spStaple; rw [hg, if_pos h1, if_pos h2]; rw [hz.eq]; exact (if_neg h3).trans (if_neg h4)
          · have r14' : R 15 3 = s 89 := r14 3 (by omega)
            have r4' : LRg (xup (xup R 2 7 z) 15 3 (w4 (s 89 + 3))) 6 H W g (gfn 0 (gfs s)) := r4.fr (fun q j hq => by rw [xup_nn (by omega), xup_nn (by omega)])
            unfold f_X0_setStaple
            rw [in9, Option.bind_some, if_pos (decide_eq_true h1), isb9 r4, Option.bind_some, if_pos (decide_eq_true h2), r7, inset9n h3, Option.bind_some, if_neg (by decide), bc_eq ⟨k10.1, k10.2.1⟩, Option.bind_some, if_pos (by omega)]
            simp only [xlet, Nat.reduceAdd]
            rw [hz.eq, xup_nn (by omega), r14', dep9 r4' w.gw, Option.bind_some, xup_nn (by omega), xup_nn (by omega), r8]
            by_cases h5 : ((2 ^ g.2.2.1 : Nat) : Int) < s 10
            · rw [if_pos h5, if_pos (by omega)]
            · rw [if_neg h5]
              by_cases h6 : ((2 ^ g.2.2.1 : Nat) : Int) ≤ s 10
              · rw [if_pos h6, show s 10 = ((2 ^ g.2.2.1 : Nat) : Int) by omega]
              · rw [if_neg h6]
          · rw [u1_ne (by omega), u1_ne (by omega)]; exact k8
          · rw [u1_ne (by omega), u1_ne (by omega)]; exact k9
          · rw [u1_ne (by omega), u1_eq]
            have h10 := k10.2.2
            omega
          · rw [u1_ne (by omega), u1_ne (by omega)]; exact k11
          · rw [u1_ne (by omega), u1_ne (by omega)]; exact k12
          · rw [xup_nn (by omega), xup_nn (by omega), u1_ne (by omega), u1_ne (by omega)]; exact r5
          · rw [xup_nn (by omega), xup_nn (by omega), u1_ne (by omega), u1_ne (by omega)]; exact r6
          · rw [xup_nn (by omega), xup_eq, u1_ne (by omega), u1_eq]
          · rw [xup_nn (by omega), xup_nn (by omega), u1_ne (by omega), u1_ne (by omega)]; exact r8
          · rw [xup_nn (by omega), xup_nn (by omega), u1_ne (by omega), u1_ne (by omega)]; exact r9
          · by_cases hk3 : k = 3
            · subst hk3; rw [xup_eq, u1_eq]
            · rw [xup_nn (by omega), xup_nn (by omega), u1_ne (by omega), u1_ne (by omega)]; exact r14 k hk
    · refine dErr (v := -2) w r ?_ ?_
      · unfold spStaple; rw [hg, if_pos h1, if_neg h2]
      · unfold f_X0_setStaple
        rw [in9, Option.bind_some, if_pos (decide_eq_true h1), isb9 r4, Option.bind_some, decide_eq_false h2, if_neg (by decide)]
  · refine dErr (v := -1) w r ?_ ?_
    · unfold spStaple; rw [if_neg h1]
    · unfold f_X0_setStaple
      rw [in9, Option.bind_some, decide_eq_false h1, if_neg (by decide)]
def spUnst (v : Int) : sSp := fun s => if 0 ≤ v ∧ v ≤ 9 then (if b4and (b4shr (s 9) v) 1 = 1 then ((ones (b4and (s 9) (b4xor (b4shl 1 v) (-1))).toNat : Int), u1 (u1 s 9 (b4and (s 9) (b4xor (b4shl 1 v) (-1)))) 89 (w4 (s 89 + 1))) else (-2, s)) else (-1, s)
theorem d_unst {v : Int} : dSpec (f_X0_drawStaple 2 v) (spUnst v) := by
  intro R s H W g w r
  obtain ⟨k1, k2, k3, k4, k5, k6, k7, k8, k9, k10, k11, k12, k13, k14, k15, k16, k17⟩ := id w
  obtain ⟨r1, r2, r3, r4, r5, r6, r7, r8, r9, r10, r11, r12, r13, r14⟩ := id r
  by_cases h1 : 0 ≤ v ∧ v ≤ 9
  · by_cases h3 : hasb (s 9) v
    · obtain ⟨z, hz, hs⟩ := unset_rng ⟨k10.1, k10.2.1⟩ h1
      refine dOk (v := (ones z.toNat : Int)) (s' := u1 (u1 s 9 z) 89 (w4 (s 89 + 1))) (R' := xup (xup R 2 7 z) 15 3 (w4 (s 89 + 1))) (H := H) (W := W) (g := g) ?_ (nerr (by omega)) (fun j hj => by rw [u1_ne (by omega), u1_ne (by omega)]) ?_ (fun q j hq _ => by rw [xup_nn (by omega), xup_nn (by omega)]) (w.sc (fun j _ h h' => by rw [u1_ne (by omega), u1_ne (by omega)]) ?_ ?_ ?_ ?_ ?_) (r.sc w (fun j _ h h' => by rw [u1_ne (by omega), u1_ne (by omega)]) (fun q j h h' => by rw [xup_nn (by omega), xup_nn (by omega)]) ?_ ?_ ?_ ?_ ?_ (fun k hk => ?_))
      · unfold spUnst; rw [if_pos h1, hz.eq]; exact if_pos h3
      · have r14' : R 15 3 = s 89 := r14 3 (by omega)
        unfold f_X0_drawStaple
        rw [in9, Option.bind_some, if_pos (decide_eq_true h1), r7, inset9 h3, Option.bind_some, if_pos rfl, hz.eq]
        simp only [xlet, Nat.reduceAdd]
        rw [xup_nn (a := 2) (q := 15) (by omega), r14', xup_nn (a := 15) (q := 2) (by omega), xup_eq, bc_eq ⟨hs.1, hs.2.1⟩]
        rfl
      · rw [u1_ne (by omega), u1_ne (by omega)]; exact k8
      · rw [u1_ne (by omega), u1_ne (by omega)]; exact k9
      · rw [u1_ne (by omega), u1_eq]
        have h10 := k10.2.2
        omega
      · rw [u1_ne (by omega), u1_ne (by omega)]; exact k11
      · rw [u1_ne (by omega), u1_ne (by omega)]; exact k12
      · rw [xup_nn (by omega), xup_nn (by omega), u1_ne (by omega), u1_ne (by omega)]; exact r5
      · rw [xup_nn (by omega), xup_nn (by omega), u1_ne (by omega), u1_ne (by omega)]; exact r6
      · rw [xup_nn (by omega), xup_eq, u1_ne (by omega), u1_eq]
      · rw [xup_nn (by omega), xup_nn (by omega), u1_ne (by omega), u1_ne (by omega)]; exact r8
      · rw [xup_nn (by omega), xup_nn (by omega), u1_ne (by omega), u1_ne (by omega)]; exact r9
      · by_cases hk3 : k = 3
        · subst hk3; rw [xup_eq, u1_eq]
        · rw [xup_nn (by omega), xup_nn (by omega), u1_ne (by omega), u1_ne (by omega)]; exact r14 k hk
    · refine dErr (v := -2) w r ?_ ?_
      · unfold spUnst; rw [if_pos h1]; exact if_neg h3
      · unfold f_X0_drawStaple
        rw [in9, Option.bind_some, if_pos (decide_eq_true h1), r7, inset9n h3, Option.bind_some, if_neg (by decide)]
  · refine dErr (v := -1) w r ?_ ?_
    · unfold spUnst; rw [if_neg h1]
    · unfold f_X0_drawStaple
      rw [in9, Option.bind_some, decide_eq_false h1, if_neg (by decide)]
