/-! Actions of a desk: notes dropped; staples. -/
theorem drp_lp {m : Nat} (hm : 1 ≤ m ∧ m ≤ 12) : ∀ (n i : Nat) (R : xN), i ≤ 4 * (m - 1) → 4 * (m - 1) - i < n → R 13 1 = (m : Int) → ∃ R', (∀ X : Int → xN → Option (Int × xN), lp_X4_drop_14 13 n (i : Int) R X = X ((4 * (m - 1) : Nat) : Int) R') ∧ (∀ j : Nat, i ≤ j → j < 4 * (m - 1) → R' 14 j = R 14 (j + 4)) ∧ ∀ q j : Nat, ¬ (q = 14 ∧ i ≤ j ∧ j < 4 * (m - 1)) → R' q j = R q j := by
  intro n
  induction n with
  | zero => intro i R hi1 hi2; omega
  | succ n ih =>
    intro i R hi1 hi2 h1
    have e1 : Qe (w4 ((m : Int) * 4)) ((4 * m : Nat) : Int) := by unfold Qe; rw [w4_of (by omega)]; omega
    have e2 : Qe (w4 ((i : Int) + 4)) ((i + 4 : Nat) : Int) := by unfold Qe; rw [w4_of (by omega)]; omega
    have e3 : Qe (w4 ((i : Int) + 1)) ((i + 1 : Nat) : Int) := by unfold Qe; rw [w4_of (by omega)]; omega
    by_cases hie : i = 4 * (m - 1)
    · refine ⟨R, fun X => ?_, fun j _ _ => by omega, fun q j _ => rfl⟩
      rw [lp_X4_drop_14, h1, e1.eq, e2.eq, if_pos (by omega), hie]
    · obtain ⟨R', b1, b2, b3⟩ := ih (i + 1) (xup R 14 i (R 14 (i + 4))) (by omega) (by omega) (by rw [xup_nn (by omega)]; exact h1)
      refine ⟨R', fun X => ?_, fun j hj1 hj2 => ?_, fun q j hq => ?_⟩
      · rw [lp_X4_drop_14, h1, e1.eq, e2.eq, if_neg (by omega), if_neg (by omega), if_pos (by omega), if_pos (by omega), xlet_eq, xlet_eq, e3.eq, Int.toNat_natCast, Int.toNat_natCast]
        exact b1 X
      · by_cases hji : j = i
        · subst hji; rw [b3 14 j (by omega), xup_eq]
        · rw [b2 j (by omega) hj2, xup_nn (by omega)]
      · rw [b3 q j (by omega), xup_nn (by omega)]
theorem rmv_lp {m : Nat} (hm : m ≤ 11) : ∀ (n i : Nat) (R : xN), i ≤ 38 + 4 * m → 38 + 4 * m - i < n → R 324 37 = (m : Int) → 38 ≤ i → ∃ R', (∀ X : Int → xN → Option (Int × xN), lp_X10_removeNote_43 323 n (i : Int) R X = X ((38 + 4 * m : Nat) : Int) R') ∧ (∀ j : Nat, i ≤ j → j < 38 + 4 * m → R' 324 j = R 324 (j + 4)) ∧ ∀ q j : Nat, ¬ (q = 324 ∧ i ≤ j ∧ j < 38 + 4 * m) → R' q j = R q j := by
  intro n
  induction n with
  | zero => intro i R hi1 hi2; omega
  | succ n ih =>
    intro i R hi1 hi2 h1 h38
    have e1 : Qe (w4 (38 + w4 (4 * (m : Int)))) ((38 + 4 * m : Nat) : Int) := by unfold Qe; rw [w4_of (x := 4 * _) (by omega), w4_of (by omega)]; omega
    have e2 : Qe (w4 ((i : Int) + 4)) ((i + 4 : Nat) : Int) := by unfold Qe; rw [w4_of (by omega)]; omega
    have e3 : Qe (w4 ((i : Int) + 1)) ((i + 1 : Nat) : Int) := by unfold Qe; rw [w4_of (by omega)]; omega
    by_cases hie : i = 38 + 4 * m
    · refine ⟨R, fun X => ?_, fun j _ _ => by omega, fun q j _ => rfl⟩
      rw [lp_X10_removeNote_43, show 323 + 1 = 324 from rfl, h1, e1.eq, if_pos (by omega), hie]
    · obtain ⟨R', b1, b2, b3⟩ := ih (i + 1) (xup R 324 i (R 324 (i + 4))) (by omega) (by omega) (by rw [xup_nn (by omega)]; exact h1) (by omega)
      refine ⟨R', fun X => ?_, fun j hj1 hj2 => ?_, fun q j hq => ?_⟩
      · rw [lp_X10_removeNote_43, show 323 + 1 = 324 from rfl, h1, e1.eq, e2.eq, if_neg (by omega), if_pos (by omega), if_pos (by omega), xlet_eq, xlet_eq, e3.eq, Int.toNat_natCast, Int.toNat_natCast]
        exact b1 X
      · by_cases hji : j = i
        · subst hji; rw [b3 324 j (by omega), xup_eq]
        · rw [b2 j (by omega) hj2, xup_nn (by omega)]
      · rw [b3 q j (by omega), xup_nn (by omega)]
def drop4 (s : Nat → Int) (v : Int) : Nat → Int := fun j => if j = 37 then s 37 - 1 else if 38 + 4 * v.toNat ≤ j ∧ j < 38 + 4 * ((s 37).toNat - 1) then s (j + 4) else s j
def spDrop (v : Int) : sSp := fun s => if 0 ≤ v ∧ v ≤ s 37 - 1 then (s 37 - 1, drop4 s v) else (-1, s)
theorem d_drop {v : Int} : dSpec (f_X4_drop 13 v) (spDrop v) := by
  intro R s H W g w r
  obtain ⟨k1, k2, k3, k4, k5, k6, k7, k8, k9, k10, k11, k12, k13, k14, k15, k16, k17⟩ := id w
  obtain ⟨r1, r2, r3, r4, r5, r6, r7, r8, r9, r10, r11, r12, r13, r14⟩ := id r
  have r12' : R 13 1 = s 37 := r12
  have e0 : w4 (s 37 - 1) = s 37 - 1 := w4_of (by omega)
  by_cases h1 : 0 ≤ v ∧ v ≤ s 37 - 1
  · obtain ⟨m, hm⟩ := Int.eq_ofNat_of_zero_le k15.1
    obtain ⟨i, hi⟩ := Int.eq_ofNat_of_zero_le h1.1
    have hm1 : 1 ≤ m ∧ m ≤ 12 := by omega
    have hmt : (s 37).toNat = m := by omega
    have hit : v.toNat = i := by omega
    obtain ⟨R', b1, b2, b3⟩ := drp_lp hm1 6000 (4 * i) R (by omega) (by omega) (by rw [r12']; exact hm)
    have hj : ∀ j : Nat, ¬ (37 ≤ j ∧ j < 86) → drop4 s v j = s j := fun j hj => by
      unfold drop4
      rw [if_neg (by omega), if_neg (by omega)]
    have c37 : drop4 s v 37 = s 37 - 1 := if_pos rfl
    have b37 : R' 13 1 = s 37 := by rw [b3 13 1 (by omega), r12']
    refine dOk (v := s 37 - 1) (s' := drop4 s v) (R' := xup R' 13 1 (s 37 - 1)) (H := H) (W := W) (g := g) ?_ (nerr (by omega)) (fun j h => hj j (by omega)) ?_ (fun q j h _ => by rw [xup_nn (by omega), b3 q j (by omega)]) (w.nt (fun j _ h => hj j h) ?_ (fun k hk => ?_)) (r.nt w (fun j _ h => hj j h) (fun q j _ _ h h' => by rw [xup_nn (by omega), b3 q j (by omega)]) ?_ (fun k hk => ?_))
    · unfold spDrop; rw [if_pos h1]
    · have e1 : Qe (w4 (v * 4)) (((4 * i : Nat) : Int)) := by unfold Qe; rw [w4_of (by omega)]; omega
      unfold f_X4_drop f_X4_has
      rw [r12', e0, in9, Option.bind_some, Option.bind_some, if_pos (decide_eq_true h1), xlet_eq, e1.eq, b1]
      simp only [xlet]
      rw [b37, e0, xup_eq]
    · rw [c37]; omega
    · rw [c37] at hk
      unfold drop4
      rw [hmt, hit]
      by_cases hki : i ≤ k
      · rw [if_neg (by omega), if_pos (by omega), if_neg (by omega), if_pos (by omega), if_neg (by omega), if_pos (by omega), if_neg (by omega), if_pos (by omega)]
        have := k16 (k + 1) (by omega)
        rw [show 38 + 4 * (k + 1) = 38 + 4 * k + 4 by omega, show 39 + 4 * (k + 1) = 39 + 4 * k + 4 by omega, show 40 + 4 * (k + 1) = 40 + 4 * k + 4 by omega, show 41 + 4 * (k + 1) = 41 + 4 * k + 4 by omega] at this
        exact this
      · rw [if_neg (by omega), if_neg (by omega), if_neg (by omega), if_neg (by omega), if_neg (by omega), if_neg (by omega), if_neg (by omega), if_neg (by omega)]
        exact k16 k (by omega)
    · rw [xup_eq, c37]
    · rw [c37] at hk
      rw [xup_nn (by omega)]
      unfold drop4
      rw [hmt, hit, if_neg (by omega)]
      by_cases hki : 4 * i ≤ k
      · rw [if_pos (by omega), b2 k hki (by omega)]
        exact r13 (k + 4) (by omega)
      · rw [if_neg (by omega), b3 14 k (by omega)]
        exact r13 k (by omega)
  · refine dErr (v := -1) w r ?_ ?_
    · unfold spDrop; rw [if_neg h1]
    · unfold f_X4_drop f_X4_has
      rw [r12', e0, in9, Option.bind_some, Option.bind_some, decide_eq_false h1, if_neg (by decide)]
set_option maxRecDepth 100000 in
theorem w_drop {v : Int} : wSpec (f_X10_removeNote 323 v) (spDrop v) := by
  intro R H W g w
  obtain ⟨k1, k2, k3, k4, k5, k6, k7, k8, k9, k10, k11, k12, k13, k14, k15, k16, k17⟩ := id w
  have e0 : w4 (R 324 37 - 1) = R 324 37 - 1 := w4_of (by omega)
  by_cases h1 : 0 ≤ v ∧ v ≤ R 324 37 - 1
  · obtain ⟨m, hm⟩ := Int.eq_ofNat_of_zero_le k15.1
    obtain ⟨i, hi⟩ := Int.eq_ofNat_of_zero_le h1.1
    have hmt : (R 324 37).toNat = m := by omega
    have hit : v.toNat = i := by omega
    refine wOk (v := R 324 37 - 1) (s' := drop4 (R 324) v) ?_ (nerr (by omega)) kLay.refl (fun Rb a1 a2 a3 => ?_)
    · unfold spDrop; rw [if_pos h1]
    · obtain ⟨R', b1, b2, b3⟩ := rmv_lp (m := m - 1) (by omega) 6000 (38 + 4 * i) (xup Rb 324 37 (R 324 37 - 1)) (by omega) (by omega) (by rw [xup_eq]; omega) (by omega)
      have e1 : Qe (w4 (38 + w4 (4 * v))) (((38 + 4 * i : Nat) : Int)) := by unfold Qe; rw [w4_of (x := 4 * v) (by omega), w4_of (by omega)]; omega
      have b37 : R' 324 37 = R 324 37 - 1 := by rw [b3 324 37 (by omega), xup_eq]
      refine ⟨R', ?_, ?_, fun q j hq => by rw [b3 q j (by omega), xup_nn (by omega)]⟩
      · unfold f_X10_removeNote
        simp only [xlet, Nat.reduceAdd]
        rw [e0, in10, Option.bind_some, if_pos (decide_eq_true h1), a1, Option.bind_some, a2, e0, e1.eq, b1]
        rw [b37]
      · funext j
        unfold drop4
        rw [hmt, hit]
        by_cases hj : j = 37
        · rw [if_pos hj, hj, b37]
        · rw [if_neg hj]
          by_cases hj2 : 38 + 4 * i ≤ j ∧ j < 38 + 4 * (m - 1)
          · rw [if_pos hj2, b2 j hj2.1 hj2.2, xup_nn (by omega), a2]
          · rw [if_neg hj2, b3 324 j (by omega), xup_nn (by omega), a2]
  · refine wErr (v := -1) ?_ err1 ?_ kLay.refl
    · unfold spDrop; rw [if_neg h1]
    · unfold f_X10_removeNote
      simp only [Nat.reduceAdd]
      rw [e0, in10, Option.bind_some, decide_eq_false h1, if_neg (by decide)]
theorem o_drop {v : Int} : opM Inv (f_X9_removeNote 0 v) (f_X10_removeNote 323 v) := desk_row d_drop w_drop (fun _ => rfl)
theorem isb9 {R : xN} {b H W fn : Nat} {g : gG} (h : LRg R b H W g fn) : f_X3_isBooklet b R = some (decide (g.1 = 1 ∧ g.2.1 = 1)) := by
  obtain ⟨-, -, a2, a3, -⟩ := h
  unfold f_X3_isBooklet
  rw [a2, a3]
  by_cases h1 : g.1 = 1
  · rw [if_pos (by omega)]
    by_cases h2 : g.2.1 = 1
    · rw [if_pos (by omega), decide_eq_true ⟨h1, h2⟩]
    · rw [if_neg (by omega), decide_eq_false (fun h => h2 h.2)]
  · rw [if_neg (by omega), decide_eq_false (fun h => h1 h.1)]
theorem dep9 {R : xN} {b H W fn : Nat} {g : gG} (h : LRg R b H W g fn) (w : GWg H W g) : f_X3_depth b R = some ((2 ^ g.2.2.1 : Nat) : Int) := by
  obtain ⟨-, -, -, -, -, a5, -⟩ := h
  unfold f_X3_depth
  rw [a5, shl1 _ w.2.2.2.2.1]
theorem isb10 {R : xN} {H W : Nat} {g : gG} (w : SW (R 324) H W g) : ∃ R', f_X10_isBooklet 323 R = some (decide (g.1 = 1 ∧ g.2.1 = 1), R') ∧ MRg R' H W g ∧ kLay R R' := by
  obtain ⟨k1, k2, k3, k4, k5, k6, k7, -⟩ := id w
  obtain ⟨R', a1, a2, a3⟩ := now_eq k1 k2 k3 k4 k5 k6 k7
  have hr : ∀ j : Nat, R' 324 j = R 324 j := fun j => a3 324 j (by omega) (by omega)
  refine ⟨R', ?_, a2, a3⟩
  unfold f_X10_isBooklet
  rw [a1, Option.bind_some, cells_eq k1 k2 (by rw [hr]; exact k3) (by rw [hr]; exact k4), Option.bind_some, a2.2.2.1]
  have hb := book_iff w.gw
  by_cases h1 : g.1 = 1 ∧ g.2.1 = 1
  · rw [decide_eq_true h1, if_pos (by have := hb.mpr h1; omega)]
  · rw [decide_eq_false h1, if_neg (fun h => h1 (hb.mp (by omega)))]
theorem GWg.dep {H W : Nat} {g : gG} (w : GWg H W g) : 1 ≤ 2 ^ g.2.2.1 ∧ 2 ^ g.2.2.1 ≤ 16 := by
  have hk := w.2.2.2.2.1
  have : g.2.2.1 = 0 ∨ g.2.2.1 = 1 ∨ g.2.2.1 = 2 ∨ g.2.2.1 = 3 ∨ g.2.2.1 = 4 := by omega
  rcases this with h | h | h | h | h <;> rw [h] <;> decide
theorem set_rng {x v : Int} (h : 0 ≤ x ∧ x ≤ 1023) (hv : 0 ≤ v ∧ v ≤ 9) : ∃ z : Int, Qe (b4or x (b4shl 1 v)) z ∧ 0 ≤ z ∧ z ≤ 1023 ∧ ones z.toNat ≤ ones x.toNat + 1 := by
  obtain ⟨n, rfl⟩ := Int.eq_ofNat_of_zero_le h.1
  obtain ⟨p, rfl⟩ := Int.eq_ofNat_of_zero_le hv.1
  have hn : n < 1024 := by omega
  have hp : p < 10 := by omega
  exact ⟨_, rfl, by rw [Int.toNat_natCast]; exact set_num n hn p hp⟩
theorem unset_rng {x v : Int} (h : 0 ≤ x ∧ x ≤ 1023) (hv : 0 ≤ v ∧ v ≤ 9) : ∃ z : Int, Qe (b4and x (b4xor (b4shl 1 v) (-1))) z ∧ 0 ≤ z ∧ z ≤ 1023 ∧ ones z.toNat ≤ ones x.toNat := by
  obtain ⟨n, rfl⟩ := Int.eq_ofNat_of_zero_le h.1
  obtain ⟨p, rfl⟩ := Int.eq_ofNat_of_zero_le hv.1
  have hn : n < 1024 := by omega
  have hp : p < 10 := by omega
  exact ⟨_, rfl, by rw [Int.toNat_natCast]; exact unset_num n hn p hp⟩
def spStaple (v : Int) : sSp := fun s => if 0 ≤ v ∧ v ≤ 9 then (if (gOf s).1 = 1 ∧ (gOf s).2.1 = 1 then (if b4and (b4shr (s 9) v) 1 = 1 then (-2, s) else if ones (s 9).toNat = 3 then (-3, s) else (if ((2 ^ (gOf s).2.2.1 : Nat) : Int) ≤ s 10 then ((2 ^ (gOf s).2.2.1 : Nat) : Int) else s 10, u1 (u1 s 9 (b4or (s 9) (b4shl 1 v))) 89 (w4 (s 89 + 3)))) else (-2, s)) else (-1, s)
theorem d_staple {v : Int} : dSpec (f_X0_setStaple 2 v) (spStaple v) := by
  intro R s H W g w r
  obtain ⟨k1, k2, k3, k4, k5, k6, k7, k8, k9, k10, k11, k12, k13, k14, k15, k16, k17⟩ := id w
  obtain ⟨r1, r2, r3, r4, r5, r6, r7, r8, r9, r10, r11, r12, r13, r14⟩ := id r
  have hg := gOf_eq w
  have hd := w.gw.dep
  by_cases h1 : 0 ≤ v ∧ v ≤ 9
  · by_cases h2 : g.1 = 1 ∧ g.2.1 = 1
    · by_cases h3 : hasb (s 9) v
      · refine dErr (v := -2) w r ?_ ?_
        · unfold spStaple; rw [hg, if_pos h1, if_pos h2]; exact if_pos h3
        · unfold f_X0_setStaple
          rw [in9, Option.bind_some, if_pos (decide_eq_true h1), isb9 r4, Option.bind_some, if_pos (decide_eq_true h2), r7, inset9 h3]
          rfl
      · by_cases h4 : ones (s 9).toNat = 3
        · refine dErr (v := -3) w r ?_ ?_
          · unfold spStaple; rw [hg, if_pos h1, if_pos h2]; exact (if_neg h3).trans (if_pos h4)
          · unfold f_X0_setStaple
            rw [in9, Option.bind_some, if_pos (decide_eq_true h1), isb9 r4, Option.bind_some, if_pos (decide_eq_true h2), r7, inset9n h3, Option.bind_some, if_neg (by decide), bc_eq ⟨k10.1, k10.2.1⟩, Option.bind_some, if_neg (by omega)]
        · obtain ⟨z, hz, hs⟩ := set_rng ⟨k10.1, k10.2.1⟩ h1
          refine dOk (v := if ((2 ^ g.2.2.1 : Nat) : Int) ≤ s 10 then ((2 ^ g.2.2.1 : Nat) : Int) else s 10) (s' := u1 (u1 s 9 z) 89 (w4 (s 89 + 3))) (R' := xup (xup R 2 7 z) 15 3 (w4 (s 89 + 3))) (H := H) (W := W) (g := g) ?_ (nerr (by split <;> omega)) (fun j hj => by rw [u1_ne (by omega), u1_ne (by omega)]) ?_ (fun q j hq _ => by rw [xup_nn (by omega), xup_nn (by omega)]) (w.sc (fun j _ h h' => by rw [u1_ne (by omega), u1_ne (by omega)]) ?_ ?_ ?_ ?_ ?_) (r.sc w (fun j _ h h' => by rw [u1_ne (by omega), u1_ne (by omega)]) (fun q j h h' => by rw [xup_nn (by omega), xup_nn (by omega)]) ?_ ?_ ?_ ?_ ?_ (fun k hk => ?_))
          · unfold spStaple; rw [hg, if_pos h1, if_pos h2]; rw [hz.eq]; exact (if_neg h3).trans (if_neg h4)
          · have r14' : R 15 3 = s 89 := r14 3 (by omega)
            have r4' : LRg (xup (xup R 2 7 z) 15 3 (w4 (s 89 + 3))) 6 H W g (gfn 0 (gfs s)) := r4.fr (fun q j hq => by rw [xup_nn (by omega), xup_nn (by omega)])
            unfold f_X0_setStaple
            rw [in9, Option.bind_some, if_pos (decide_eq_true h1), isb9 r4, Option.bind_some, if_pos (decide_eq_true h2), r7, inset9n h3, Option.bind_some, if_neg (by decide), bc_eq ⟨k10.1, k10.2.1⟩, Option.bind_some, if_pos (by omega)]
            simp only [xlet, Nat.reduceAdd]
            rw [hz.eq, xup_nn (by omega), r14', dep9 r4' w.gw, Option.bind_some, xup_nn (by omega), xup_nn (by omega), r8]
            by_cases h5 : ((2 ^ g.2.2.1 : Nat) : Int) < s 10
            · rw [if_pos h5, if_pos (by omega)]
            · rw [if_neg h5]
              by_cases h6 : ((2 ^ g.2.2.1 : Nat) : Int) ≤ s 10
              · rw [if_pos h6, show s 10 = ((2 ^ g.2.2.1 : Nat) : Int) by omega]
              · rw [if_neg h6]
          · rw [u1_ne (by omega), u1_ne (by omega)]; exact k8
          · rw [u1_ne (by omega), u1_ne (by omega)]; exact k9
          · rw [u1_ne (by omega), u1_eq]
            have h10 := k10.2.2
            omega
          · rw [u1_ne (by omega), u1_ne (by omega)]; exact k11
          · rw [u1_ne (by omega), u1_ne (by omega)]; exact k12
          · rw [xup_nn (by omega), xup_nn (by omega), u1_ne (by omega), u1_ne (by omega)]; exact r5
          · rw [xup_nn (by omega), xup_nn (by omega), u1_ne (by omega), u1_ne (by omega)]; exact r6
          · rw [xup_nn (by omega), xup_eq, u1_ne (by omega), u1_eq]
          · rw [xup_nn (by omega), xup_nn (by omega), u1_ne (by omega), u1_ne (by omega)]; exact r8
          · rw [xup_nn (by omega), xup_nn (by omega), u1_ne (by omega), u1_ne (by omega)]; exact r9
          · by_cases hk3 : k = 3
            · subst hk3; rw [xup_eq, u1_eq]
            · rw [xup_nn (by omega), xup_nn (by omega), u1_ne (by omega), u1_ne (by omega)]; exact r14 k hk
    · refine dErr (v := -2) w r ?_ ?_
      · unfold spStaple; rw [hg, if_pos h1, if_neg h2]
      · unfold f_X0_setStaple
        rw [in9, Option.bind_some, if_pos (decide_eq_true h1), isb9 r4, Option.bind_some, decide_eq_false h2, if_neg (by decide)]
  · refine dErr (v := -1) w r ?_ ?_
    · unfold spStaple; rw [if_neg h1]
    · unfold f_X0_setStaple
      rw [in9, Option.bind_some, decide_eq_false h1, if_neg (by decide)]
theorem w_staple {v : Int} : wSpec (f_X10_staple 323 v) (spStaple v) := by
  intro R H W g w
  obtain ⟨k1, k2, k3, k4, k5, k6, k7, k8, k9, k10, k11, k12, k13, k14, k15, k16, k17⟩ := id w
  have hg := gOf_eq w
  have hd := w.gw.dep
  by_cases h1 : 0 ≤ v ∧ v ≤ 9
  · obtain ⟨Ra, b1, b2, b3⟩ := isb10 w
    have hr : Ra 324 = R 324 := funext fun j => b3 324 j (by omega) (by omega)
    by_cases h2 : g.1 = 1 ∧ g.2.1 = 1
    · by_cases h3 : hasb (R 324 9) v
      · refine wErr (v := -2) ?_ err2 ?_ b3
        · unfold spStaple; rw [hg, if_pos h1, if_pos h2]; exact if_pos h3
        · unfold f_X10_staple
          simp only [Nat.reduceAdd]
          rw [in10, Option.bind_some, if_pos (decide_eq_true h1), b1, Option.bind_some]
          dsimp only
          rw [if_pos (decide_eq_true h2), hr, has10 h3]
          rfl
      · by_cases h4 : ones (R 324 9).toNat = 3
        · refine wErr (v := -3) ?_ err3 ?_ b3
          · unfold spStaple; rw [hg, if_pos h1, if_pos h2]; exact (if_neg h3).trans (if_pos h4)
          · unfold f_X10_staple
            simp only [Nat.reduceAdd]
            rw [in10, Option.bind_some, if_pos (decide_eq_true h1), b1, Option.bind_some]
            dsimp only
            rw [if_pos (decide_eq_true h2), hr, has10n h3, Option.bind_some, if_neg (by decide), ones_eq ⟨k10.1, k10.2.1⟩, Option.bind_some, if_pos (by omega)]
        · refine wOk (v := if ((2 ^ g.2.2.1 : Nat) : Int) ≤ R 324 10 then ((2 ^ g.2.2.1 : Nat) : Int) else R 324 10) (s' := u1 (u1 (R 324) 9 (b4or (R 324 9) (b4shl 1 v))) 89 (w4 (R 324 89 + 3))) ?_ (nerr (by split <;> omega)) b3 (fun Rb a1 a2 a3 => ?_)
          · unfold spStaple; rw [hg, if_pos h1, if_pos h2]; exact (if_neg h3).trans (if_neg h4)
          · refine ⟨xup (xup Rb 324 9 (b4or (R 324 9) (b4shl 1 v))) 324 89 (w4 (R 324 89 + 3)), ?_, ?_, fun q j hq => by rw [xup_nn (by omega), xup_nn (by omega)]⟩
            · have b9 : Rb 323 9 = ((2 ^ g.2.2.1 : Nat) : Int) := by rw [a3 323 9 (by omega) (by omega)]; exact b2.2.2.1
              unfold f_X10_staple
              simp only [xlet, Nat.reduceAdd]
              rw [in10, Option.bind_some, if_pos (decide_eq_true h1), b1, Option.bind_some]
              dsimp only
              rw [if_pos (decide_eq_true h2), hr, has10n h3, Option.bind_some, if_neg (by decide), ones_eq ⟨k10.1, k10.2.1⟩, Option.bind_some, if_neg (by omega), a1, Option.bind_some]
              rw [a2, xup_nn (a := 324) (k := 9) (q := 324) (j := 89) (by omega), a2, xup_nn (by omega), xup_nn (by omega), xup_nn (by omega), xup_nn (by omega), b9, a2]
              split <;> rfl
            · simp only [xup_rf, a2]
    · refine wErr (v := -2) ?_ err2 ?_ b3
      · unfold spStaple; rw [hg, if_pos h1, if_neg h2]
      · unfold f_X10_staple
        rw [in10, Option.bind_some, if_pos (decide_eq_true h1), b1, Option.bind_some]
        dsimp only
        rw [decide_eq_false h2, if_neg (by decide)]
  · refine wErr (v := -1) ?_ err1 ?_ kLay.refl
    · unfold spStaple; rw [if_neg h1]
    · unfold f_X10_staple
      rw [in10, Option.bind_some, decide_eq_false h1, if_neg (by decide)]
theorem o_staple {v : Int} : opM Inv (f_X9_staple 0 v) (f_X10_staple 323 v) := desk_row d_staple w_staple (fun _ => rfl)
def spUnst (v : Int) : sSp := fun s => if 0 ≤ v ∧ v ≤ 9 then (if b4and (b4shr (s 9) v) 1 = 1 then ((ones (b4and (s 9) (b4xor (b4shl 1 v) (-1))).toNat : Int), u1 (u1 s 9 (b4and (s 9) (b4xor (b4shl 1 v) (-1)))) 89 (w4 (s 89 + 1))) else (-2, s)) else (-1, s)
theorem d_unst {v : Int} : dSpec (f_X0_drawStaple 2 v) (spUnst v) := by
  intro R s H W g w r
  obtain ⟨k1, k2, k3, k4, k5, k6, k7, k8, k9, k10, k11, k12, k13, k14, k15, k16, k17⟩ := id w
  obtain ⟨r1, r2, r3, r4, r5, r6, r7, r8, r9, r10, r11, r12, r13, r14⟩ := id r
  by_cases h1 : 0 ≤ v ∧ v ≤ 9
  · by_cases h3 : hasb (s 9) v
    · obtain ⟨z, hz, hs⟩ := unset_rng ⟨k10.1, k10.2.1⟩ h1
      refine dOk (v := (ones z.toNat : Int)) (s' := u1 (u1 s 9 z) 89 (w4 (s 89 + 1))) (R' := xup (xup R 2 7 z) 15 3 (w4 (s 89 + 1))) (H := H) (W := W) (g := g) ?_ (nerr (by omega)) (fun j hj => by rw [u1_ne (by omega), u1_ne (by omega)]) ?_ (fun q j hq _ => by rw [xup_nn (by omega), xup_nn (by omega)]) (w.sc (fun j _ h h' => by rw [u1_ne (by omega), u1_ne (by omega)]) ?_ ?_ ?_ ?_ ?_) (r.sc w (fun j _ h h' => by rw [u1_ne (by omega), u1_ne (by omega)]) (fun q j h h' => by rw [xup_nn (by omega), xup_nn (by omega)]) ?_ ?_ ?_ ?_ ?_ (fun k hk => ?_))
      · unfold spUnst; rw [if_pos h1, hz.eq]; exact if_pos h3
      · have r14' : R 15 3 = s 89 := r14 3 (by omega)
        unfold f_X0_drawStaple
        rw [in9, Option.bind_some, if_pos (decide_eq_true h1), r7, inset9 h3, Option.bind_some, if_pos rfl, hz.eq]
        simp only [xlet, Nat.reduceAdd]
        rw [xup_nn (a := 2) (q := 15) (by omega), r14', xup_nn (a := 15) (q := 2) (by omega), xup_eq, bc_eq ⟨hs.1, hs.2.1⟩]
        rfl
      · rw [u1_ne (by omega), u1_ne (by omega)]; exact k8
      · rw [u1_ne (by omega), u1_ne (by omega)]; exact k9
      · rw [u1_ne (by omega), u1_eq]
        have h10 := k10.2.2
        omega
      · rw [u1_ne (by omega), u1_ne (by omega)]; exact k11
      · rw [u1_ne (by omega), u1_ne (by omega)]; exact k12
      · rw [xup_nn (by omega), xup_nn (by omega), u1_ne (by omega), u1_ne (by omega)]; exact r5
      · rw [xup_nn (by omega), xup_nn (by omega), u1_ne (by omega), u1_ne (by omega)]; exact r6
      · rw [xup_nn (by omega), xup_eq, u1_ne (by omega), u1_eq]
      · rw [xup_nn (by omega), xup_nn (by omega), u1_ne (by omega), u1_ne (by omega)]; exact r8
      · rw [xup_nn (by omega), xup_nn (by omega), u1_ne (by omega), u1_ne (by omega)]; exact r9
      · by_cases hk3 : k = 3
        · subst hk3; rw [xup_eq, u1_eq]
        · rw [xup_nn (by omega), xup_nn (by omega), u1_ne (by omega), u1_ne (by omega)]; exact r14 k hk
    · refine dErr (v := -2) w r ?_ ?_
      · unfold spUnst; rw [if_pos h1]; exact if_neg h3
      · unfold f_X0_drawStaple
        rw [in9, Option.bind_some, if_pos (decide_eq_true h1), r7, inset9n h3, Option.bind_some, if_neg (by decide)]
  · refine dErr (v := -1) w r ?_ ?_
    · unfold spUnst; rw [if_neg h1]
    · unfold f_X0_drawStaple
      rw [in9, Option.bind_some, decide_eq_false h1, if_neg (by decide)]
theorem w_unst {v : Int} : wSpec (f_X10_unstaple 323 v) (spUnst v) := by
  intro R H W g w
  obtain ⟨k1, k2, k3, k4, k5, k6, k7, k8, k9, k10, k11, k12, k13, k14, k15, k16, k17⟩ := id w
  by_cases h1 : 0 ≤ v ∧ v ≤ 9
  · by_cases h3 : hasb (R 324 9) v
    · obtain ⟨z, hz, hs⟩ := unset_rng ⟨k10.1, k10.2.1⟩ h1
      refine wOk (v := (ones z.toNat : Int)) (s' := u1 (u1 (R 324) 9 z) 89 (w4 (R 324 89 + 1))) ?_ (nerr (by omega)) kLay.refl (fun Rb a1 a2 a3 => ?_)
      · unfold spUnst; rw [if_pos h1, hz.eq]; exact if_pos h3
      · refine ⟨xup (xup Rb 324 9 z) 324 89 (w4 (R 324 89 + 1)), ?_, ?_, fun q j hq => by rw [xup_nn (by omega), xup_nn (by omega)]⟩
        · unfold f_X10_unstaple
          simp only [xlet, Nat.reduceAdd]
          rw [in10, Option.bind_some, if_pos (decide_eq_true h1), has10 h3, Option.bind_some, if_pos rfl, a1, Option.bind_some, a2, hz.eq, xup_nn (a := 324) (k := 9) (q := 324) (j := 89) (by omega), a2, xup_nn (a := 324) (k := 89) (q := 324) (j := 9) (by omega), xup_eq, ones_eq ⟨hs.1, hs.2.1⟩]
          rfl
        · simp only [xup_rf, a2]
    · refine wErr (v := -2) ?_ err2 ?_ kLay.refl
      · unfold spUnst; rw [if_pos h1]; exact if_neg h3
      · unfold f_X10_unstaple
        simp only [Nat.reduceAdd]
        rw [in10, Option.bind_some, if_pos (decide_eq_true h1), has10n h3, Option.bind_some, if_neg (by decide)]
  · refine wErr (v := -1) ?_ err1 ?_ kLay.refl
    · unfold spUnst; rw [if_neg h1]
    · unfold f_X10_unstaple
      rw [in10, Option.bind_some, decide_eq_false h1, if_neg (by decide)]
theorem o_unst {v : Int} : opM Inv (f_X9_unstaple 0 v) (f_X10_unstaple 323 v) := desk_row d_unst w_unst (fun _ => rfl)
