/-! Actions of a desk: spine, legs, lines, sights, notes put. -/
def gOf (s : Nat → Int) : gG := (gall (gfs s) (gg0 (s 0).toNat (s 1).toNat)).getD (gg0 1 1)
theorem gOf_eq {s : Nat → Int} {H W : Nat} {g : gG} (w : SW s H W g) : gOf s = g := by
  obtain ⟨k1, k2, k3, k4, k5, k6, k7, -⟩ := w
  unfold gOf
  rw [k3, k4, Int.toNat_natCast, Int.toNat_natCast, k7]
  rfl
theorem SW.gw {s : Nat → Int} {H W : Nat} {g : gG} (w : SW s H W g) : GWg H W g := (gg0_w w.1 w.2.1).all w.2.2.2.2.2.2.1
def spSpine (v : Int) : sSp := fun s => if 0 ≤ v ∧ v ≤ 1 then (if s 9 = 0 then (s 7, u1 s 7 v) else (-2, s)) else (-1, s)
theorem d_spine {v : Int} : dSpec (f_X0_moveSpine 2 v) (spSpine v) := by
  intro R s H W g w r
  obtain ⟨k1, k2, k3, k4, k5, k6, k7, k8, k9, k10, k11, k12, k13, k14, k15, k16, k17⟩ := id w
  obtain ⟨r1, r2, r3, r4, r5, r6, r7, r8, r9, r10, r11, r12, r13, r14⟩ := id r
  by_cases h1 : 0 ≤ v ∧ v ≤ 1
  · by_cases h2 : s 9 = 0
    · refine dOk (v := s 7) (s' := u1 s 7 v) (R' := xup R 2 5 v) (H := H) (W := W) (g := g) ?_ (nerr (by omega)) (fun j hj => u1_ne (by omega)) ?_ (fun q j hq _ => xup_nn (by omega)) (w.sc (fun j _ h _ => u1_ne (by omega)) ?_ ?_ ?_ ?_ ?_) (r.sc w (fun j _ h _ => u1_ne (by omega)) (fun q j h _ => xup_nn (by omega)) ?_ ?_ ?_ ?_ ?_ (fun k hk => ?_))
      · unfold spSpine; rw [if_pos h1, if_pos h2]
      · unfold f_X0_moveSpine; rw [in9, Option.bind_some, if_pos (decide_eq_true h1), r7, if_pos h2]; simp only [xlet]; rw [r5]
      · rw [u1_eq]; omega
      · rw [u1_ne (by omega)]; exact k9
      · rw [u1_ne (by omega)]; exact k10
      · rw [u1_ne (by omega)]; exact k11
      · rw [u1_ne (by omega)]; exact k12
      · rw [xup_eq, u1_eq]
      · rw [xup_nn (by omega), u1_ne (by omega)]; exact r6
      · rw [xup_nn (by omega), u1_ne (by omega)]; exact r7
      · rw [xup_nn (by omega), u1_ne (by omega)]; exact r8
      · rw [xup_nn (by omega), u1_ne (by omega)]; exact r9
      · rw [xup_nn (by omega), u1_ne (by omega)]; exact r14 k hk
    · refine dErr (v := -2) w r ?_ ?_
      · unfold spSpine; rw [if_pos h1, if_neg h2]
      · unfold f_X0_moveSpine; rw [in9, Option.bind_some, if_pos (decide_eq_true h1), r7, if_neg h2]
  · refine dErr (v := -1) w r ?_ ?_
    · unfold spSpine; rw [if_neg h1]
    · unfold f_X0_moveSpine; rw [in9, Option.bind_some, decide_eq_false h1, if_neg (by decide)]
def spLegs (v : Int) : sSp := fun s => if 1 ≤ v ∧ v ≤ 16 then (s 10, u1 s 10 v) else (-1, s)
theorem d_legs {v : Int} : dSpec (f_X0_changeLegs 2 v) (spLegs v) := by
  intro R s H W g w r
  obtain ⟨k1, k2, k3, k4, k5, k6, k7, k8, k9, k10, k11, k12, k13, k14, k15, k16, k17⟩ := id w
  obtain ⟨r1, r2, r3, r4, r5, r6, r7, r8, r9, r10, r11, r12, r13, r14⟩ := id r
  by_cases h1 : 1 ≤ v ∧ v ≤ 16
  · refine dOk (v := s 10) (s' := u1 s 10 v) (R' := xup R 2 8 v) (H := H) (W := W) (g := g) ?_ (nerr (by omega)) (fun j hj => u1_ne (by omega)) ?_ (fun q j hq _ => xup_nn (by omega)) (w.sc (fun j _ h _ => u1_ne (by omega)) ?_ ?_ ?_ ?_ ?_) (r.sc w (fun j _ h _ => u1_ne (by omega)) (fun q j h _ => xup_nn (by omega)) ?_ ?_ ?_ ?_ ?_ (fun k hk => ?_))
    · unfold spLegs; rw [if_pos h1]
    · unfold f_X0_changeLegs; rw [in9, Option.bind_some, if_pos (decide_eq_true h1)]; simp only [xlet]; rw [r8]
    · rw [u1_ne (by omega)]; exact k8
    · rw [u1_ne (by omega)]; exact k9
    · rw [u1_ne (by omega)]; exact k10
    · rw [u1_eq]; omega
    · rw [u1_ne (by omega)]; exact k12
    · rw [xup_nn (by omega), u1_ne (by omega)]; exact r5
    · rw [xup_nn (by omega), u1_ne (by omega)]; exact r6
    · rw [xup_nn (by omega), u1_ne (by omega)]; exact r7
    · rw [xup_eq, u1_eq]
    · rw [xup_nn (by omega), u1_ne (by omega)]; exact r9
    · rw [xup_nn (by omega), u1_ne (by omega)]; exact r14 k hk
  · refine dErr (v := -1) w r ?_ ?_
    · unfold spLegs; rw [if_neg h1]
    · unfold f_X0_changeLegs; rw [in9, Option.bind_some, decide_eq_false h1, if_neg (by decide)]
def spForget : sSp := fun s => (s 12, u1 s 12 0)
theorem d_forget : dSpec (f_X7_dropAll 9) spForget := by
  intro R s H W g w r
  obtain ⟨k1, k2, k3, k4, k5, k6, k7, k8, k9, k10, k11, k12, k13, k14, k15, k16, k17⟩ := id w
  obtain ⟨r1, r2, r3, r4, r5, r6, r7, r8, r9, r10, r11, r12, r13, r14⟩ := id r
  refine dOk (v := s 12) (s' := u1 s 12 0) (R' := xup R 9 3 0) (H := H) (W := W) (g := g) rfl (nerr (by omega)) (fun j hj => u1_ne (by omega)) ?_ (fun q j hq _ => xup_nn (by omega)) (w.sg12 (fun j _ h => u1_ne (by omega)) ?_ (fun k hk => ?_)) (r.sg12 w (fun j _ h => u1_ne (by omega)) (fun q j h _ _ => xup_nn (by omega)) ?_ (fun k hk => ?_))
  · unfold f_X7_dropAll; simp only [xlet]; rw [r10]
  · rw [u1_eq]; omega
  · rw [u1_eq] at hk; omega
  · rw [xup_eq, u1_eq]
  · rw [u1_eq] at hk; omega
