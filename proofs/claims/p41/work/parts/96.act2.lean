/-! A cut; snapshots; undo; text. -/
theorem LM.fr {R R' : xN} {W D : Nat} {t : Nat → Nat} (h : LM R W D t) (h1 : R' 324 1 = R 324 1) (h2 : R' 323 9 = R 323 9) (h3 : ∀ q j : Nat, 328 ≤ q → q < 332 → R' q j = R q j) : LM R' W D t := by
  obtain ⟨a1, a2, a3, a4, a5⟩ := h
  refine ⟨a1, a2, h1.trans a3, h2.trans a4, fun i hi => ?_⟩
  obtain ⟨b1, b2, b3, b4, b5, b6⟩ := a5 i hi
  exact ⟨b1, b2, (h3 328 i (by omega) (by omega)).trans b3, (h3 329 i (by omega) (by omega)).trans b4, (h3 330 i (by omega) (by omega)).trans b5, (h3 331 i (by omega) (by omega)).trans b6⟩
theorem cut_rng {x v : Int} (h : 0 ≤ x ∧ x ≤ 15) (hv : 0 ≤ v ∧ v ≤ 3) : ∃ z : Int, Qe (b4or x (b4shl 1 v)) z ∧ 0 ≤ z ∧ z ≤ 15 := by
  obtain ⟨n, rfl⟩ := Int.eq_ofNat_of_zero_le h.1
  obtain ⟨p, rfl⟩ := Int.eq_ofNat_of_zero_le hv.1
  have hn : n < 16 := by omega
  have hp : p < 4 := by omega
  exact ⟨_, rfl, cut_num n hn p hp⟩
def spCut (v : Int) : sSp := fun s => if 0 ≤ v ∧ v ≤ 3 then (if (gOf s).1 = 1 ∧ (gOf s).2.1 = 1 then (if b4and (b4shr (s 8) v) 1 = 1 then (-2, s) else ((pcS (s 0).toNat (s 1).toNat (gOf s).2.2.2 v.toNat : Int), u1 (u1 s 8 (b4or (s 8) (b4shl 1 v))) 88 (w4 (s 88 + ((2 ^ (gOf s).2.2.1 : Nat) : Int))))) else (-2, s)) else (-1, s)
theorem d_cut {v : Int} : dSpec (f_X0_cutAlong 2 v) (spCut v) := by
  intro R s H W g w r
  obtain ⟨k1, k2, k3, k4, k5, k6, k7, k8, k9, k10, k11, k12, k13, k14, k15, k16, k17⟩ := id w
  obtain ⟨r1, r2, r3, r4, r5, r6, r7, r8, r9, r10, r11, r12, r13, r14⟩ := id r
  have hg := gOf_eq w
  have hH : (s 0).toNat = H := by omega
  have hW : (s 1).toNat = W := by omega
  by_cases h1 : 0 ≤ v ∧ v ≤ 3
  · by_cases h2 : g.1 = 1 ∧ g.2.1 = 1
    · by_cases h3 : hasb (s 8) v
      · refine dErr (v := -2) w r ?_ ?_
        · unfold spCut; rw [hg, if_pos h1, if_pos h2]; exact if_pos h3
        · unfold f_X0_cutAlong
          rw [in9, Option.bind_some, if_pos (decide_eq_true h1), isb9 r4, Option.bind_some, if_pos (decide_eq_true h2), r6, inset9 h3]
          rfl
      · obtain ⟨z, hz, hs⟩ := cut_rng k9 h1
        have hv : v = (v.toNat : Int) := by omega
        refine dOk (v := (pcS H W g.2.2.2 v.toNat : Int)) (s' := u1 (u1 s 8 z) 88 (w4 (s 88 + ((2 ^ g.2.2.1 : Nat) : Int)))) (R' := xup (xup R 2 6 z) 15 2 (w4 (s 88 + ((2 ^ g.2.2.1 : Nat) : Int)))) (H := H) (W := W) (g := g) ?_ (nerr (Int.natCast_nonneg _)) (fun j hj => by rw [u1_ne (by omega), u1_ne (by omega)]) ?_ (fun q j hq _ => by rw [xup_nn (by omega), xup_nn (by omega)]) (w.sc (fun j _ h h' => by rw [u1_ne (by omega), u1_ne (by omega)]) ?_ ?_ ?_ ?_ ?_) (r.sc w (fun j _ h h' => by rw [u1_ne (by omega), u1_ne (by omega)]) (fun q j h h' => by rw [xup_nn (by omega), xup_nn (by omega)]) ?_ ?_ ?_ ?_ ?_ (fun k hk => ?_))
        · unfold spCut; rw [hg, if_pos h1, if_pos h2, hz.eq, hH, hW]; exact if_neg h3
        · have r14' : R 15 2 = s 88 := r14 2 (by omega)
          have r4' : LRg (xup R 2 6 z) 6 H W g (gfn 0 (gfs s)) := r4.fr (fun q j hq => by rw [xup_nn (by omega)])
          have r4'' : LRg (xup (xup R 2 6 z) 15 2 (w4 (s 88 + ((2 ^ g.2.2.1 : Nat) : Int)))) 6 H W g (gfn 0 (gfs s)) := r4.fr (fun q j hq => by rw [xup_nn (by omega), xup_nn (by omega)])
          unfold f_X0_cutAlong
          rw [in9, Option.bind_some, if_pos (decide_eq_true h1), isb9 r4, Option.bind_some, if_pos (decide_eq_true h2), r6, inset9n h3, Option.bind_some, if_neg (by decide), hz.eq, xlet_eq, show 2 + 4 = 6 from rfl, dep9 r4' w.gw, Option.bind_some, show 2 + 13 = 15 from rfl, xup_nn (a := 2) (q := 15) (by omega), r14', xlet_eq]
          have hp := prs9 (e := v.toNat) (lb_of w.gw r4'' h2).1 r4''.1 r4''.2.1
          rw [← hv] at hp
          rw [hp]
          rfl
        · rw [u1_ne (by omega), u1_ne (by omega)]; exact k8
        · rw [u1_ne (by omega), u1_eq]; exact hs
        · rw [u1_ne (by omega), u1_ne (by omega)]; exact k10
        · rw [u1_ne (by omega), u1_ne (by omega)]; exact k11
        · rw [u1_ne (by omega), u1_ne (by omega)]; exact k12
        · rw [xup_nn (by omega), xup_nn (by omega), u1_ne (by omega), u1_ne (by omega)]; exact r5
        · rw [xup_nn (by omega), xup_eq, u1_ne (by omega), u1_eq]
        · rw [xup_nn (by omega), xup_nn (by omega), u1_ne (by omega), u1_ne (by omega)]; exact r7
        · rw [xup_nn (by omega), xup_nn (by omega), u1_ne (by omega), u1_ne (by omega)]; exact r8
        · rw [xup_nn (by omega), xup_nn (by omega), u1_ne (by omega), u1_ne (by omega)]; exact r9
        · by_cases hk3 : k = 2
          · subst hk3; rw [xup_eq, u1_eq]
          · rw [xup_nn (by omega), xup_nn (by omega), u1_ne (by omega), u1_ne (by omega)]; exact r14 k hk
    · refine dErr (v := -2) w r ?_ ?_
      · unfold spCut; rw [hg, if_pos h1, if_neg h2]
      · unfold f_X0_cutAlong
        rw [in9, Option.bind_some, if_pos (decide_eq_true h1), isb9 r4, Option.bind_some, decide_eq_false h2, if_neg (by decide)]
  · refine dErr (v := -1) w r ?_ ?_
    · unfold spCut; rw [if_neg h1]
    · unfold f_X0_cutAlong
      rw [in9, Option.bind_some, decide_eq_false h1, if_neg (by decide)]
/-- snapshots -/
def take4 (s : Nat → Int) (t : Nat) : Nat → Int := fun j => if j = 154 + t then 1 else if 156 + 154 * t ≤ j ∧ j < 156 + 154 * t + 154 then s (j - (156 + 154 * t)) else s j
def spTake (v : Int) : sSp := fun s => if 0 ≤ v ∧ v ≤ 1 then (s 2, take4 s v.toNat) else (-1, s)
theorem fil_num : ∀ a : Nat, a < 2 → ∀ b : Nat, b < 2 → b4or ((a : Int) + 2 * (b : Int)) (b4shl 1 0) = 1 + 2 * (b : Int) ∧ b4or ((a : Int) + 2 * (b : Int)) (b4shl 1 1) = (a : Int) + 2 := by decide +kernel
theorem SR.s2 {R : xN} {s : Nat → Int} (h : SR R 1 s) : R 6 5 = s 2 ∧ 0 ≤ s 2 := by
  obtain ⟨H, W, g, w, r⟩ := h.1
  have hc := w.cnt
  have h65 : R 6 5 = (g.2.2.1 : Int) := r.2.2.2.1.2.2.2.2.2.1
  omega
theorem c_take {v : Int} : cSpec (f_X8_fillSlot 1 v) (spTake v) := by
  intro R s h
  by_cases h1 : 0 ≤ v ∧ v ≤ 1
  · obtain ⟨t, rfl⟩ := Int.eq_ofNat_of_zero_le h1.1
    have ht : t < 2 := by omega
    obtain ⟨R', p1, p2, p3⟩ := dcopy (R := R) (a := 17 + 14 * t) (b := 2) (by omega)
    have hs : spTake (t : Int) s = (s 2, take4 s t) := by unfold spTake; rw [if_pos h1]; rfl
    obtain ⟨e65, e65'⟩ := h.s2
    obtain ⟨q1, q2, q3, q4, q5⟩ := h
    have q4' : R 1 2 = s 154 + 2 * s 155 := q4
    rw [hs]
    have fil : ∃ z : Int, Qe (b4or (s 154 + 2 * s 155) (b4shl 1 (t : Int))) z ∧ z = take4 s t 154 + 2 * take4 s t 155 := by
      refine ⟨_, rfl, ?_⟩
      obtain ⟨a, ha⟩ : ∃ a : Nat, s 154 = (a : Int) := Int.eq_ofNat_of_zero_le (by omega)
      obtain ⟨b, hb⟩ : ∃ b : Nat, s 155 = (b : Int) := Int.eq_ofNat_of_zero_le (by omega)
      have := fil_num a (by omega) b (by omega)
      have ht2 : t = 0 ∨ t = 1 := by omega
      unfold take4
      rcases ht2 with rfl | rfl
      · rw [if_pos rfl, if_neg (by omega), if_neg (by omega), ha, hb]
        exact this.1
      · rw [if_neg (by omega), if_neg (by omega), if_pos rfl, ha, hb]
        exact this.2
    obtain ⟨z, hz, hz2⟩ := fil
    have lo : ∀ j : Nat, j < 154 → take4 s t j = s j := fun j hj => by unfold take4; rw [if_neg (by omega), if_neg (by omega)]
    refine ⟨xup R' 1 2 z, ?_, fun q j h2 h3 => by rw [xup_nn (by omega), p3 q j (by omega)], ?_, ?_, ?_, ?_, fun k hk hsk => ?_⟩
    · have R12 : R' 1 2 = s 154 + 2 * s 155 := by rw [p3 1 2 (by omega), q4']
      have h16 : f_X0_copyFrom (1 + 16 + 14 * (t : Int).toNat) (1 + 1) R = some R' := p1
      unfold f_X8_fillSlot
      rw [in9, Option.bind_some, if_pos (decide_eq_true h1), if_pos (by omega), h16, Option.bind_some, R12, hz.eq, xlet_eq, xup_nn (by omega), show 1 + 5 = 6 from rfl, p3 6 5 (by omega), e65]
    · exact (q1.mv (R' := xup R' 1 2 z) (a := 2) (fun k j hk _ => by rw [xup_nn (by omega), p3 _ j (by omega)])).sg lo
    · show take4 s t 154 = 0 ∨ take4 s t 154 = 1
      unfold take4
      by_cases c : 154 = 154 + t
      · rw [if_pos c]; exact Or.inr rfl
      · rw [if_neg c, if_neg (by omega)]; exact q2
    · show take4 s t 155 = 0 ∨ take4 s t 155 = 1
      unfold take4
      by_cases c : 155 = 154 + t
      · rw [if_pos c]; exact Or.inr rfl
      · rw [if_neg c, if_neg (by omega)]; exact q3
    · rw [xup_eq]; exact hz2
    · by_cases hkt : k = t
      · subst hkt
        refine SD.sg (s := s) (q1.mv (fun i j hi hd => ?_)) (fun j hj => ?_)
        · rw [xup_nn (by omega), show 1 + 16 + 14 * k + i = 17 + 14 * k + i by omega]
          exact p2 i j hi hd
        · show take4 s k (156 + 154 * k + j) = s j
          unfold take4
          rw [if_neg (by omega), if_pos (by omega)]
          congr 1
          omega
      · have hsk' : take4 s t (154 + k) = 1 := hsk
        have ho : s (154 + k) = 1 := by
          unfold take4 at hsk'
          rw [if_neg (by omega), if_neg (by omega)] at hsk'
          exact hsk'
        refine SD.sg (s := shot s k) ((q5 k hk ho).mv (fun i j hi hd => ?_)) (fun j hj => ?_)
        · rw [xup_nn (by omega), p3 _ j (by omega)]
        · show take4 s t (156 + 154 * k + j) = s (156 + 154 * k + j)
          unfold take4
          rw [if_neg (by omega), if_neg (by omega)]
  · have hs : spTake v s = (-1, s) := by unfold spTake; rw [if_neg h1]
    rw [hs]
    refine ⟨R, ?_, fun _ _ _ _ => rfl, h⟩
    unfold f_X8_fillSlot
    rw [in9, Option.bind_some, decide_eq_false h1, if_neg (by decide)]
def rest4 (s : Nat → Int) (t : Nat) : Nat → Int := fun j => if j < 154 then s (156 + 154 * t + j) else s j
def spRest (v : Int) : sSp := fun s => if 0 ≤ v ∧ v ≤ 1 then (if s (154 + v.toNat) = 0 then (-2, s) else (s (158 + 154 * v.toNat), rest4 s v.toNat)) else (-1, s)
theorem SR.slot {R : xN} {s : Nat → Int} {t : Nat} (h : SR R 1 s) (ht : t < 2) (hs : ¬ s (154 + t) = 0) : SD R (17 + 14 * t) (shot s t) ∧ s (154 + t) = 1 := by
  obtain ⟨q1, q2, q3, q4, q5⟩ := h
  have : s (154 + t) = 1 := by
    have : t = 0 ∨ t = 1 := by omega
    rcases this with rfl | rfl
    · exact q2.resolve_left hs
    · exact q3.resolve_left hs
  exact ⟨q5 t ht this, this⟩
theorem SD.s2 {R : xN} {d : Nat} {s : Nat → Int} (h : SD R d s) : R (d + 4) 5 = s 2 ∧ 0 ≤ s 2 := by
  obtain ⟨H, W, g, w, r⟩ := h
  have hc := w.cnt
  have h65 : R (d + 4) 5 = (g.2.2.1 : Int) := r.2.2.2.1.2.2.2.2.2.1
  omega
theorem c_rest {v : Int} : cSpec (f_X8_useSlot 1 v) (spRest v) := by
  intro R s h
  by_cases h1 : 0 ≤ v ∧ v ≤ 1
  · obtain ⟨t, rfl⟩ := Int.eq_ofNat_of_zero_le h1.1
    have ht : t < 2 := by omega
    obtain ⟨q1, q2, q3, q4, q5⟩ := id h
    have q4' : R 1 2 = s 154 + 2 * s 155 := q4
    have hbit : f_X9_isInSet (t : Int) (R 1 2) R = some (decide (s (154 + t) = 1)) := by
      rw [isin9 (by omega) ht, q4']
      have ht2 : t = 0 ∨ t = 1 := by omega
      rcases ht2 with rfl | rfl
      · rcases q2 with a | a <;> rcases q3 with b | b <;> rw [a, b] <;> rfl
      · rcases q2 with a | a <;> rcases q3 with b | b <;> rw [a, b] <;> rfl
    by_cases h2 : s (154 + t) = 0
    · have hs : spRest (t : Int) s = (-2, s) := by unfold spRest; rw [if_pos h1, Int.toNat_natCast, if_pos h2]
      rw [hs]
      refine ⟨R, ?_, fun _ _ _ _ => rfl, h⟩
      unfold f_X8_useSlot
      rw [in9, Option.bind_some, if_pos (decide_eq_true h1), hbit, Option.bind_some, decide_eq_false (by omega), if_neg (by decide)]
    · obtain ⟨sl, s1⟩ := h.slot ht h2
      have hs : spRest (t : Int) s = (s (158 + 154 * t), rest4 s t) := by unfold spRest; rw [if_pos h1, Int.toNat_natCast, if_neg h2]
      obtain ⟨R', p1, p2, p3⟩ := dcopy (R := R) (a := 2) (b := 17 + 14 * t) (by omega)
      rw [hs]
      have hsd : SD R' 2 (rest4 s t) := SD.sg (sl.mv p2) (fun j hj => by
        unfold rest4 shot
        rw [if_pos hj])
      have hi : ∀ j : Nat, 154 ≤ j → rest4 s t j = s j := fun j hj => by unfold rest4; rw [if_neg (by omega)]
      refine ⟨R', ?_, fun q j h2 h3 => p3 q j (by omega), hsd, ?_, ?_, ?_, fun k hk hsk => ?_⟩
      · have h16 : f_X0_copyFrom (1 + 1) (1 + 16 + 14 * (t : Int).toNat) R = some R' := p1
        have e65 : R' 6 5 = s (158 + 154 * t) := by
          have e : R' 6 5 = rest4 s t 2 := hsd.s2.1
          rw [e]
          unfold rest4
          rw [if_pos (by omega), show 156 + 154 * t + 2 = 158 + 154 * t by omega]
        unfold f_X8_useSlot
        rw [in9, Option.bind_some, if_pos (decide_eq_true h1), hbit, Option.bind_some, if_pos (decide_eq_true s1), if_pos (by omega), h16, Option.bind_some, show 1 + 5 = 6 from rfl, e65]
      · show rest4 s t 154 = 0 ∨ rest4 s t 154 = 1
        rw [hi 154 (by omega)]; exact q2
      · show rest4 s t 155 = 0 ∨ rest4 s t 155 = 1
        rw [hi 155 (by omega)]; exact q3
      · show R' 1 2 = rest4 s t 154 + 2 * rest4 s t 155
        rw [hi 154 (by omega), hi 155 (by omega), p3 1 2 (by omega)]; exact q4
      · have hsk' : rest4 s t (154 + k) = 1 := hsk
        rw [hi _ (by omega)] at hsk'
        refine SD.sg (s := shot s k) ((q5 k hk hsk').mv (fun i j _ _ => p3 _ j (by omega))) (fun j hj => ?_)
        show rest4 s t (156 + 154 * k + j) = s (156 + 154 * k + j)
        exact hi _ (by omega)
  · have hs : spRest v s = (-1, s) := by unfold spRest; rw [if_neg h1]
    rw [hs]
    refine ⟨R, ?_, fun _ _ _ _ => rfl, h⟩
    unfold f_X8_useSlot
    rw [in9, Option.bind_some, decide_eq_false h1, if_neg (by decide)]
