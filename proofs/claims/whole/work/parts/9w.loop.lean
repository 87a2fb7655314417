/-! The program's loop: both. -/
theorem wof_num : ∀ y : Nat, 1 ≤ y → y ≤ 9 → ∀ R : xN, f_X9_wordOf (y : Int) R = some (y - 1) := by
  intro y h1 h2 R
  have h : y = 1 ∨ y = 2 ∨ y = 3 ∨ y = 4 ∨ y = 5 ∨ y = 6 ∨ y = 7 ∨ y = 8 ∨ y = 9 := by omega
  rcases h with rfl | rfl | rfl | rfl | rfl | rfl | rfl | rfl | rfl <;> rfl
theorem cat_lp {T : Nat → Int} {N s e : Nat} {R : xN} (hT : CT R T N s e) (hF : TF T N s e) : ∀ (d y n : Nat), y + d = 10 → d < n → 1 ≤ y → (∃ k, y ≤ k ∧ k ≤ 9 ∧ isW T s e (k - 1) ∧ lp_X9_commandAt_2 320 R n (y : Int) (fun _ => some 0) = some (k : Int)) ∨ ((∀ k, y ≤ k → k ≤ 9 → ¬ isW T s e (k - 1)) ∧ lp_X9_commandAt_2 320 R n (y : Int) (fun _ => some 0) = some 0) := by
  intro d
  induction d with
  | zero =>
    intro y n h1 h2 h3
    obtain ⟨n, rfl⟩ : ∃ n', n = n' + 1 := ⟨n - 1, by omega⟩
    refine Or.inr ⟨fun k g1 g2 => by omega, ?_⟩
    rw [lp_X9_commandAt_2, if_pos (by omega)]
  | succ d ih =>
    intro y n h1 h2 h3
    obtain ⟨n, rfl⟩ : ∃ n', n = n' + 1 := ⟨n - 1, by omega⟩
    have e5 : Qe (w4 ((y : Int) + 1)) ((y + 1 : Nat) : Int) := by unfold Qe; rw [w4_of (by omega)]; omega
    obtain ⟨w1, w2⟩ := wd9 (k := y - 1) (by omega) hT hF
    rw [lp_X9_commandAt_2, if_neg (by omega), wof_num y h3 (by omega), Option.bind_some]
    by_cases c : isW T s e (y - 1)
    · rw [w1 c, Option.bind_some, if_pos rfl]
      exact Or.inl ⟨y, Nat.le_refl y, by omega, c, rfl⟩
    · rw [w2 c, Option.bind_some, if_neg Bool.false_ne_true, xlet_eq, e5.eq]
      rcases ih (y + 1) n (by omega) (by omega) (by omega) with ⟨k, k1, k2, k3, k4⟩ | ⟨k1, k2⟩
      · exact Or.inl ⟨k, by omega, k2, k3, k4⟩
      · refine Or.inr ⟨fun k g1 g2 => ?_, k2⟩
        by_cases hk : k = y
        · rw [hk]; exact c
        · exact k1 k (by omega) g2
theorem cat9 {T : Nat → Int} {N s e : Nat} {R : xN} (hT : CT R T N s e) (hF : TF T N s e) : (∃ k, 1 ≤ k ∧ k ≤ 9 ∧ isW T s e (k - 1) ∧ f_X9_commandAt 320 R = some (k : Int)) ∨ ((∀ k, 1 ≤ k → k ≤ 9 → ¬ isW T s e (k - 1)) ∧ f_X9_commandAt 320 R = some 0) := by
  unfold f_X9_commandAt
  exact cat_lp hT hF 9 1 6000 (by omega) (by omega) (by omega)
theorem isc_yes {k : Nat} {R : xN} (h1 : 1 ≤ k) (h2 : k ≤ 9) : f_X10_isCommand (cdw (k - 1)) R = some true := by
  obtain ⟨c0, c1, c2, c3, c4, c5, c6, c7, c8, -⟩ := cdw_num
  unfold f_X10_isCommand
  have h : k = 1 ∨ k = 2 ∨ k = 3 ∨ k = 4 ∨ k = 5 ∨ k = 6 ∨ k = 7 ∨ k = 8 ∨ k = 9 := by omega
  rcases h with rfl | rfl | rfl | rfl | rfl | rfl | rfl | rfl | rfl
  · rw [c0]; rfl
  · rw [c1]; rfl
  · rw [c2]; rfl
  · rw [c3]; rfl
  · rw [c4]; rfl
  · rw [c5]; rfl
  · rw [c6]; rfl
  · rw [c7]; rfl
  · rw [c8]; rfl
theorem isc_no {v : Int} {R : xN} (h : ∀ k, 1 ≤ k → k ≤ 9 → v ≠ cdw (k - 1)) : f_X10_isCommand v R = some false := by
  obtain ⟨c0, c1, c2, c3, c4, c5, c6, c7, c8, -⟩ := cdw_num
  have h1 := h 1 (by omega) (by omega)
  have h2 := h 2 (by omega) (by omega)
  have h3 := h 3 (by omega) (by omega)
  have h4 := h 4 (by omega) (by omega)
  have h5 := h 5 (by omega) (by omega)
  have h6 := h 6 (by omega) (by omega)
  have h7 := h 7 (by omega) (by omega)
  have h8 := h 8 (by omega) (by omega)
  have h9 := h 9 (by omega) (by omega)
  rw [show 1 - 1 = 0 from rfl, c0] at h1
  rw [show 2 - 1 = 1 from rfl, c1] at h2
  rw [show 3 - 1 = 2 from rfl, c2] at h3
  rw [show 4 - 1 = 3 from rfl, c3] at h4
  rw [show 5 - 1 = 4 from rfl, c4] at h5
  rw [show 6 - 1 = 5 from rfl, c5] at h6
  rw [show 7 - 1 = 6 from rfl, c6] at h7
  rw [show 8 - 1 = 7 from rfl, c7] at h8
  rw [show 9 - 1 = 8 from rfl, c8] at h9
  unfold f_X10_isCommand
  rw [if_neg h1, if_neg h2, if_neg h3, if_neg h4, if_neg h5, if_neg h6, if_neg h7, if_neg h8, if_neg h9]
theorem all_j {T : Nat → Int} {N k : Nat} (h1 : 1 ≤ k) (h2 : k ≤ 9) : RdJ T N k (cdw (k - 1)) ∧ ObJ k (cdw (k - 1)) := by
  obtain ⟨c0, c1, c2, c3, c4, c5, c6, c7, c8, -⟩ := cdw_num
  have h : k = 1 ∨ k = 2 ∨ k = 3 ∨ k = 4 ∨ k = 5 ∨ k = 6 ∨ k = 7 ∨ k = 8 ∨ k = 9 := by omega
  rcases h with rfl | rfl | rfl | rfl | rfl | rfl | rfl | rfl | rfl
  · rw [show 1 - 1 = 0 from rfl, c0]; exact ⟨rd_j (by omega) (fun _ => rfl) arg1, ob1⟩
  · rw [show 2 - 1 = 1 from rfl, c1]; exact ⟨rd_j (by omega) (fun _ => rfl) arg2, ob2⟩
  · rw [show 3 - 1 = 2 from rfl, c2]; exact ⟨rd_j (by omega) (fun _ => rfl) arg3, ob3⟩
  · rw [show 4 - 1 = 3 from rfl, c3]; exact ⟨rd_j (by omega) (fun _ => rfl) arg4, ob4⟩
  · rw [show 5 - 1 = 4 from rfl, c4]; exact ⟨rd_j (by omega) (fun _ => rfl) arg5, ob5⟩
  · rw [show 6 - 1 = 5 from rfl, c5]; exact ⟨rd_j (by omega) (fun _ => rfl) arg6, ob6⟩
  · rw [show 7 - 1 = 6 from rfl, c6]; exact ⟨rd_j (by omega) (fun _ => rfl) arg7, ob7⟩
  · rw [show 8 - 1 = 7 from rfl, c7]; exact ⟨rd_j (by omega) (fun _ => rfl) arg8, ob8⟩
  · rw [show 9 - 1 = 8 from rfl, c8]; exact ⟨rd_j (by omega) (fun _ => rfl) arg9, ob9⟩
def kL (R R' : xN) : Prop := ∀ q j : Nat, ¬ (q = 0 ∧ j = 8) → ¬ (1 ≤ q ∧ q < 45) → ¬ (311 ≤ q ∧ q < 314) → q ≠ 320 → q ≠ 322 → R' q j = R q j
theorem kL.refl {R : xN} : kL R R := fun _ _ _ _ _ _ _ => rfl
theorem kL.trans {R R1 R2 : xN} (h : kL R R1) (g : kL R1 R2) : kL R R2 := fun q j h1 h2 h3 h4 h5 => by rw [g q j h1 h2 h3 h4 h5, h q j h1 h2 h3 h4 h5]
theorem kC.l {R R' : xN} (h : kC R R') : kL R R' := fun q j h1 _ _ h4 h5 => h q j h1 h4 h5
theorem kDesk.l {R R' : xN} (h : kDesk R R') : kL R R' := fun q j _ h2 h3 _ _ => h q j h2 h3
def kN (R R' : xN) : Prop := ∀ q j : Nat, ¬ (q = 323 ∧ 7 ≤ j ∧ j ≤ 9) → ¬ (q = 323 ∧ 18 ≤ j ∧ j ≤ 26) → ¬ (328 ≤ q ∧ q < 337) → q ≠ 324 → R' q j = R q j
theorem kN.refl {R : xN} : kN R R := fun _ _ _ _ _ _ => rfl
theorem kN.trans {R R1 R2 : xN} (h : kN R R1) (g : kN R1 R2) : kN R R2 := fun q j h1 h2 h3 h4 => by rw [g q j h1 h2 h3 h4, h q j h1 h2 h3 h4]
theorem kMm.n {R R' : xN} (h : kMm R R') : kN R R' := fun q j _ h2 h3 _ => h q j (by omega) (by omega)
theorem kRun.n {R R' : xN} (h : kRun R R') : kN R R' := fun q j h1 _ h3 h4 => h q j h1 (by omega) h4
/-- what the loop ends with -/
def MJ (T : Nat → Int) (N d y : Nat) (Rc Rm Rc' Rm' : xN) : Prop := (∃ cnt : Nat, cnt ≤ 120 ∧ (∀ n, d < n → ∀ X : Int → xN → Option (Int × xN), lp_X9_run_28 0 n (y : Int) Rc X = X (cnt : Int) Rc') ∧ (∀ n, d + 1 < n → ∀ X : Int → xN → Option (Int × xN), lp_X10_runAll_16 323 n (y : Int) Rm X = X (cnt : Int) Rm') ∧ SR Rc' 1 (Rm' 324) ∧ Rm' 323 26 = -1) ∨ ∃ (fl : Nat) (z : Int), fl ≤ 120 ∧ (∀ n, d < n → ∀ X : Int → xN → Option (Int × xN), lp_X9_run_28 0 n (y : Int) Rc X = (f_X1_bringBack 45 1 Rc').bind (fun v => some ((w4 ((-1000) - (fl : Int))), v))) ∧ (∀ n, d + 1 < n → ∀ X : Int → xN → Option (Int × xN), lp_X10_runAll_16 323 n (y : Int) Rm X = X z Rm') ∧ Rm' 323 26 = (fl : Int)
/-- the model stops when a place has failed -/
theorem stop10 {R : xN} {y v : Int} {n : Nat} (hv : 0 ≤ v) (hn : 0 < n) (X : Int → xN → Option (Int × xN)) : lp_X10_runAll_16 323 n y (xup R 323 26 v) X = X y (xup R 323 26 v) := by
  obtain ⟨n, rfl⟩ : ∃ n', n = n' + 1 := ⟨n - 1, by omega⟩
  rw [lp_X10_runAll_16, xup_eq]
  by_cases c : xup R 323 26 v 323 20 = 0
  · rw [if_pos c]
  · rw [if_neg c, if_pos hv]
theorem main_j {T : Nat → Int} {N : Nat} : ∀ (d s e y : Nat) (Rc Rm : xN), N - s ≤ d → y ≤ s → CT Rc T N s e → TF T N s e → MT Rm T N s e → SR Rc 1 (Rm 324) → Rm 323 6 = 1 → Rm 323 26 = -1 → ∃ Rc' Rm' : xN, kL Rc Rc' ∧ kN Rm Rm' ∧ MJ T N d y Rc Rm Rc' Rm' := by
  intro d
  induction d with
  | zero =>
    intro s e y Rc Rm h1 h2 hT hF hM hS h6 h26
    have hN := hT.1.2.1
    have hs : s = N := by have := hF.1; omega
    refine ⟨Rc, Rm, kL.refl, kN.refl, Or.inl ⟨y, by omega, fun n hn X => ?_, fun n hn X => ?_, hS, h26⟩⟩
    · obtain ⟨n, rfl⟩ : ∃ n', n = n' + 1 := ⟨n - 1, by omega⟩
      unfold f_X6_hasToken at *
      rw [lp_X9_run_28, if_neg (by omega)]
      unfold f_X6_hasToken
      rw [show 0 + 320 = 320 from rfl, hT.1.1, hT.2.1, if_pos (by omega), Option.bind_some, if_neg Bool.false_ne_true]
    · obtain ⟨n, rfl⟩ : ∃ n', n = n' + 1 := ⟨n - 1, by omega⟩
      rw [lp_X10_runAll_16, if_pos ((mk10 hM hF).1.mpr hs)]
  | succ d ih =>
    intro s e y Rc Rm h1 h2 hT hF hM hS h6 h26
    have hN := hT.1.2.1
    by_cases hs : s = N
    · refine ⟨Rc, Rm, kL.refl, kN.refl, Or.inl ⟨y, by omega, fun n hn X => ?_, fun n hn X => ?_, hS, h26⟩⟩
      · obtain ⟨n, rfl⟩ : ∃ n', n = n' + 1 := ⟨n - 1, by omega⟩
        rw [lp_X9_run_28, if_neg (by omega)]
        unfold f_X6_hasToken
        rw [show 0 + 320 = 320 from rfl, hT.1.1, hT.2.1, if_pos (by omega), Option.bind_some, if_neg Bool.false_ne_true]
      · obtain ⟨n, rfl⟩ : ∃ n', n = n' + 1 := ⟨n - 1, by omega⟩
        rw [lp_X10_runAll_16, if_pos ((mk10 hM hF).1.mpr hs)]
    · have hsN : s < N := by have := hF.1; omega
      have hse := (hF.2.2.2 hsN).1
      have hk0 : ¬ Rm 323 20 = 0 := fun h => hs ((mk10 hM hF).1.mp h)
      have hM19 := hM.2.1
      -- the class's loop, the token at hand
      have hC : ∀ n, ∀ X : Int → xN → Option (Int × xN), ∀ k v8, f_X9_commandAt 320 Rc = some k → f_X9_readCommand 0 k Rc = some v8 → lp_X9_run_28 0 (n + 1) (y : Int) Rc X = if v8.1 = (-1) then (f_X9_obey 0 k v8.2).bind (fun v10 => (f_X9_isError v10.1 v10.2).bind (fun v11 => if v11 = true then (if (s : Int) = (-1) then xlet (w4 ((y : Int) + 1)) (fun x14 => lp_X9_run_28 0 n x14 v10.2 X) else (f_X1_bringBack 45 1 v10.2).bind (fun v15 => some ((w4 ((-1000) - (s : Int))), v15))) else if v8.1 = (-1) then xlet (w4 ((y : Int) + 1)) (fun x17 => lp_X9_run_28 0 n x17 v10.2 X) else (f_X1_bringBack 45 1 v10.2).bind (fun v18 => some ((w4 ((-1000) - v8.1)), v18)))) else if v8.1 = (-1) then xlet (w4 ((y : Int) + 1)) (fun x20 => lp_X9_run_28 0 n x20 v8.2 X) else (f_X1_bringBack 45 1 v8.2).bind (fun v21 => some ((w4 ((-1000) - v8.1)), v21)) := fun n X k v8 hk hv => by
        have ht : f_X6_hasToken 320 Rc = some true := by
          unfold f_X6_hasToken
          rw [hT.1.1, hT.2.1, if_neg (by omega)]
        rw [lp_X9_run_28, if_neg (by omega), show 0 + 320 = 320 from rfl, ht, Option.bind_some, if_pos rfl, xlet_eq, hk, Option.bind_some, hv, Option.bind_some, hT.2.1]
      have bad : ∀ (fl : Nat) (Rc' Rx : xN), fl ≤ 120 → kL Rc Rc' → kN Rm Rx → (∀ n, d + 1 < n → ∀ X : Int → xN → Option (Int × xN), lp_X9_run_28 0 n (y : Int) Rc X = (f_X1_bringBack 45 1 Rc').bind (fun v => some ((w4 ((-1000) - (fl : Int))), v))) → (∀ n, ∀ X : Int → xN → Option (Int × xN), lp_X10_runAll_16 323 (n + 1) (y : Int) Rm X = lp_X10_runAll_16 323 n (y : Int) (xup Rx 323 26 (fl : Int)) X) → ∃ Rc' Rm' : xN, kL Rc Rc' ∧ kN Rm Rm' ∧ MJ T N (d + 1) y Rc Rm Rc' Rm' := fun fl Rc' Rx g1 g2 g3 g4 g5 => by
        refine ⟨Rc', xup Rx 323 26 (fl : Int), g2, fun q j q1 q2 q3 q4 => by rw [xup_nn (by omega), g3 q j q1 q2 q3 q4], Or.inr ⟨fl, (y : Int), g1, g4, fun n hn X => ?_, xup_eq⟩⟩
        obtain ⟨n, rfl⟩ : ∃ n', n = n' + 1 := ⟨n - 1, by omega⟩
        rw [g5, stop10 (by omega) (by omega)]
      rcases cat9 hT hF with ⟨k, k1, k2, k3, k4⟩ | ⟨k1, k2⟩
      · -- a command
        obtain ⟨hRd, hOb⟩ := all_j (T := T) (N := N) k1 k2
        have hw := (mw10 (k := k - 1) (by omega) (by omega) hM hF).mpr k3
        have hcd := (xch_num (k - 1) (by omega) (by omega)).2.2
        have hk1 : Rm 323 20 = 1 := Classical.byContradiction fun h => by
          have := (mk10 hM hF).2.2.2.2 h
          omega
        have hMm : ∀ n, ∀ X : Int → xN → Option (Int × xN), ∀ v10, f_X10_readsNeeds 323 (cdw (k - 1)) Rm = some v10 → lp_X10_runAll_16 323 (n + 1) (y : Int) Rm X = if v10.1 = true then (if v10.2 323 20 = 3 then (f_X10_doCommand 323 (cdw (k - 1)) v10.2).bind (fun v13 => if 0 ≤ v13.1 then xlet (w4 ((y : Int) + 1)) (fun x15 => (f_X10_next 323 v13.2).bind (fun v16 => lp_X10_runAll_16 323 n x15 v16 X)) else xlet (xup v13.2 323 26 (s : Int)) (fun R17 => lp_X10_runAll_16 323 n (y : Int) R17 X)) else xlet (xup v10.2 323 26 (v10.2 323 19)) (fun R18 => lp_X10_runAll_16 323 n (y : Int) R18 X)) else xlet (xup v10.2 323 26 (v10.2 323 19)) (fun R19 => lp_X10_runAll_16 323 n (y : Int) R19 X) := fun n X v10 hv => by
          rw [lp_X10_runAll_16, if_neg hk0, h26, if_neg (by decide), xlet_eq, if_pos hk1, hw, isc_yes k1 k2, Option.bind_some, if_pos rfl, hv, Option.bind_some, hM19]
        obtain ⟨Rc1, r1, r2⟩ := hRd Rc s e hT hF
        rcases r2 with ⟨s', r2, r3, r4⟩ | ⟨e1, r2, r3, r4, r5, r6⟩
        · obtain ⟨b, Rm1, m1, m2, m3, m4⟩ := r4 Rm hM
          refine bad s' Rc1 Rm1 (by omega) r1.l m4.n (fun n hn X => ?_) (fun n X => ?_)
          · obtain ⟨n, rfl⟩ : ∃ n', n = n' + 1 := ⟨n - 1, by omega⟩
            rw [hC n X _ _ k4 r2, if_neg (show ¬ (s' : Int) = -1 by omega), if_neg (show ¬ (s' : Int) = -1 by omega)]
          · rw [hMm n X _ m1]
            by_cases cb : b = true
            · rw [if_pos cb, if_neg (fun h => m2 ⟨cb, h⟩), xlet_eq, show (b, Rm1).snd 323 19 = (s' : Int) from m3]
            · rw [if_neg cb, xlet_eq, show (b, Rm1).snd 323 19 = (s' : Int) from m3]
        · obtain ⟨Rm1, m1, m2, m3, m4, m5, m6⟩ := r6 Rm hM
          have hS1 : SR Rc1 1 (Rm1 324) := by
            rw [show Rm1 324 = Rm 324 from funext fun j => m5 324 j (by omega) (by omega)]
            exact hS.out (fun q j g1 g2 => r1 q j (by omega) (by omega) (by omega))
          obtain ⟨r, Rc2, Rm2, o1, o2, o3, o4, o5⟩ := hOb Rc1 Rm1 hS1 (by rw [m5 323 6 (by omega) (by omega)]; exact h6) m6
          rcases o5 with o5 | ⟨o5, o6⟩
          · refine bad s Rc2 Rm2 (by omega) (r1.l.trans o3.l) (m5.n.trans o4.n) (fun n hn X => ?_) (fun n X => ?_)
            · obtain ⟨n, rfl⟩ : ∃ n', n = n' + 1 := ⟨n - 1, by omega⟩
              rw [hC n X _ _ k4 r2, if_pos rfl, o1, Option.bind_some, iserr, Option.bind_some, if_pos (decide_eq_true (show -3 ≤ r ∧ r ≤ -1 from o5)), if_neg (show ¬ (s : Int) = -1 by omega)]
            · rw [hMm n X _ m1, if_pos rfl, if_pos m2, o2, Option.bind_some, if_neg (show ¬ 0 ≤ r by have := o5.2; omega), xlet_eq]
          · have e5 : Qe (w4 ((y : Int) + 1)) ((y + 1 : Nat) : Int) := by unfold Qe; rw [w4_of (by omega)]; omega
            obtain ⟨Rm3, n1, n2, n3⟩ := next10 (R := Rm2) (m4.k (o4 323 4 (by omega) (by omega) (by omega)) (fun j => o4 327 j (by omega) (by omega) (by omega))) r4 (by rw [o4 323 18 (by omega) (by omega) (by omega)]; exact m3)
            obtain ⟨tk, tk2, -⟩ := tok_ok (T := T) r4
            have h326 : Rm3 323 26 = -1 := by rw [n3 323 26 (by omega), o4 323 26 (by omega) (by omega) (by omega), m5 323 26 (by omega) (by omega)]; exact h26
            have h36 : Rm3 323 6 = 1 := by rw [n3 323 6 (by omega), o4 323 6 (by omega) (by omega) (by omega), m5 323 6 (by omega) (by omega)]; exact h6
            have hS3 : SR Rc2 1 (Rm3 324) := by
              rw [show Rm3 324 = Rm2 324 from funext fun j => n3 324 j (by omega)]
              exact o6
            obtain ⟨Rc', Rm', i1, i2, i3⟩ := ih (tS T N e1) (tE T N e1) (y + 1) Rc2 Rm3 (by omega) (by omega) (r5.k (fun q j hq => o3 q j (by omega) (by omega))) tk n2 hS3 h36 h326
            have kk : kN Rm Rm3 := (m5.n.trans o4.n).trans (fun q j q1 q2 q3 q4 => n3 q j (by omega))
            have cC : ∀ n, ∀ X : Int → xN → Option (Int × xN), lp_X9_run_28 0 (n + 1) (y : Int) Rc X = lp_X9_run_28 0 n ((y + 1 : Nat) : Int) Rc2 X := fun n X => by
              rw [hC n X _ _ k4 r2, if_pos rfl, o1, Option.bind_some, iserr, Option.bind_some, if_neg (by rw [decide_eq_false (by omega)]; decide), if_pos rfl, xlet_eq, e5.eq]
            have cM : ∀ n, ∀ X : Int → xN → Option (Int × xN), lp_X10_runAll_16 323 (n + 1) (y : Int) Rm X = lp_X10_runAll_16 323 n ((y + 1 : Nat) : Int) Rm3 X := fun n X => by
              rw [hMm n X _ m1, if_pos rfl, if_pos m2, o2, Option.bind_some, if_pos o5, xlet_eq, n1, Option.bind_some, e5.eq]
            refine ⟨Rc', Rm', (r1.l.trans o3.l).trans i1, kk.trans i2, ?_⟩
            rcases i3 with ⟨cnt, j1, j2, j3, j4⟩ | ⟨fl, z, j1, j2, j3, j4⟩
            · refine Or.inl ⟨cnt, j1, fun n hn X => ?_, fun n hn X => ?_, j4⟩
              · obtain ⟨n, rfl⟩ : ∃ n', n = n' + 1 := ⟨n - 1, by omega⟩
                rw [cC]; exact j2 n (by omega) X
              · obtain ⟨n, rfl⟩ : ∃ n', n = n' + 1 := ⟨n - 1, by omega⟩
                rw [cM]; exact j3 n (by omega) X
            · refine Or.inr ⟨fl, z, j1, fun n hn X => ?_, fun n hn X => ?_, j4⟩
              · obtain ⟨n, rfl⟩ : ∃ n', n = n' + 1 := ⟨n - 1, by omega⟩
                rw [cC]; exact j2 n (by omega) X
              · obtain ⟨n, rfl⟩ : ∃ n', n = n' + 1 := ⟨n - 1, by omega⟩
                rw [cM]; exact j3 n (by omega) X
      · -- no command
        have hr0 : f_X9_readCommand 0 0 Rc = some ((s : Int), Rc) := by
          unfold f_X9_readCommand
          rw [if_pos rfl, show 0 + 320 = 320 from rfl, hT.2.1]
        have hno : ∀ k, 1 ≤ k → k ≤ 9 → Rm 323 21 ≠ cdw (k - 1) := fun k g1 g2 h => k1 k g1 g2 ((mw10 (k := k - 1) (by omega) (by omega) hM hF).mp h)
        have hno0 : ∀ k, 1 ≤ k → k ≤ 9 → (0 : Int) ≠ cdw (k - 1) := fun k g1 g2 h => by
          have := (xch_num (k - 1) (by omega) (by omega)).2.2
          omega
        refine bad s Rc Rm (by omega) kL.refl kN.refl (fun n hn X => ?_) (fun n X => ?_)
        · obtain ⟨n, rfl⟩ : ∃ n', n = n' + 1 := ⟨n - 1, by omega⟩
          rw [hC n X _ _ k2 hr0, if_neg (show ¬ (s : Int) = -1 by omega), if_neg (show ¬ (s : Int) = -1 by omega)]
        · rw [lp_X10_runAll_16, if_neg hk0, h26, if_neg (by decide), xlet_eq, isc_no hno, isc_no hno0, Option.bind_some, Option.bind_some, if_neg Bool.false_ne_true, xlet_eq, hM19]
          split <;> rfl
