/-! A command done: both. -/
def kRun (R R' : xN) : Prop := ∀ q j : Nat, ¬ (q = 323 ∧ 7 ≤ j ∧ j ≤ 9) → ¬ (328 ≤ q ∧ q < 336) → q ≠ 324 → R' q j = R q j
theorem kRun.refl {R : xN} : kRun R R := fun _ _ _ _ _ => rfl
theorem kRun.trans {R R1 R2 : xN} (h : kRun R R1) (g : kRun R1 R2) : kRun R R2 := fun q j h1 h2 h3 => by rw [g q j h1 h2 h3, h q j h1 h2 h3]
theorem kDesk.refl {R : xN} : kDesk R R := fun _ _ _ _ => rfl
theorem kDesk.trans {R R1 R2 : xN} (h : kDesk R R1) (g : kDesk R1 R2) : kDesk R R2 := fun q j h1 h2 => by rw [g q j h1 h2, h q j h1 h2]
/-- class and model do the same while a program runs -/
def JS (f m : xN → Option (Int × xN)) : Prop := ∀ Rc Rm : xN, SR Rc 1 (Rm 324) → Rm 323 6 = 1 → ∃ (r : Int) (Rc' Rm' : xN), f Rc = some (r, Rc') ∧ m Rm = some (r, Rm') ∧ kDesk Rc Rc' ∧ kRun Rm Rm' ∧ (err r ∨ (0 ≤ r ∧ SR Rc' 1 (Rm' 324)))
theorem js_of {f m : xN → Option (Int × xN)} {sp : sSp} (hc : dSpec f sp) (hm : wSpec m sp) (hr : ∀ (s : Nat → Int) (H W : Nat) (g : gG), SW s H W g → err (sp s).1 ∨ 0 ≤ (sp s).1) : JS f m := by
  intro Rc Rm hS h6
  obtain ⟨H, W, g, w, r⟩ := hS.1
  obtain ⟨a, b, Rc', c1, c2, c3⟩ := hc Rc (Rm 324) H W g w r
  have hs' : SR Rc' 1 (sp (Rm 324)).2 := hS.desk c3 a (fun q j hq => c2 q j (by omega) (by omega))
  have kd : kDesk Rc Rc' := fun q j h1 h2 => c2 q j (by omega) h2
  rcases hm Rm H W g w with ⟨he, Rm', m1, m2⟩ | ⟨he, Ra, m1, m2⟩
  · exact ⟨_, Rc', Rm', c1, m1, kd, fun q j h1 h2 h3 => m2 q j h1 h2, Or.inl he⟩
  · have ha6 : Ra 323 6 = 1 := by rw [m1 323 6 (by omega) (by omega)]; exact h6
    have hact : f_X10_act 323 Ra = some Ra := by
      unfold f_X10_act
      rw [if_neg (by omega)]
    obtain ⟨Rm', n1, n2, n3⟩ := m2 Ra hact (fun _ _ _ _ => rfl)
    refine ⟨_, Rc', Rm', c1, n1, kd, fun q j h1 h2 h3 => by rw [n3 q j h3, m1 q j h1 h2], Or.inr ⟨?_, hs'.sg n2⟩⟩
    rcases hr (Rm 324) H W g w with h | h
    · exact absurd h he
    · exact h
theorem prA_ge {s0 : Nat → Int} {W : Nat} {t : Nat → Nat} : ∀ (c p : Nat) (n : Int) (s : Nat → Int), n ≤ (prA s0 W t p c n s).1 := by
  intro c
  induction c with
  | zero => intro p n s; exact Int.le_refl _
  | succ c ih =>
    intro p n s
    have h1 := ih (p + 1) (n + chg s (kS W (t (p / 2)) p) (p : Int) (tU s0 (t (p / 2)) p : Int)) (st1 s (kS W (t (p / 2)) p) (p : Int) (tU s0 (t (p / 2)) p : Int))
    have h2 := (chg_01 (s := s) (k := kS W (t (p / 2)) p) (n := (p : Int)) (t := (tU s0 (t (p / 2)) p : Int))).1
    have h3 : prA s0 W t p (c + 1) n s = prA s0 W t (p + 1) c (n + chg s (kS W (t (p / 2)) p) (p : Int) (tU s0 (t (p / 2)) p : Int)) (st1 s (kS W (t (p / 2)) p) (p : Int) (tU s0 (t (p / 2)) p : Int)) := rfl
    rw [h3]
    omega
theorem js_sheet {a b : Int} : JS (f_X0_takeSheet 2 a b) (f_X10_setSheet 323 a b) := js_of d_sheet w_sheet (fun s H W g w => by
  unfold spSheet
  by_cases c1 : a = 1 ∨ a = 2 ∨ a = 4
  · rw [if_pos c1]
    by_cases c2 : b = 1 ∨ b = 2 ∨ b = 4
    · rw [if_pos c2]
      refine Or.inr (show 0 ≤ a * b from ?_)
      rcases c1 with rfl | rfl | rfl <;> rcases c2 with rfl | rfl | rfl <;> decide
    · rw [if_neg c2]; exact Or.inl err1
  · rw [if_neg c1]; exact Or.inl err1)
theorem js_fold {v : Int} : JS (f_X0_foldOnce 2 v) (f_X10_fold 323 v) := js_of d_fold w_fold (fun s H W g w => by
  unfold spFold
  split
  · split
    · exact Or.inr (Int.natCast_nonneg _)
    · exact Or.inl err2
  · exact Or.inl err1)
theorem js_unf : JS (f_X0_foldBack 2) (f_X10_unfold 323) := js_of d_unf w_unf (fun s H W g w => by
  have h2 := w.2.2.2.2.1
  unfold spUnf
  by_cases c : s 2 = 0 ∨ ¬ (s 8 = 0 ∧ s 9 = 0)
  · rw [if_pos c]; exact Or.inl err2
  · rw [if_neg c]
    refine Or.inr (show 0 ≤ s 2 - 1 from ?_)
    omega)
theorem js_spine {v : Int} : JS (f_X0_moveSpine 2 v) (f_X10_setSpine 323 v) := js_of d_spine w_spine (fun s H W g w => by
  have h7 := w.2.2.2.2.2.2.2.1
  unfold spSpine
  split
  · split
    · refine Or.inr (show 0 ≤ s 7 from ?_)
      omega
    · exact Or.inl err2
  · exact Or.inl err1)
theorem js_all {v : Int} : JS (f_X0_printSheet 2 311 v) (f_X10_printAll 323 v) := js_of d_all w_all (fun s H W g w => by
  unfold spAll
  split
  · exact Or.inl err1
  · split
    · exact Or.inr (prA_ge _ _ 0 _)
    · exact Or.inl err2)
theorem js_cut {v : Int} : JS (f_X0_cutAlong 2 v) (f_X10_cut 323 v) := js_of d_cut w_cut (fun s H W g w => by
  unfold spCut
  split
  · split
    · split
      · exact Or.inl err2
      · exact Or.inr (Int.natCast_nonneg _)
    · exact Or.inl err2
  · exact Or.inl err1)
theorem js_staple {v : Int} : JS (f_X0_setStaple 2 v) (f_X10_staple 323 v) := js_of d_staple w_staple (fun s H W g w => by
  have h10 := w.2.2.2.2.2.2.2.2.2.2.1
  unfold spStaple
  split
  · split
    · split
      · exact Or.inl err2
      · split
        · exact Or.inl err3
        · refine Or.inr ?_
          show 0 ≤ (if ((2 ^ (gOf s).2.2.1 : Nat) : Int) ≤ s 10 then ((2 ^ (gOf s).2.2.1 : Nat) : Int) else s 10)
          split
          · exact Int.natCast_nonneg _
          · omega
    · exact Or.inl err2
  · exact Or.inl err1)
theorem js_note {a b c d : Int} : JS (f_X4_put 13 a b c d) (f_X10_addNote 323 a b c d) := js_of d_note w_note (fun s H W g w => by
  have h37 := w.2.2.2.2.2.2.2.2.2.2.2.2.2.2.1
  unfold spNote
  split
  · split
    · split
      · split
        · split
          · exact Or.inl err3
          · exact Or.inr (show 0 ≤ s 37 from h37.1)
        · exact Or.inl err1
      · exact Or.inl err1
    · exact Or.inl err1
  · exact Or.inl err1)
theorem js_lines {v : Int} : JS (f_X0_changeLines 2 v) (f_X10_setLines 323 v) := js_of d_lines w_lines (fun s H W g w => by
  have h11 := w.2.2.2.2.2.2.2.2.2.2.2.1
  unfold spLines
  split
  · refine Or.inr (show 0 ≤ s 11 from ?_)
    omega
  · exact Or.inl err1)
/-- a row of folds -/
theorem fold_j {c : Nat} (hc : c ≤ 4) : ∀ (d i : Nat) (rC rM : Int) (Rc Rm : xN), i + d = c → ((rC = -9 ∧ rM = 0 ∧ 1 ≤ d) ∨ (rC = rM ∧ 0 ≤ rM)) → SR Rc 1 (Rm 324) → Rm 323 6 = 1 → Rc 0 8 = (c : Int) → Rm 323 24 = (c : Int) → (∀ j, j < c → Rm 336 j = Rc 322 j) → ∃ (r z z' : Int) (Rc' Rm' : xN), (∀ n, d < n → ∀ X : Int → Int → xN → Option (Int × xN), lp_X9_obeyFolds_5 0 2 n rC (i : Int) Rc X = X r z Rc') ∧ (∀ n, d < n → ∀ X : Int → Int → xN → Option (Int × xN), lp_X10_doFolds_4 323 n rM (i : Int) Rm X = X r z' Rm') ∧ kDesk Rc Rc' ∧ kRun Rm Rm' ∧ (err r ∨ (0 ≤ r ∧ SR Rc' 1 (Rm' 324))) := by
  intro d
  induction d with
  | zero =>
    intro i rC rM Rc Rm h1 h2 hS h6 h8 h24 ha
    have hr : rC = rM ∧ 0 ≤ rM := by omega
    refine ⟨rM, (i : Int), (i : Int), Rc, Rm, fun n hn X => ?_, fun n hn X => ?_, kDesk.refl, kRun.refl, Or.inr ⟨hr.2, hS⟩⟩
    · obtain ⟨n, rfl⟩ : ∃ n', n = n' + 1 := ⟨n - 1, by omega⟩
      rw [lp_X9_obeyFolds_5, h8, if_pos (by omega), hr.1]
    · obtain ⟨n, rfl⟩ : ∃ n', n = n' + 1 := ⟨n - 1, by omega⟩
      rw [lp_X10_doFolds_4, h24, if_pos (by omega)]
  | succ d ih =>
    intro i rC rM Rc Rm h1 h2 hS h6 h8 h24 ha
    have gi : (0 : Int) ≤ (i : Int) ∧ (i : Int) < 4 := by omega
    have e5 : Qe (w4 ((i : Int) + 1)) ((i + 1 : Nat) : Int) := by unfold Qe; rw [w4_of (by omega)]; omega
    obtain ⟨r, Rc1, Rm1, b1, b2, b3, b4, b5⟩ := js_fold (v := Rc 322 i) Rc Rm hS h6
    have hC : ∀ n, ∀ X : Int → Int → xN → Option (Int × xN), lp_X9_obeyFolds_5 0 2 (n + 1) rC (i : Int) Rc X = lp_X9_obeyFolds_5 0 2 n r ((i + 1 : Nat) : Int) Rc1 X := fun n X => by
      rw [lp_X9_obeyFolds_5, h8, if_neg (by omega), if_neg (by omega), iserr, Option.bind_some, if_neg (by rw [decide_eq_false (by omega)]; decide), if_pos gi, tnc, show 0 + 322 = 322 from rfl, b1, Option.bind_some, xlet_eq, e5.eq]
    have hM : ∀ n, ∀ X : Int → Int → xN → Option (Int × xN), lp_X10_doFolds_4 323 (n + 1) rM (i : Int) Rm X = lp_X10_doFolds_4 323 n r ((i + 1 : Nat) : Int) Rm1 X := fun n X => by
      rw [lp_X10_doFolds_4, h24, if_neg (by omega), if_neg (by omega), if_pos gi, tnc, show 323 + 13 = 336 from rfl, ha i (by omega), b2, Option.bind_some, xlet_eq, e5.eq]
    have k8 : Rc1 0 8 = (c : Int) := by rw [b3 0 8 (by omega) (by omega)]; exact h8
    have k24 : Rm1 323 24 = (c : Int) := by rw [b4 323 24 (by omega) (by omega) (by omega)]; exact h24
    rcases b5 with b5 | ⟨b5, b6⟩
    · refine ⟨r, ((i + 1 : Nat) : Int), ((i + 1 : Nat) : Int), Rc1, Rm1, fun n hn X => ?_, fun n hn X => ?_, b3, b4, Or.inl b5⟩
      · obtain ⟨n, rfl⟩ : ∃ n', n = n' + 1 + 1 := ⟨n - 2, by omega⟩
        rw [hC, lp_X9_obeyFolds_5, k8]
        by_cases c1 : (c : Int) ≤ ((i + 1 : Nat) : Int)
        · rw [if_pos c1]
        · rw [if_neg c1, if_neg (by omega), iserr, Option.bind_some, if_pos (decide_eq_true (show -3 ≤ r ∧ r ≤ -1 from b5))]
      · obtain ⟨n, rfl⟩ : ∃ n', n = n' + 1 + 1 := ⟨n - 2, by omega⟩
        rw [hM, lp_X10_doFolds_4, k24]
        by_cases c1 : (c : Int) ≤ ((i + 1 : Nat) : Int)
        · rw [if_pos c1]
        · rw [if_neg c1, if_pos (by have := b5.2; omega)]
    · obtain ⟨r2, z, z', Rc2, Rm2, d1, d2, d3, d4, d5⟩ := ih (i + 1) r r Rc1 Rm1 (by omega) (Or.inr ⟨rfl, b5⟩) b6 (by rw [b4 323 6 (by omega) (by omega) (by omega)]; exact h6) k8 k24 (fun j hj => by rw [b4 336 j (by omega) (by omega) (by omega), b3 322 j (by omega) (by omega)]; exact ha j hj)
      refine ⟨r2, z, z', Rc2, Rm2, fun n hn X => ?_, fun n hn X => ?_, b3.trans d3, b4.trans d4, d5⟩
      · obtain ⟨n, rfl⟩ : ∃ n', n = n' + 1 := ⟨n - 1, by omega⟩
        rw [hC]; exact d1 n (by omega) X
      · obtain ⟨n, rfl⟩ : ∃ n', n = n' + 1 := ⟨n - 1, by omega⟩
        rw [hM]; exact d2 n (by omega) X
/-- a command is done in the same way -/
def ObJ (k : Nat) (w : Int) : Prop := ∀ Rc Rm : xN, SR Rc 1 (Rm 324) → Rm 323 6 = 1 → AG k Rc Rm → ∃ (r : Int) (Rc' Rm' : xN), f_X9_obey 0 (k : Int) Rc = some (r, Rc') ∧ f_X10_doCommand 323 w Rm = some (r, Rm') ∧ kDesk Rc Rc' ∧ kRun Rm Rm' ∧ (err r ∨ (0 ≤ r ∧ SR Rc' 1 (Rm' 324)))
theorem ob1 : ObJ 1 20190388 := fun Rc Rm hS h6 ha => by
  obtain ⟨r, Rc', Rm', b1, b2, b3⟩ := js_sheet (a := Rc 322 0) (b := Rc 322 1) Rc Rm hS h6
  obtain ⟨a0, a1⟩ := ha.2.1 (Or.inl rfl)
  refine ⟨r, Rc', Rm', ?_, ?_, b3⟩
  · show f_X9_obey 0 (1 : Int) Rc = some (r, Rc')
    unfold f_X9_obey
    rw [if_pos rfl, show 0 + 2 = 2 from rfl, show 0 + 322 = 322 from rfl, b1, Option.bind_some]
  · unfold f_X10_doCommand
    rw [if_pos rfl, show 323 + 13 = 336 from rfl, a0, a1, b2, Option.bind_some]
theorem ob2 : ObJ 2 212356 := fun Rc Rm hS h6 ha => by
  obtain ⟨c, c1, c2, c3, c4, c5⟩ := ha.1 rfl
  obtain ⟨r, z, z', Rc', Rm', b1, b2, b3⟩ := fold_j c2 c 0 (-9) 0 Rc Rm (by omega) (Or.inl ⟨rfl, rfl, c1⟩) hS h6 c3 c4 c5
  rw [z0] at b1 b2
  refine ⟨r, Rc', Rm', ?_, ?_, b3⟩
  · show f_X9_obey 0 (2 : Int) Rc = some (r, Rc')
    unfold f_X9_obey f_X9_obeyFolds
    rw [if_neg (by decide), if_pos rfl, show 0 + 2 = 2 from rfl, b1 6000 (by omega), Option.bind_some]
  · unfold f_X10_doCommand f_X10_doFolds
    rw [if_neg (by decide), if_pos rfl, b2 6000 (by omega), Option.bind_some]
theorem ob3 : ObJ 3 719535492 := fun Rc Rm hS h6 ha => by
  obtain ⟨r, Rc', Rm', b1, b2, b3⟩ := js_unf Rc Rm hS h6
  refine ⟨r, Rc', Rm', ?_, ?_, b3⟩
  · show f_X9_obey 0 (3 : Int) Rc = some (r, Rc')
    unfold f_X9_obey
    rw [if_neg (by decide), if_neg (by decide), if_pos rfl, show 0 + 2 = 2 from rfl, b1, Option.bind_some]
  · unfold f_X10_doCommand
    rw [if_neg (by decide), if_neg (by decide), if_pos rfl, b2, Option.bind_some]
theorem ob4 : ObJ 4 20456901 := fun Rc Rm hS h6 ha => by
  obtain ⟨r, Rc', Rm', b1, b2, b3⟩ := js_spine (v := Rc 322 0) Rc Rm hS h6
  have a4 := ha.2.2.2.2 rfl
  refine ⟨r, Rc', Rm', ?_, ?_, b3⟩
  · show f_X9_obey 0 (4 : Int) Rc = some (r, Rc')
    unfold f_X9_obey
    rw [if_neg (by decide), if_neg (by decide), if_neg (by decide), if_pos rfl, show 0 + 2 = 2 from rfl, show 0 + 322 = 322 from rfl, b1, Option.bind_some]
  · unfold f_X10_doCommand
    rw [if_neg (by decide), if_neg (by decide), if_neg (by decide), if_pos rfl, show 323 + 13 = 336 from rfl]
    rcases a4 with ⟨h, h'⟩ | ⟨h, h'⟩
    · rw [h'] at b2
      rw [if_pos h, b2, Option.bind_some]
    · rw [h'] at b2
      rw [if_neg h, b2, Option.bind_some]
theorem ob5 : ObJ 5 17376724 := fun Rc Rm hS h6 ha => by
  obtain ⟨r, Rc', Rm', b1, b2, b3⟩ := js_all (v := Rc 322 0) Rc Rm hS h6
  have a0 := ha.2.2.2.1 (Or.inl rfl)
  refine ⟨r, Rc', Rm', ?_, ?_, b3⟩
  · show f_X9_obey 0 (5 : Int) Rc = some (r, Rc')
    unfold f_X9_obey
    rw [if_neg (by decide), if_neg (by decide), if_neg (by decide), if_neg (by decide), if_pos rfl, show 0 + 2 = 2 from rfl, show 0 + 311 = 311 from rfl, show 0 + 322 = 322 from rfl, b1, Option.bind_some]
  · unfold f_X10_doCommand
    rw [if_neg (by decide), if_neg (by decide), if_neg (by decide), if_neg (by decide), if_pos rfl, show 323 + 13 = 336 from rfl, a0, b2, Option.bind_some]
theorem ob6 : ObJ 6 3764 := fun Rc Rm hS h6 ha => by
  obtain ⟨r, Rc', Rm', b1, b2, b3⟩ := js_cut (v := Rc 322 0) Rc Rm hS h6
  have a0 := ha.2.2.2.1 (Or.inr (Or.inl rfl))
  refine ⟨r, Rc', Rm', ?_, ?_, b3⟩
  · show f_X9_obey 0 (6 : Int) Rc = some (r, Rc')
    unfold f_X9_obey
    rw [if_neg (by decide), if_neg (by decide), if_neg (by decide), if_neg (by decide), if_neg (by decide), if_pos rfl, show 0 + 2 = 2 from rfl, show 0 + 322 = 322 from rfl, b1, Option.bind_some]
  · unfold f_X10_doCommand
    rw [if_neg (by decide), if_neg (by decide), if_neg (by decide), if_neg (by decide), if_neg (by decide), if_pos rfl, show 323 + 13 = 336 from rfl, a0, b2, Option.bind_some]
theorem ob7 : ObJ 7 658555269 := fun Rc Rm hS h6 ha => by
  obtain ⟨r, Rc', Rm', b1, b2, b3⟩ := js_staple (v := Rc 322 0) Rc Rm hS h6
  have a0 := ha.2.2.2.1 (Or.inr (Or.inr (Or.inl rfl)))
  refine ⟨r, Rc', Rm', ?_, ?_, b3⟩
  · show f_X9_obey 0 (7 : Int) Rc = some (r, Rc')
    unfold f_X9_obey
    rw [if_neg (by decide), if_neg (by decide), if_neg (by decide), if_neg (by decide), if_neg (by decide), if_neg (by decide), if_pos rfl, show 0 + 2 = 2 from rfl, show 0 + 322 = 322 from rfl, b1, Option.bind_some]
  · unfold f_X10_doCommand
    rw [if_neg (by decide), if_neg (by decide), if_neg (by decide), if_neg (by decide), if_neg (by decide), if_neg (by decide), if_pos rfl, show 323 + 13 = 336 from rfl, a0, b2, Option.bind_some]
theorem ob8 : ObJ 8 474757 := fun Rc Rm hS h6 ha => by
  obtain ⟨r, Rc', Rm', b1, b2, b3⟩ := js_note (a := Rc 322 0) (b := Rc 322 1) (c := Rc 322 2) (d := Rc 322 3) Rc Rm hS h6
  obtain ⟨a0, a1⟩ := ha.2.1 (Or.inr rfl)
  obtain ⟨a2, a3, a4⟩ := ha.2.2.1 rfl
  refine ⟨r, Rc', Rm', ?_, ?_, b3⟩
  · show f_X9_obey 0 (8 : Int) Rc = some (r, Rc')
    unfold f_X9_obey
    rw [if_neg (by decide), if_neg (by decide), if_neg (by decide), if_neg (by decide), if_neg (by decide), if_neg (by decide), if_neg (by decide), if_pos rfl, show 0 + 13 = 13 from rfl, show 0 + 322 = 322 from rfl, b1, Option.bind_some]
  · unfold f_X10_doCommand
    rw [if_neg (by decide), if_neg (by decide), if_neg (by decide), if_neg (by decide), if_neg (by decide), if_neg (by decide), if_neg (by decide), if_pos rfl, show 323 + 13 = 336 from rfl, a0, a1, a2, a3]
    rcases a4 with h | h
    · rw [h] at b2
      rw [if_pos h, b2, Option.bind_some]
    · rw [h] at b2
      rw [if_neg (by omega), b2, Option.bind_some]
theorem ob9 : ObJ 9 12892339 := fun Rc Rm hS h6 ha => by
  obtain ⟨r, Rc', Rm', b1, b2, b3⟩ := js_lines (v := Rc 322 0) Rc Rm hS h6
  have a0 := ha.2.2.2.1 (Or.inr (Or.inr (Or.inr rfl)))
  refine ⟨r, Rc', Rm', ?_, ?_, b3⟩
  · show f_X9_obey 0 (9 : Int) Rc = some (r, Rc')
    unfold f_X9_obey
    rw [if_neg (by decide), if_neg (by decide), if_neg (by decide), if_neg (by decide), if_neg (by decide), if_neg (by decide), if_neg (by decide), if_neg (by decide), if_pos rfl, show 0 + 2 = 2 from rfl, show 0 + 322 = 322 from rfl, b1, Option.bind_some]
  · unfold f_X10_doCommand
    rw [if_neg (by decide), if_neg (by decide), if_neg (by decide), if_neg (by decide), if_neg (by decide), if_neg (by decide), if_neg (by decide), if_neg (by decide), show 323 + 13 = 336 from rfl, a0, b2, Option.bind_some]
