/-! Other folds: best. -/
theorem ecC_lt {H W sp : Nat} {t : Nat → Nat} : ∀ (c e acc : Nat), e + c ≤ 4 → acc < 16 → ecC H W t sp e c acc < 16 := by
  intro c
  induction c with
  | zero => intro e acc _ h; exact h
  | succ c ih =>
    intro e acc he h
    have := (ec_num e (by omega) acc h).2
    show ecC H W t sp (e + 1) c (if e = sp then acc else if pcS H W t e = 0 then acc else acc ||| 2 ^ e) < 16
    refine ih (e + 1) _ (by omega) ?_
    repeat' split
    all_goals first | exact h | exact this
/-- edges to be cut, and pages in order, of a row of folds -/
def ctO (s : Nat → Int) (H W n : Nat) : Nat := ((gbk H W (n : Int)).map (fun g => ones (ecC H W g.2.2.2 (spE s) 0 4 0))).getD 0
def pgO (s : Nat → Int) (H W n : Nat) : Nat := ((gbk H W (n : Int)).map (fun g => opg s W g.2.2.2 0 (2 * (H * W)))).getD 0
def rkO (s : Nat → Int) (H W n : Nat) : Int := (ctO s H W n : Int) * 33 - (pgO s H W n : Int)
theorem ones16 : ∀ n : Nat, n < 16 → ones n ≤ 4 := by decide +kernel
theorem ctO_le {s : Nat → Int} {H W n : Nat} : ctO s H W n ≤ 4 := by
  unfold ctO
  cases gbk H W (n : Int) with
  | none => exact Nat.zero_le _
  | some g => exact ones16 _ (ecC_lt 4 0 0 (by omega) (by omega))
theorem pgO_le {s : Nat → Int} {H W n : Nat} (hA : H * W ≤ 16) : pgO s H W n ≤ 32 := by
  unfold pgO
  cases gbk H W (n : Int) with
  | none => exact Nat.zero_le _
  | some g =>
    have := (opn_le (s := s) (W := W) (t := g.2.2.2) (2 * (H * W)) 0).2
    show opg s W g.2.2.2 0 (2 * (H * W)) ≤ 32
    omega
def b9F (s : Nat → Int) (H W : Nat) (st : Int × Int) (n : Nat) : Int × Int := if (gbk H W (n : Int)).isSome = true then (if st.1 = -9 then ((n : Int), rkO s H W n) else if st.2 ≤ rkO s H W n then st else ((n : Int), rkO s H W n)) else st
theorem bt9_lp {s : Nat → Int} {H W : Nat} {g0 : gG} (w : SW s H W g0) : ∀ (n c i : Nat) (R : xN) (st : Int × Int), c < n → i + c = 341 → DR R 2 s H W g0 → ∃ R', kTri R R' ∧ ∀ X : Int → Int → Int → xN → Option (Int × xN), lp_X9_bestFolds_7 0 n st.1 st.2 (i : Int) R X = X (((List.range' i c).map (rofN 4)).foldl (b9F s H W) st).1 (((List.range' i c).map (rofN 4)).foldl (b9F s H W) st).2 341 R' := by
  intro n
  induction n with
  | zero => intro c i R st h; omega
  | succ n ih =>
    intro c i R st h1 h2 r
    cases c with
    | zero =>
      refine ⟨R, fun _ _ _ => rfl, fun X => ?_⟩
      rw [lp_X9_bestFolds_7, if_pos (by omega), show i = 341 by omega]
      rfl
    | succ c =>
      have hA := area_le w.1 w.2.1
      have e5 : Qe (w4 ((i : Int) + 1)) ((i + 1 : Nat) : Int) := by unfold Qe; rw [w4_of (by omega)]; omega
      obtain ⟨R1, a1, a2, a3⟩ := try9 (i := (rofN 4 i : Int)) w r
      have r' : DR R1 2 s H W g0 := r.fr w (fun q j _ _ => a2 q j (by omega))
      obtain ⟨v9, p1', p2, p3⟩ : ∃ v : Bool × xN, f_X9_tryFolds 0 (rofN 4 i : Int) R = some v ∧ v.1 = (gbk H W (rofN 4 i : Int)).isSome ∧ v.2 = R1 := ⟨_, a1, rfl, rfl⟩
      have hcons : ∀ st', ((List.range' i (c + 1)).map (rofN 4)).foldl (b9F s H W) st' = ((List.range' (i + 1) c).map (rofN 4)).foldl (b9F s H W) (b9F s H W st' (rofN 4 i)) := fun _ => rfl
      have step : ∀ X : Int → Int → Int → xN → Option (Int × xN), lp_X9_bestFolds_7 0 (n + 1) st.1 st.2 (i : Int) R X = lp_X9_bestFolds_7 0 n (b9F s H W st (rofN 4 i)).1 (b9F s H W st (rofN 4 i)).2 ((i + 1 : Nat) : Int) R1 X := fun X => by
        rw [lp_X9_bestFolds_7, if_neg (by omega), rof9 (by omega), Option.bind_some, p1', Option.bind_some, p2, p3]
        have hc := ctO_le (s := s) (H := H) (W := W) (n := rofN 4 i)
        have hp := pgO_le (s := s) (n := rofN 4 i) hA
        have e7 : Qe (w4 (w4 ((ctO s H W (rofN 4 i) : Int) * 33) - (pgO s H W (rofN 4 i) : Int))) (rkO s H W (rofN 4 i)) := by unfold Qe rkO; rw [w4_of (x := _ * 33) (by omega), w4_of (by omega)]
        unfold b9F
        cases hg : gbk H W (rofN 4 i : Int) with
        | none => rw [if_neg (by decide), xlet_eq, e5.eq, if_neg (by decide)]
        | some g =>
          have hct : ctO s H W (rofN 4 i) = ones (ecC H W g.2.2.2 (spE s) 0 4 0) := by unfold ctO; rw [hg]; rfl
          have hpg : pgO s H W (rofN 4 i) = opg s W g.2.2.2 0 (2 * (H * W)) := by unfold pgO; rw [hg]; rfl
          obtain ⟨l1, l2, l3⟩ := a3 g hg
          have hlt := ecC_lt (H := H) (W := W) (sp := spE s) (t := g.2.2.2) 4 0 0 (by omega) (by omega)
          have hbc := bc_eq (R := R1) (v := (ecC H W g.2.2.2 (spE s) 0 4 0 : Int)) (by omega)
          rw [tnc, ← hct] at hbc
          have hpo := pio9 (pr_of w r') l1
          rw [← hpg] at hpo
          rw [if_pos (show (some g).isSome = true from rfl), show 0 + 2 = 2 from rfl, show 0 + 311 = 311 from rfl, etc9 r'.2.2.2.2.1 l1.1 l2 l3, Option.bind_some, hbc, Option.bind_some, hpo, Option.bind_some, xlet_eq, e7.eq, if_pos (show (some g).isSome = true from rfl)]
          by_cases c1 : st.1 = -9
          · rw [if_pos c1, if_pos c1, xlet_eq, e5.eq]
          · rw [if_neg c1, if_neg c1]
            by_cases c2 : st.2 ≤ rkO s H W (rofN 4 i)
            · rw [if_pos c2, if_pos c2, xlet_eq, e5.eq]
            · rw [if_neg c2, if_neg c2, xlet_eq, e5.eq]
      obtain ⟨R', b1, b2⟩ := ih c (i + 1) R1 (b9F s H W st (rofN 4 i)) (by omega) (by omega) r'
      refine ⟨R', fun q j h => by rw [b1 q j h, a2 q j h], fun X => ?_⟩
      rw [hcons, step, b2]
/-- both best ones are one -/
def btR (s : Nat → Int) (H W : Nat) (a : Int × Int) (b : Int × Int × Int) (e : Prop) : Prop := (e ∧ a.1 = -9 ∧ b.1 = -1) ∨ ∃ n : Nat, (gbk H W (n : Int)).isSome = true ∧ a = ((n : Int), rkO s H W n) ∧ b = ((n : Int), (ctO s H W n : Int), (pgO s H W n : Int))
