/-! Other folds: best. -/
theorem ecC_lt {H W sp : Nat} {t : Nat → Nat} : ∀ (c e acc : Nat), e + c ≤ 4 → acc < 16 → ecC H W t sp e c acc < 16 := by
  intro c
  induction c with
  | zero => intro e acc _ h; exact h
  | succ c ih =>
    intro e acc he h
    have := (ec_num e (by omega) acc h).2
    show ecC H W t sp (e + 1) c (if e = sp then acc else if pcS H W t e = 0 then acc else acc ||| 2 ^ e) < 16
    refine ih (e + 1) _ (by omega) ?_
    repeat' split
    all_goals first | exact h | exact this
/-- edges to be cut, and pages in order, of a row of folds -/
def ctO (s : Nat → Int) (H W n : Nat) : Nat := ((gbk H W (n : Int)).map (fun g => ones (ecC H W g.2.2.2 (spE s) 0 4 0))).getD 0
def pgO (s : Nat → Int) (H W n : Nat) : Nat := ((gbk H W (n : Int)).map (fun g => opg s W g.2.2.2 0 (2 * (H * W)))).getD 0
def rkO (s : Nat → Int) (H W n : Nat) : Int := (ctO s H W n : Int) * 33 - (pgO s H W n : Int)
theorem ones16 : ∀ n : Nat, n < 16 → ones n ≤ 4 := by decide +kernel
theorem ctO_le {s : Nat → Int} {H W n : Nat} : ctO s H W n ≤ 4 := by
  unfold ctO
  cases gbk H W (n : Int) with
  | none => exact Nat.zero_le _
  | some g => exact ones16 _ (ecC_lt 4 0 0 (by omega) (by omega))
theorem pgO_le {s : Nat → Int} {H W n : Nat} (hA : H * W ≤ 16) : pgO s H W n ≤ 32 := by
  unfold pgO
  cases gbk H W (n : Int) with
  | none => exact Nat.zero_le _
  | some g =>
    have := (opn_le (s := s) (W := W) (t := g.2.2.2) (2 * (H * W)) 0).2
    show opg s W g.2.2.2 0 (2 * (H * W)) ≤ 32
    omega
def b9F (s : Nat → Int) (H W : Nat) (st : Int × Int) (n : Nat) : Int × Int := if (gbk H W (n : Int)).isSome = true then (if st.1 = -9 then ((n : Int), rkO s H W n) else if st.2 ≤ rkO s H W n then st else ((n : Int), rkO s H W n)) else st
def b10F (s : Nat → Int) (H W : Nat) (st : Int × Int × Int) (n : Nat) : Int × Int × Int := if (gbk H W (n : Int)).isSome = true then (if st.1 < 0 then ((n : Int), (ctO s H W n : Int), (pgO s H W n : Int)) else if (ctO s H W n : Int) < st.2.1 then ((n : Int), (ctO s H W n : Int), (pgO s H W n : Int)) else if (ctO s H W n : Int) = st.2.1 then (if (pgO s H W n : Int) ≤ st.2.2 then st else ((n : Int), (ctO s H W n : Int), (pgO s H W n : Int))) else st) else st
theorem bt9_lp {s : Nat → Int} {H W : Nat} {g0 : gG} (w : SW s H W g0) : ∀ (n c i : Nat) (R : xN) (st : Int × Int), c < n → i + c = 341 → DR R 2 s H W g0 → ∃ R', kTri R R' ∧ ∀ X : Int → Int → Int → xN → Option (Int × xN), lp_X9_bestFolds_7 0 n st.1 st.2 (i : Int) R X = X (((List.range' i c).map (rofN 4)).foldl (b9F s H W) st).1 (((List.range' i c).map (rofN 4)).foldl (b9F s H W) st).2 341 R' := by
  intro n
  induction n with
  | zero => intro c i R st h; omega
  | succ n ih =>
    intro c i R st h1 h2 r
    cases c with
    | zero =>
      refine ⟨R, fun _ _ _ => rfl, fun X => ?_⟩
      rw [lp_X9_bestFolds_7, if_pos (by omega), show i = 341 by omega]
      rfl
    | succ c =>
      have hA := area_le w.1 w.2.1
      have e5 : Qe (w4 ((i : Int) + 1)) ((i + 1 : Nat) : Int) := by unfold Qe; rw [w4_of (by omega)]; omega
      obtain ⟨R1, a1, a2, a3⟩ := try9 (i := (rofN 4 i : Int)) w r
      have r' : DR R1 2 s H W g0 := r.fr w (fun q j _ _ => a2 q j (by omega))
      obtain ⟨v9, p1', p2, p3⟩ : ∃ v : Bool × xN, f_X9_tryFolds 0 (rofN 4 i : Int) R = some v ∧ v.1 = (gbk H W (rofN 4 i : Int)).isSome ∧ v.2 = R1 := ⟨_, a1, rfl, rfl⟩
      have hcons : ∀ st', ((List.range' i (c + 1)).map (rofN 4)).foldl (b9F s H W) st' = ((List.range' (i + 1) c).map (rofN 4)).foldl (b9F s H W) (b9F s H W st' (rofN 4 i)) := fun _ => rfl
      have step : ∀ X : Int → Int → Int → xN → Option (Int × xN), lp_X9_bestFolds_7 0 (n + 1) st.1 st.2 (i : Int) R X = lp_X9_bestFolds_7 0 n (b9F s H W st (rofN 4 i)).1 (b9F s H W st (rofN 4 i)).2 ((i + 1 : Nat) : Int) R1 X := fun X => by
        rw [lp_X9_bestFolds_7, if_neg (by omega), rof9 (by omega), Option.bind_some, p1', Option.bind_some, p2, p3]
        have hc := ctO_le (s := s) (H := H) (W := W) (n := rofN 4 i)
        have hp := pgO_le (s := s) (n := rofN 4 i) hA
        have e7 : Qe (w4 (w4 ((ctO s H W (rofN 4 i) : Int) * 33) - (pgO s H W (rofN 4 i) : Int))) (rkO s H W (rofN 4 i)) := by unfold Qe rkO; rw [w4_of (x := _ * 33) (by omega), w4_of (by omega)]
        unfold b9F
        cases hg : gbk H W (rofN 4 i : Int) with
        | none => rw [if_neg (by decide), xlet_eq, e5.eq, if_neg (by decide)]
        | some g =>
          have hct : ctO s H W (rofN 4 i) = ones (ecC H W g.2.2.2 (spE s) 0 4 0) := by unfold ctO; rw [hg]; rfl
          have hpg : pgO s H W (rofN 4 i) = opg s W g.2.2.2 0 (2 * (H * W)) := by unfold pgO; rw [hg]; rfl
          obtain ⟨l1, l2, l3⟩ := a3 g hg
          have hlt := ecC_lt (H := H) (W := W) (sp := spE s) (t := g.2.2.2) 4 0 0 (by omega) (by omega)
          have hbc := bc_eq (R := R1) (v := (ecC H W g.2.2.2 (spE s) 0 4 0 : Int)) (by omega)
          rw [tnc, ← hct] at hbc
          have hpo := pio9 (pr_of w r') l1
          rw [← hpg] at hpo
          rw [if_pos (show (some g).isSome = true from rfl), show 0 + 2 = 2 from rfl, show 0 + 311 = 311 from rfl, etc9 r'.2.2.2.2.1 l1.1 l2 l3, Option.bind_some, hbc, Option.bind_some, hpo, Option.bind_some, xlet_eq, e7.eq, if_pos (show (some g).isSome = true from rfl)]
          by_cases c1 : st.1 = -9
          · rw [if_pos c1, if_pos c1, xlet_eq, e5.eq]
          · rw [if_neg c1, if_neg c1]
            by_cases c2 : st.2 ≤ rkO s H W (rofN 4 i)
            · rw [if_pos c2, if_pos c2, xlet_eq, e5.eq]
            · rw [if_neg c2, if_neg c2, xlet_eq, e5.eq]
      obtain ⟨R', b1, b2⟩ := ih c (i + 1) R1 (b9F s H W st (rofN 4 i)) (by omega) (by omega) r'
      refine ⟨R', fun q j h => by rw [b1 q j h, a2 q j h], fun X => ?_⟩
      rw [hcons, step, b2]
theorem bt10_lp {s : Nat → Int} {H W : Nat} {g0 : gG} {p1 : Int} (w : SW s H W g0) : ∀ (n c i : Nat) (R : xN) (st : Int × Int × Int), c < n → i + c = 5000 → R 324 = s → ∃ R', kLay R R' ∧ ∀ X : Int → Int → Int → Int → xN → Option (Int × xN), lp_X10_best_24 323 p1 n st.1 st.2.1 st.2.2 (i : Int) R X = X ((List.range' i c).foldl (b10F s H W) st).1 ((List.range' i c).foldl (b10F s H W) st).2.1 ((List.range' i c).foldl (b10F s H W) st).2.2 5000 R' := by
  intro n
  induction n with
  | zero => intro c i R st h; omega
  | succ n ih =>
    intro c i R st h1 h2 r
    cases c with
    | zero =>
      refine ⟨R, kLay.refl, fun X => ?_⟩
      rw [lp_X10_best_24, if_pos (by omega), show i = 5000 by omega]
      rfl
    | succ c =>
      have hA := area_le w.1 w.2.1
      have e5 : Qe (w4 ((i : Int) + 1)) ((i + 1 : Nat) : Int) := by unfold Qe; rw [w4_of (by omega)]; omega
      have w1 : SW (R 324) H W g0 := by rw [r]; exact w
      obtain ⟨R1, a1, a2, a3⟩ := try10 (i := (i : Int)) w1
      have r' : R1 324 = s := by
        rw [← r]
        exact funext fun j => a2 324 j (by omega) (by omega)
      obtain ⟨v9, p1', p2, p3⟩ : ∃ v : Bool × xN, f_X10_layBy 323 (i : Int) R = some v ∧ v.1 = (gbk H W (i : Int)).isSome ∧ v.2 = R1 := ⟨_, a1, rfl, rfl⟩
      have hcons : ∀ st', (List.range' i (c + 1)).foldl (b10F s H W) st' = (List.range' (i + 1) c).foldl (b10F s H W) (b10F s H W st' i) := fun _ => rfl
      have step : ∀ X : Int → Int → Int → Int → xN → Option (Int × xN), lp_X10_best_24 323 p1 (n + 1) st.1 st.2.1 st.2.2 (i : Int) R X = lp_X10_best_24 323 p1 n (b10F s H W st i).1 (b10F s H W st i).2.1 (b10F s H W st i).2.2 ((i + 1 : Nat) : Int) R1 X := fun X => by
        rw [lp_X10_best_24, if_neg (by omega), p1', Option.bind_some, p2, p3]
        unfold b10F
        cases hg : gbk H W (i : Int) with
        | none => rw [if_neg (by decide), xlet_eq, e5.eq, if_neg (by decide)]
        | some g =>
          have hct : ctO s H W i = ones (ecC H W g.2.2.2 (spE s) 0 4 0) := by unfold ctO; rw [hg]; rfl
          have hpg : pgO s H W i = opg s W g.2.2.2 0 (2 * (H * W)) := by unfold pgO; rw [hg]; rfl
          have l2 := a3 g hg
          have hlt := ecC_lt (H := H) (W := W) (sp := spE s) (t := g.2.2.2) 4 0 0 (by omega) (by omega)
          have hoc := ones_eq (R := R1) (v := (ecC H W g.2.2.2 (spE s) 0 4 0 : Int)) (by omega)
          rw [tnc, ← hct] at hoc
          have he := etc10 l2 (by rw [r']; exact w.2.2.2.2.2.2.2.1)
          rw [r', ← gbk_prP w.1 w.2.1 hg] at he
          have hpo := pio10 l2
          rw [r', ← hpg] at hpo
          rw [if_pos (show (some g).isSome = true from rfl), he, Option.bind_some, hoc, Option.bind_some, hpo, Option.bind_some, if_pos (show (some g).isSome = true from rfl)]
          by_cases c1 : st.1 < 0
          · rw [if_pos c1, if_pos c1, xlet_eq, e5.eq]
          · rw [if_neg c1, if_neg c1]
            by_cases c2 : (ctO s H W i : Int) < st.2.1
            · rw [if_pos c2, if_pos c2, xlet_eq, e5.eq]
            · rw [if_neg c2, if_neg c2]
              by_cases c3 : (ctO s H W i : Int) = st.2.1
              · rw [if_pos c3, if_pos c3]
                by_cases c4 : (pgO s H W i : Int) ≤ st.2.2
                · rw [if_pos c4, if_pos c4, xlet_eq, e5.eq]
                · rw [if_neg c4, if_neg c4, xlet_eq, e5.eq]
              · rw [if_neg c3, if_neg c3, xlet_eq, e5.eq]
      obtain ⟨R', b1, b2⟩ := ih c (i + 1) R1 (b10F s H W st i) (by omega) (by omega) r'
      refine ⟨R', a2.trans b1, fun X => ?_⟩
      rw [hcons, step, b2]
/-- both best ones are one -/
def btR (s : Nat → Int) (H W : Nat) (a : Int × Int) (b : Int × Int × Int) (e : Prop) : Prop := (e ∧ a.1 = -9 ∧ b.1 = -1) ∨ ∃ n : Nat, (gbk H W (n : Int)).isSome = true ∧ a = ((n : Int), rkO s H W n) ∧ b = ((n : Int), (ctO s H W n : Int), (pgO s H W n : Int))
theorem bt_rel {s : Nat → Int} {H W : Nat} (hA : H * W ≤ 16) : ∀ (L : List Nat), (∀ n ∈ L, (gbk H W (n : Int)).isSome = true) → ∀ (a : Int × Int) (b : Int × Int × Int), btR s H W a b True → btR s H W (L.foldl (b9F s H W) a) (L.foldl (b10F s H W) b) (L = [] ∧ True) := by
  intro L
  induction L with
  | nil =>
    intro _ a b h
    rcases h with ⟨_, h⟩ | h
    · exact Or.inl ⟨⟨rfl, trivial⟩, h⟩
    · exact Or.inr h
  | cons n L ih =>
    intro hL a b h
    have hn := hL n (List.mem_cons_self)
    have hx : ∃ k : Nat, (gbk H W (k : Int)).isSome = true ∧ b9F s H W a n = ((k : Int), rkO s H W k) ∧ b10F s H W b n = ((k : Int), (ctO s H W k : Int), (pgO s H W k : Int)) := by
      unfold b9F b10F
      rw [if_pos hn, if_pos hn]
      rcases h with ⟨_, h1, h2⟩ | ⟨k, h1, h2, h3⟩
      · rw [if_pos h1, if_pos (by omega)]
        exact ⟨n, hn, rfl, rfl⟩
      · subst h2 h3
        have a1 := ctO_le (s := s) (H := H) (W := W) (n := n)
        have a2 := ctO_le (s := s) (H := H) (W := W) (n := k)
        have a3 := pgO_le (s := s) (n := n) hA
        have a4 := pgO_le (s := s) (n := k) hA
        dsimp only
        rw [if_neg (show ¬ (k : Int) = -9 by omega), if_neg (show ¬ (k : Int) < 0 by omega)]
        unfold rkO
        by_cases c1 : (ctO s H W k : Int) * 33 - (pgO s H W k : Int) ≤ (ctO s H W n : Int) * 33 - (pgO s H W n : Int)
        · rw [if_pos c1, if_neg (show ¬ (ctO s H W n : Int) < (ctO s H W k : Int) by omega)]
          refine ⟨k, h1, rfl, ?_⟩
          by_cases c2 : (ctO s H W n : Int) = (ctO s H W k : Int)
          · rw [if_pos c2, if_pos (show (pgO s H W n : Int) ≤ (pgO s H W k : Int) by omega)]
          · rw [if_neg c2]
        · rw [if_neg c1]
          refine ⟨n, hn, rfl, ?_⟩
          by_cases c2 : (ctO s H W n : Int) < (ctO s H W k : Int)
          · rw [if_pos c2]
          · rw [if_neg c2, if_pos (show (ctO s H W n : Int) = (ctO s H W k : Int) by omega), if_neg (show ¬ (pgO s H W n : Int) ≤ (pgO s H W k : Int) by omega)]
    obtain ⟨k, k1, k2, k3⟩ := hx
    rw [List.foldl_cons, List.foldl_cons, k2, k3]
    rcases ih (fun m hm => hL m (List.mem_cons_of_mem _ hm)) _ _ (Or.inr ⟨k, k1, rfl, rfl⟩) with ⟨⟨hl, _⟩, -⟩ | h
    · subst hl
      exact Or.inr ⟨k, k1, rfl, rfl⟩
    · exact Or.inr h
theorem o_best {v : Int} : opM Inv (f_X9_best 0 v) (f_X10_best 323 v) := by
  intro R hI
  obtain ⟨H, W, g0, w, r⟩ := hI.1.1
  have hA := area_le w.1 w.2.1
  unfold f_X9_best f_X10_best f_X9_bestFolds
  rw [in9, Option.bind_some]
  by_cases hv : 0 ≤ v ∧ v ≤ 2
  · obtain ⟨R1, a1, a2⟩ := bt9_lp w 6000 341 0 R (-9, 0) (by omega) (by omega) r
    have r1 : DR R1 2 (R 324) H W g0 := r.fr w (fun q j _ _ => a1 q j (by omega))
    have hl := (bkL_eq H (len_mem w.1) W (len_mem w.2.1))
    have hL := hl.1
    unfold bkL at hL hl
    have e9 := foldl_flt (f := b9F (R 324) H W) (p := fun n => (gbk H W (n : Int)).isSome) (fun st n h => by unfold b9F; rw [if_neg (by rw [h]; decide)]) ((List.range' 0 341).map (rofN 4)) (-9, 0)
    have e10 := foldl_flt (f := b10F (R 324) H W) (p := fun n => (gbk H W (n : Int)).isSome) (fun st n h => by unfold b10F; rw [if_neg (by rw [h]; decide)]) (List.range' 0 5000) (-1, 0, 0)
    rw [← List.range_eq_range'] at e9 e10
    rw [hL] at e9
    have rel := bt_rel (s := R 324) hA ((List.range 5000).filter (fun n => (gbk H W (n : Int)).isSome)) (fun n hn => (List.mem_filter.mp hn).2) (-9, 0) (-1, 0, 0) (Or.inl ⟨trivial, rfl, rfl⟩)
    rw [← e9, ← e10] at rel
    rcases rel with ⟨⟨h, -⟩, -⟩ | ⟨n, n1, n2, n3⟩
    · exact absurd h hl.2
    · rw [z0, ← List.range_eq_range', n2] at a2
      have a2' : lp_X9_bestFolds_7 0 6000 (-9) 0 0 R (fun z15 z16 z17 R18 => some (z15, R18)) = some ((n : Int), R1) := a2 _
      obtain ⟨vb, u1, u2, u3⟩ : ∃ v : Int × xN, lp_X9_bestFolds_7 0 6000 (-9) 0 0 R (fun z15 z16 z17 R18 => some (z15, R18)) = some v ∧ v.1 = (n : Int) ∧ v.2 = R1 := ⟨_, a2', rfl, rfl⟩
      -- what the class answers, and where
      have cls : ∃ R3, kTri R R3 ∧ (if decide (0 ≤ v ∧ v ≤ 2) = true then (lp_X9_bestFolds_7 0 6000 (-9) 0 0 R (fun z15 z16 z17 R18 => some (z15, R18))).bind (fun v3 => if v = 0 then some (v3.1, v3.2) else if v = 1 then (f_X9_cutsFor 0 v3.1 v3.2).bind (fun v6 => (f_J6_bitCount_0f7a4 v6.1 v6.2).bind (fun v7 => some (v7, v6.2))) else (f_X9_readsBy 0 v3.1 v3.2).bind (fun v8 => some (v8.1, v8.2))) else some ((-1), R)) = some (if v = 0 then (n : Int) else if v = 1 then (ctO (R 324) H W n : Int) else (pgO (R 324) H W n : Int), R3) := by
        rw [if_pos (decide_eq_true hv), u1, Option.bind_some, u2, u3]
        by_cases v0 : v = 0
        · rw [if_pos v0, if_pos v0]
          exact ⟨R1, a1, rfl⟩
        · rw [if_neg v0, if_neg v0]
          obtain ⟨R3, b1, b2, b3⟩ := try9 (i := (n : Int)) w r1
          obtain ⟨v9, p1, p2, p3⟩ : ∃ v : Bool × xN, f_X9_tryFolds 0 (n : Int) R1 = some v ∧ v.1 = (gbk H W (n : Int)).isSome ∧ v.2 = R3 := ⟨_, b1, rfl, rfl⟩
          have k3 : kTri R R3 := fun q j h => by rw [b2 q j h, a1 q j h]
          have r3 : DR R3 2 (R 324) H W g0 := r1.fr w (fun q j _ _ => b2 q j (by omega))
          cases hg : gbk H W (n : Int) with
          | none => rw [hg] at n1; cases n1
          | some g =>
            have hct : ctO (R 324) H W n = ones (ecC H W g.2.2.2 (spE (R 324)) 0 4 0) := by unfold ctO; rw [hg]; rfl
            have hpg : pgO (R 324) H W n = opg (R 324) W g.2.2.2 0 (2 * (H * W)) := by unfold pgO; rw [hg]; rfl
            obtain ⟨l1, l2, l3⟩ := b3 g hg
            by_cases v1 : v = 1
            · have hlt := ecC_lt (H := H) (W := W) (sp := spE (R 324)) (t := g.2.2.2) 4 0 0 (by omega) (by omega)
              have hbc := bc_eq (R := R3) (v := (ecC H W g.2.2.2 (spE (R 324)) 0 4 0 : Int)) (by omega)
              rw [tnc, ← hct] at hbc
              rw [if_pos v1, if_pos v1]
              unfold f_X9_cutsFor
              refine ⟨R3, k3, ?_⟩
              rw [p1, Option.bind_some, p2, p3, if_pos n1, show 0 + 2 = 2 from rfl, show 0 + 311 = 311 from rfl, etc9 r3.2.2.2.2.1 l1.1 l2 l3, Option.bind_some, Option.bind_some, hbc, Option.bind_some]
            · have hpo := pio9 (pr_of w r3) l1
              rw [← hpg] at hpo
              rw [if_neg v1, if_neg v1]
              unfold f_X9_readsBy
              refine ⟨R3, k3, ?_⟩
              rw [p1, Option.bind_some, p2, p3, if_pos n1, show 0 + 2 = 2 from rfl, show 0 + 311 = 311 from rfl, hpo, Option.bind_some, Option.bind_some]
      obtain ⟨R3, k3, cls⟩ := cls
      have hI3 := hI.sc k3.sc
      have h324 : R3 324 = R 324 := funext fun j => k3 324 j (by omega)
      obtain ⟨R2, b1, b2⟩ := bt10_lp (p1 := v) w 6000 5000 0 R3 (-1, 0, 0) (by omega) (by omega) h324
      rw [z0, ← List.range_eq_range', n3] at b2
      refine ⟨_, R3, R2, cls, ?_, hI3.sc b1.sc⟩
      rw [in10, Option.bind_some, if_pos (decide_eq_true hv)]
      refine (b2 _).trans ?_
      by_cases v0 : v = 0
      · rw [if_pos v0, if_pos v0]
      · rw [if_neg v0, if_neg v0, xlet_eq]
  · refine ⟨-1, R, R, ?_, ?_, hI⟩
    · rw [decide_eq_false hv, if_neg (by decide)]
    · rw [in10, Option.bind_some, decide_eq_false hv, if_neg (by decide)]
