/-! Other folds: the rows of folds; fitting. -/
def rofN : Nat → Nat → Nat
  | 0, _ => 0
  | k + 1, r => if r = 0 then 0 else (r - 1) % 4 + 1 + 10 * rofN k ((r - 1) / 4)
theorem rof_R {R R' : xN} {X : Int → Int → Int → Option Int} : ∀ (m : Nat) (y1 y2 y3 : Int), lp_X9_rowOfFolds_6 R m y1 y2 y3 X = lp_X9_rowOfFolds_6 R' m y1 y2 y3 X := by
  intro m
  induction m with
  | zero => intro y1 y2 y3; rw [lp_X9_rowOfFolds_6, lp_X9_rowOfFolds_6]
  | succ m ih =>
    intro y1 y2 y3
    rw [lp_X9_rowOfFolds_6, lp_X9_rowOfFolds_6]
    by_cases h1 : 1000 < y3
    · rw [if_pos h1, if_pos h1]
    · rw [if_neg h1, if_neg h1]
      by_cases h2 : y2 ≤ 0
      · rw [if_pos h2, if_pos h2]
      · rw [if_neg h2, if_neg h2, xlet_eq, xlet_eq, xlet_eq, xlet_eq, xlet_eq, xlet_eq]
        exact ih _ _ _
theorem rof_num : ∀ i : Nat, i < 341 → f_X9_rowOfFolds (i : Int) (fun _ _ => 0) = some (rofN 4 i : Int) := by decide +kernel
theorem rof9 {R : xN} {i : Nat} (h : i < 341) : f_X9_rowOfFolds (i : Int) R = some (rofN 4 i : Int) := by
  rw [← rof_num i h]
  unfold f_X9_rowOfFolds
  exact rof_R _ _ _ _
def bkL (H W : Nat) (L : List Nat) : List Nat := L.filter (fun n => (gbk H W (n : Int)).isSome)
set_option maxHeartbeats 8000000 in
theorem bkL_eq : ∀ H ∈ ([1, 2, 4] : List Nat), ∀ W ∈ ([1, 2, 4] : List Nat), bkL H W ((List.range 341).map (rofN 4)) = bkL H W (List.range 5000) ∧ bkL H W (List.range 5000) ≠ [] := by decide +kernel
theorem try9 {R : xN} {s : Nat → Int} {H W : Nat} {g0 : gG} {i : Int} (w : SW s H W g0) (r : DR R 2 s H W g0) : ∃ R1, f_X9_tryFolds 0 i R = some ((gbk H W i).isSome, R1) ∧ kTri R R1 ∧ ∀ g, gbk H W i = some g → LB R1 311 H W g.2.2.2 ∧ R1 311 0 = (H : Int) ∧ R1 311 1 = (W : Int) := by
  obtain ⟨R1, b1, b2, b3⟩ := cby (R := R) (b := 311) (i := i) w.1 w.2.1
  refine ⟨R1, ?_, fun q j h => b2 q j (by omega) (by omega) (by omega), fun g hg => ?_⟩
  · unfold f_X9_tryFolds
    rw [show R (0 + 3) 0 = (H : Int) from r.1, show R (0 + 3) 1 = (W : Int) from r.2.1, show 0 + 311 = 311 from rfl, b1]
    rfl
  · obtain ⟨c1, c2, c3, fn, c4⟩ := b3 g hg
    exact ⟨lb_of c3 c4 ⟨c1, c2⟩, c4.1, c4.2.1⟩
def hitF (s : Nat → Int) (H W m n : Nat) : Bool := ((gbk H W (n : Int)).map (fun g => snA s W g.2.2.2 0 m)).getD false
def stF (hit : Nat → Bool) (st : Int × Int × Int) (n : Nat) : Int × Int × Int := if hit n = true then (st.1 + 1, (if st.1 = 0 then (n : Int) else st.2.1), (n : Int)) else st
theorem foldl_flt {α : Type} {f : α → Nat → α} {p : Nat → Bool} (h : ∀ a n, p n = false → f a n = a) : ∀ (L : List Nat) (a : α), L.foldl f a = (L.filter p).foldl f a := by
  intro L
  induction L with
  | nil => intro a; rfl
  | cons n L ih =>
    intro a
    cases hp : p n with
    | true => rw [List.filter_cons_of_pos hp, List.foldl_cons, List.foldl_cons]; exact ih _
    | false => rw [List.filter_cons_of_neg (by rw [hp]; decide), List.foldl_cons, h a n hp]; exact ih _
theorem sees9 {R : xN} {s : Nat → Int} {H W m : Nat} {g0 : gG} {t : Nat → Nat} (w : SW s H W g0) (r : DR R 2 s H W g0) (h : LB R 311 H W t) (hm : s 12 = (m : Int)) : f_X0_showsAllSights 2 311 R = some (snA s W t 0 m) := by
  obtain ⟨k1, k2, k3, k4, k5, k6, k7, k8, k9, k10, k11, k12, k13, k14, k15, k16, k17⟩ := id w
  obtain ⟨r1, r2, r3, r4, r5, r6, r7, r8, r9, r10, r11, r12, r13, r14⟩ := id r
  have := see9 (m := m) (X := fun z19 => some true) (pr_of w r) h (by omega) (fun k hk => ⟨(k14 k (by omega)).1, (k14 k (by omega)).2.1.1⟩) (r10.trans hm) (fun k hk => r11 k (by omega)) (fun _ => rfl) 6000 m 0 (by omega) (by omega)
  unfold f_X0_showsAllSights
  exact this
theorem ft9_lp {s : Nat → Int} {H W m : Nat} {g0 : gG} {p1 : Int} (w : SW s H W g0) (hm : s 12 = (m : Int)) : ∀ (n c i : Nat) (R : xN) (st : Int × Int × Int), c < n → i + c = 341 → DR R 2 s H W g0 → 0 ≤ st.1 → st.1 ≤ (i : Int) → (st.2.1 = -9 ↔ st.1 = 0) → ∃ R', kTri R R' ∧ ∀ X : Int → Int → Int → Int → xN → Option (Int × xN), lp_X9_fitting_23 0 p1 n st.1 st.2.1 st.2.2 (i : Int) R X = X (((List.range' i c).map (rofN 4)).foldl (stF (hitF s H W m)) st).1 (((List.range' i c).map (rofN 4)).foldl (stF (hitF s H W m)) st).2.1 (((List.range' i c).map (rofN 4)).foldl (stF (hitF s H W m)) st).2.2 341 R' := by
  intro n
  induction n with
  | zero => intro c i R st h; omega
  | succ n ih =>
    intro c i R st h1 h2 r s0 s1 s2
    cases c with
    | zero =>
      refine ⟨R, fun _ _ _ => rfl, fun X => ?_⟩
      rw [lp_X9_fitting_23, if_pos (by omega), show i = 341 by omega]
      rfl
    | succ c =>
      have e5 : Qe (w4 ((i : Int) + 1)) ((i + 1 : Nat) : Int) := by unfold Qe; rw [w4_of (by omega)]; omega
      have e6 : Qe (w4 (st.1 + 1)) (st.1 + 1) := by unfold Qe; rw [w4_of (by omega)]
      obtain ⟨R1, a1, a2, a3⟩ := try9 (i := (rofN 4 i : Int)) w r
      have r' : DR R1 2 s H W g0 := r.fr w (fun q j _ _ => a2 q j (by omega))
      obtain ⟨v9, p1', p2, p3⟩ : ∃ v : Bool × xN, f_X9_tryFolds 0 (rofN 4 i : Int) R = some v ∧ v.1 = (gbk H W (rofN 4 i : Int)).isSome ∧ v.2 = R1 := ⟨_, a1, rfl, rfl⟩
      have hcons : ∀ st', ((List.range' i (c + 1)).map (rofN 4)).foldl (stF (hitF s H W m)) st' = ((List.range' (i + 1) c).map (rofN 4)).foldl (stF (hitF s H W m)) (stF (hitF s H W m) st' (rofN 4 i)) := fun _ => rfl
      have step : ∀ X : Int → Int → Int → Int → xN → Option (Int × xN), lp_X9_fitting_23 0 p1 (n + 1) st.1 st.2.1 st.2.2 (i : Int) R X = lp_X9_fitting_23 0 p1 n (stF (hitF s H W m) st (rofN 4 i)).1 (stF (hitF s H W m) st (rofN 4 i)).2.1 (stF (hitF s H W m) st (rofN 4 i)).2.2 ((i + 1 : Nat) : Int) R1 X := fun X => by
        rw [lp_X9_fitting_23, if_neg (by omega), rof9 (by omega), Option.bind_some, p1', Option.bind_some, p2, p3]
        unfold stF hitF
        cases hg : gbk H W (rofN 4 i : Int) with
        | none =>
          rw [if_neg (by decide), xlet_eq, e5.eq, Option.map_none, Option.getD_none, if_neg (by decide)]
        | some g =>
          rw [if_pos (by rfl), show 0 + 2 = 2 from rfl, show 0 + 311 = 311 from rfl, sees9 w r' (a3 g hg).1 hm, Option.bind_some, Option.map_some, Option.getD_some]
          cases hb : snA s W g.2.2.2 0 m with
          | false => rw [if_neg (by decide), xlet_eq, e5.eq, if_neg (by decide)]
          | true =>
            rw [if_pos rfl, xlet_eq, xlet_eq, xlet_eq, e5.eq, e6.eq, if_pos rfl]
            by_cases c0 : st.1 = 0
            · rw [if_pos (s2.mpr c0), if_pos c0]
            · rw [if_neg (fun h => c0 (s2.mp h)), if_neg c0]
      have inv : 0 ≤ (stF (hitF s H W m) st (rofN 4 i)).1 ∧ (stF (hitF s H W m) st (rofN 4 i)).1 ≤ ((i + 1 : Nat) : Int) ∧ ((stF (hitF s H W m) st (rofN 4 i)).2.1 = -9 ↔ (stF (hitF s H W m) st (rofN 4 i)).1 = 0) := by
        unfold stF
        by_cases hh : hitF s H W m (rofN 4 i) = true
        · rw [if_pos hh]
          refine ⟨by show 0 ≤ st.1 + 1; omega, by show st.1 + 1 ≤ _; omega, ?_⟩
          show (if st.1 = 0 then ((rofN 4 i : Nat) : Int) else st.2.1) = -9 ↔ st.1 + 1 = 0
          by_cases c0 : st.1 = 0
          · rw [if_pos c0]; omega
          · rw [if_neg c0, s2]; omega
        · rw [if_neg hh]
          exact ⟨s0, by omega, s2⟩
      obtain ⟨R', b1, b2⟩ := ih c (i + 1) R1 (stF (hitF s H W m) st (rofN 4 i)) (by omega) (by omega) r' inv.1 inv.2.1 inv.2.2
      refine ⟨R', fun q j h => by rw [b1 q j h, a2 q j h], fun X => ?_⟩
      rw [hcons, step, b2]
