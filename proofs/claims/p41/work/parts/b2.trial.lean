/-! Other rows of folds: readsBy, cutsFor, fitting, best. -/
theorem reads9 {R : xN} {s : Nat → Int} {hs : List (Nat → Int)} {H W : Nat} {g g' : gG} {i : Int} (c : CI R s hs) (w : SW s H W g) (hg : gbk H W i = some g') : ∃ R', f_X9_readsBy 0 i R = some ((opg s W g'.2.2.2 0 (2 * (H * W)) : Int), R') ∧ CI R' s hs := by
  have r := c.dr w
  obtain ⟨R1, a1, a2, a3⟩ := try9 (i := i) w r
  obtain ⟨v9, p1, p2, p3⟩ : ∃ v : Bool × xN, f_X9_tryFolds 0 i R = some v ∧ v.1 = (gbk H W i).isSome ∧ v.2 = R1 := ⟨_, a1, rfl, rfl⟩
  obtain ⟨l1, -, -⟩ := a3 g' hg
  have hP : PR R1 s H W := pr_of w (r.fr w (fun q j _ _ => a2 q j (by omega)))
  rw [hg] at p2
  refine ⟨R1, ?_, c.tri a2⟩
  unfold f_X9_readsBy
  rw [p1, Option.bind_some, p2, p3, if_pos (by rfl), show 0 + 2 = 2 from rfl, show 0 + 311 = 311 from rfl, pio9 hP l1, Option.bind_some]
theorem cuts9 {R : xN} {s : Nat → Int} {hs : List (Nat → Int)} {H W : Nat} {g g' : gG} {i : Int} (c : CI R s hs) (w : SW s H W g) (hg : gbk H W i = some g') : ∃ R', f_X9_cutsFor 0 i R = some ((ecC H W g'.2.2.2 (spE s) 0 4 0 : Int), R') ∧ CI R' s hs := by
  have r := c.dr w
  obtain ⟨R1, a1, a2, a3⟩ := try9 (i := i) w r
  obtain ⟨v9, p1, p2, p3⟩ : ∃ v : Bool × xN, f_X9_tryFolds 0 i R = some v ∧ v.1 = (gbk H W i).isSome ∧ v.2 = R1 := ⟨_, a1, rfl, rfl⟩
  obtain ⟨l1, l0, lw⟩ := a3 g' hg
  have h5 : R1 2 5 = s 7 := by rw [a2 2 5 (by omega)]; exact r.2.2.2.2.1
  rw [hg] at p2
  refine ⟨R1, ?_, c.tri a2⟩
  unfold f_X9_cutsFor
  rw [p1, Option.bind_some, p2, p3, if_pos (by rfl), show 0 + 2 = 2 from rfl, show 0 + 311 = 311 from rfl, etc9 h5 l1.1 l0 lw, Option.bind_some]
/-- the rows of folds of a sheet, one behind another -/
def bkA (H W : Nat) : List Nat := (List.range 5000).filter (fun n => (gbk H W (n : Int)).isSome)
theorem bkA_sorted {H W : Nat} : (bkA H W).Pairwise (· < ·) := List.Pairwise.filter _ (by rw [List.range_eq_range']; exact List.pairwise_lt_range')
theorem bkA_mem {H W n : Nat} {g : gG} (h : gbk H W (n : Int) = some g) : n ∈ bkA H W := by
  have := (gbk_some h).2.1
  exact List.mem_filter.mpr ⟨List.mem_range.mpr (by omega), by rw [h]; rfl⟩
theorem bkA_some {H W n : Nat} (h : n ∈ bkA H W) : (gbk H W (n : Int)).isSome = true := (List.mem_filter.mp h).2
theorem stF_fold {hit : Nat → Bool} : ∀ (L : List Nat) (st : Int × Int × Int), 0 ≤ st.1 → L.Pairwise (· < ·) → (st.1 ≠ 0 → ∀ x ∈ L, st.2.1 ≤ (x : Int)) → (∀ x ∈ L, st.2.2 ≤ (x : Int)) → st.1 ≤ (L.foldl (stF hit) st).1 ∧ (st.1 ≠ 0 → (L.foldl (stF hit) st).2.1 = st.2.1) ∧ st.2.2 ≤ (L.foldl (stF hit) st).2.2 ∧ ∀ n ∈ L, hit n = true → 1 ≤ (L.foldl (stF hit) st).1 ∧ (L.foldl (stF hit) st).2.1 ≤ (n : Int) ∧ (n : Int) ≤ (L.foldl (stF hit) st).2.2 := by
  intro L
  induction L with
  | nil => intro st _ _ _ _; exact ⟨Int.le_refl _, fun _ => rfl, Int.le_refl _, fun n h => absurd h List.not_mem_nil⟩
  | cons x L ih =>
    intro st h0 hp h1 h2
    obtain ⟨q1, q2⟩ := List.pairwise_cons.mp hp
    rw [List.foldl_cons]
    by_cases hx : hit x = true
    · have e : stF hit st x = (st.1 + 1, (if st.1 = 0 then (x : Int) else st.2.1), (x : Int)) := by unfold stF; rw [if_pos hx]
      rw [e]
      have hle : ∀ y ∈ L, (x : Int) ≤ (y : Int) := fun y hy => by have := q1 y hy; omega
      obtain ⟨i1, i2, i3, i4⟩ := ih (st.1 + 1, (if st.1 = 0 then (x : Int) else st.2.1), (x : Int)) (by show 0 ≤ st.1 + 1; omega) q2 (fun _ y hy => by
        show (if st.1 = 0 then (x : Int) else st.2.1) ≤ (y : Int)
        by_cases hz : st.1 = 0
        · rw [if_pos hz]; exact hle y hy
        · rw [if_neg hz]; exact h1 hz y (List.mem_cons_of_mem _ hy)) hle
      have j2 := i2 (by show st.1 + 1 ≠ 0; omega)
      have hx2 := h2 x List.mem_cons_self
      have i1' : st.1 + 1 ≤ _ := i1
      have i3' : (x : Int) ≤ _ := i3
      refine ⟨by omega, fun hz => ?_, by omega, fun n hn hh => ?_⟩
      · rw [j2]
        show (if st.1 = 0 then (x : Int) else st.2.1) = st.2.1
        rw [if_neg hz]
      · rcases List.mem_cons.mp hn with rfl | hn
        · refine ⟨by omega, ?_, i3'⟩
          rw [j2]
          show (if st.1 = 0 then (n : Int) else st.2.1) ≤ (n : Int)
          by_cases hz : st.1 = 0
          · rw [if_pos hz]; exact Int.le_refl _
          · rw [if_neg hz]; exact h1 hz n List.mem_cons_self
        · exact i4 n hn hh
    · have e : stF hit st x = st := by unfold stF; rw [if_neg hx]
      rw [e]
      obtain ⟨i1, i2, i3, i4⟩ := ih st h0 q2 (fun hz y hy => h1 hz y (List.mem_cons_of_mem _ hy)) (fun y hy => h2 y (List.mem_cons_of_mem _ hy))
      refine ⟨i1, i2, i3, fun n hn hh => ?_⟩
      rcases List.mem_cons.mp hn with rfl | hn
      · exact absurd hh hx
      · exact i4 n hn hh
theorem fit9 {R : xN} {s : Nat → Int} {hs : List (Nat → Int)} {H W m : Nat} {g0 : gG} {v : Int} (c : CI R s hs) (w : SW s H W g0) (hm : s 12 = (m : Int)) (hv : 0 ≤ v ∧ v ≤ 2) : ∃ R', f_X9_fitting 0 v R = some (if v = 0 then ((bkA H W).foldl (stF (hitF s H W m)) (0, -9, -9)).1 else if v = 1 then ((bkA H W).foldl (stF (hitF s H W m)) (0, -9, -9)).2.1 else ((bkA H W).foldl (stF (hitF s H W m)) (0, -9, -9)).2.2, R') ∧ CI R' s hs := by
  have r := c.dr w
  obtain ⟨R1, a1, a2⟩ := ft9_lp (p1 := v) w hm 6000 341 0 R (0, -9, -9) (by omega) (by omega) r (by decide) (by decide) (by decide)
  have hnh : ∀ (st : Int × Int × Int) (n : Nat), (gbk H W (n : Int)).isSome = false → stF (hitF s H W m) st n = st := fun st n h => by
    unfold stF hitF
    cases hg : gbk H W (n : Int) with
    | none => rw [Option.map_none, Option.getD_none, if_neg (by decide)]
    | some g => rw [hg] at h; cases h
  have hL := (bkL_eq H (len_mem w.1) W (len_mem w.2.1)).1
  unfold bkL at hL
  have e9 := foldl_flt (f := stF (hitF s H W m)) (p := fun n => (gbk H W (n : Int)).isSome) hnh ((List.range' 0 341).map (rofN 4)) (0, -9, -9)
  rw [← List.range_eq_range', hL] at e9
  rw [z0, ← List.range_eq_range', e9] at a2
  unfold f_X9_fitting
  unfold bkA
  generalize ((List.range 5000).filter (fun n : Nat => (gbk H W (n : Int)).isSome)).foldl (stF (hitF s H W m)) (0, -9, -9) = st at *
  refine ⟨R1, ?_, c.tri a1⟩
  rw [in9, Option.bind_some, if_pos (decide_eq_true hv)]
  refine (a2 _).trans ?_
  by_cases v0 : v = 0
  · rw [if_pos v0, if_pos v0]
  · rw [if_neg v0, if_neg v0, xlet_eq]
theorem fitA {s : Nat → Int} {H W m n : Nat} {g : gG} (hg : gbk H W (n : Int) = some g) (hh : snA s W g.2.2.2 0 m = true) : 1 ≤ ((bkA H W).foldl (stF (hitF s H W m)) (0, -9, -9)).1 ∧ ((bkA H W).foldl (stF (hitF s H W m)) (0, -9, -9)).2.1 ≤ (n : Int) ∧ (n : Int) ≤ ((bkA H W).foldl (stF (hitF s H W m)) (0, -9, -9)).2.2 := by
  have := (stF_fold (hit := hitF s H W m) (bkA H W) (0, -9, -9) (by decide) bkA_sorted (fun h => absurd rfl h) (fun x _ => by show (-9 : Int) ≤ (x : Int); omega)).2.2.2 n (bkA_mem hg) (by unfold hitF; rw [hg]; exact hh)
  exact this
theorem snA_of {s : Nat → Int} {W : Nat} {t : Nat → Nat} : ∀ (c k : Nat), (∀ j, k ≤ j → j < k + c → snB s W t j = true) → snA s W t k c = true := by
  intro c
  induction c with
  | zero => intro k _; rfl
  | succ c ih =>
    intro k h
    show (snB s W t k && snA s W t (k + 1) c) = true
    rw [h k (Nat.le_refl _) (by omega), ih (k + 1) (fun j h1 h2 => h j (by omega) (by omega))]
    rfl
theorem snB_own {s : Nat → Int} {W p k : Nat} {t : Nat → Nat} (ho : own s W t p) (h1 : s (13 + 3 * k) = (p : Int)) (h2 : s (14 + 3 * k) = (p : Int)) (h3 : s (15 + 3 * k) = 0) : snB s W t k = true := by
  unfold snB
  rw [h1, h2, h3, Int.toNat_natCast, decide_eq_true ho.1, decide_eq_true ho.2]
  rfl
/-- best: the least of the ranks -/
def bst (s : Nat → Int) (H W : Nat) : Int × Int := (bkA H W).foldl (b9F s H W) (-9, 0)
theorem b9_fold {s : Nat → Int} {H W : Nat} : ∀ (L : List Nat) (k : Nat), (∀ n ∈ L, (gbk H W (n : Int)).isSome = true) → (gbk H W (k : Int)).isSome = true → ∃ n : Nat, L.foldl (b9F s H W) ((k : Int), rkO s H W k) = ((n : Int), rkO s H W n) ∧ (gbk H W (n : Int)).isSome = true ∧ rkO s H W n ≤ rkO s H W k ∧ ∀ m ∈ L, rkO s H W n ≤ rkO s H W m := by
  intro L
  induction L with
  | nil => intro k _ hk; exact ⟨k, rfl, hk, Int.le_refl _, fun m h => absurd h List.not_mem_nil⟩
  | cons x L ih =>
    intro k hL hk
    have hx := hL x List.mem_cons_self
    have hL' : ∀ n ∈ L, (gbk H W (n : Int)).isSome = true := fun n hn => hL n (List.mem_cons_of_mem _ hn)
    rw [List.foldl_cons]
    by_cases hc : rkO s H W k ≤ rkO s H W x
    · have e : b9F s H W ((k : Int), rkO s H W k) x = ((k : Int), rkO s H W k) := by
        unfold b9F
        rw [if_pos hx, if_neg (show ¬ (k : Int) = -9 by omega), if_pos hc]
      rw [e]
      obtain ⟨n, a, b, d, f⟩ := ih k hL' hk
      refine ⟨n, a, b, d, fun m hm => ?_⟩
      rcases List.mem_cons.mp hm with rfl | hm
      · omega
      · exact f m hm
    · have e : b9F s H W ((k : Int), rkO s H W k) x = ((x : Int), rkO s H W x) := by
        unfold b9F
        rw [if_pos hx, if_neg (show ¬ (k : Int) = -9 by omega), if_neg hc]
      rw [e]
      obtain ⟨n, a, b, d, f⟩ := ih x hL' hx
      refine ⟨n, a, b, by omega, fun m hm => ?_⟩
      rcases List.mem_cons.mp hm with rfl | hm
      · exact d
      · exact f m hm
theorem bst_ex {s : Nat → Int} {H W n0 : Nat} {g0 : gG} (h0 : gbk H W (n0 : Int) = some g0) : ∃ (n : Nat) (g : gG), bst s H W = ((n : Int), rkO s H W n) ∧ gbk H W (n : Int) = some g ∧ rkO s H W n ≤ rkO s H W n0 := by
  have hm := bkA_mem h0
  have hL : ∀ n ∈ bkA H W, (gbk H W (n : Int)).isSome = true := fun n hn => bkA_some hn
  unfold bst
  generalize bkA H W = L at *
  cases L with
  | nil => exact absurd hm List.not_mem_nil
  | cons x L =>
    rw [List.foldl_cons]
    have hx := hL x List.mem_cons_self
    have e : b9F s H W (-9, 0) x = ((x : Int), rkO s H W x) := by
      unfold b9F
      rw [if_pos hx, if_pos rfl]
    rw [e]
    obtain ⟨n, a, b, d, f⟩ := b9_fold L x (fun n hn => hL n (List.mem_cons_of_mem _ hn)) hx
    obtain ⟨g, hg⟩ := Option.isSome_iff_exists.mp b
    refine ⟨n, g, a, hg, ?_⟩
    rcases List.mem_cons.mp hm with rfl | hm
    · exact d
    · exact f n0 hm
theorem best9 {R : xN} {s : Nat → Int} {hs : List (Nat → Int)} {H W n : Nat} {g0 g : gG} {v : Int} (c : CI R s hs) (w : SW s H W g0) (hn : bst s H W = ((n : Int), rkO s H W n)) (hg : gbk H W (n : Int) = some g) (hv : 0 ≤ v ∧ v ≤ 2) : ∃ R', f_X9_best 0 v R = some (if v = 0 then (n : Int) else if v = 1 then (ones (ecC H W g.2.2.2 (spE s) 0 4 0) : Int) else (opg s W g.2.2.2 0 (2 * (H * W)) : Int), R') ∧ CI R' s hs := by
  have r := c.dr w
  obtain ⟨R1, a1, a2⟩ := bt9_lp w 6000 341 0 R (-9, 0) (by omega) (by omega) r
  have hL := (bkL_eq H (len_mem w.1) W (len_mem w.2.1)).1
  unfold bkL at hL
  have e9 := foldl_flt (f := b9F s H W) (p := fun n => (gbk H W (n : Int)).isSome) (fun st n h => by unfold b9F; rw [if_neg (by rw [h]; decide)]) ((List.range' 0 341).map (rofN 4)) (-9, 0)
  rw [← List.range_eq_range', hL] at e9
  unfold bst bkA at hn
  rw [z0, ← List.range_eq_range', e9, hn] at a2
  have a2' : lp_X9_bestFolds_7 0 6000 (-9) 0 0 R (fun z15 z16 z17 R18 => some (z15, R18)) = some ((n : Int), R1) := a2 _
  have c1 := c.tri a1
  obtain ⟨vb, u1, u2, u3⟩ : ∃ v : Int × xN, lp_X9_bestFolds_7 0 6000 (-9) 0 0 R (fun z15 z16 z17 R18 => some (z15, R18)) = some v ∧ v.1 = (n : Int) ∧ v.2 = R1 := ⟨_, a2', rfl, rfl⟩
  unfold f_X9_best f_X9_bestFolds
  rw [in9, Option.bind_some, if_pos (decide_eq_true hv), u1, Option.bind_some, u2, u3]
  by_cases v0 : v = 0
  · rw [if_pos v0, if_pos v0]
    exact ⟨R1, rfl, c1⟩
  · rw [if_neg v0, if_neg v0]
    by_cases v1 : v = 1
    · rw [if_pos v1, if_pos v1]
      obtain ⟨R3, b1, b2⟩ := cuts9 c1 w hg
      have hlt := ecC_lt (H := H) (W := W) (sp := spE s) (t := g.2.2.2) 4 0 0 (by omega) (by omega)
      obtain ⟨vc, d1, d2, d3⟩ : ∃ v : Int × xN, f_X9_cutsFor 0 (n : Int) R1 = some v ∧ v.1 = (ecC H W g.2.2.2 (spE s) 0 4 0 : Int) ∧ v.2 = R3 := ⟨_, b1, rfl, rfl⟩
      have hbc := bc_eq (R := R3) (v := (ecC H W g.2.2.2 (spE s) 0 4 0 : Int)) (by omega)
      rw [tnc] at hbc
      refine ⟨R3, ?_, b2⟩
      rw [d1, Option.bind_some, d2, d3, hbc, Option.bind_some]
    · rw [if_neg v1, if_neg v1]
      obtain ⟨R3, b1, b2⟩ := reads9 c1 w hg
      refine ⟨R3, ?_, b2⟩
      rw [b1, Option.bind_some]
/-- the rank's two parts -/
theorem rk_cmp {s : Nat → Int} {H W n n0 : Nat} {g g0 : gG} (hA : H * W ≤ 16) (hg : gbk H W (n : Int) = some g) (h0 : gbk H W (n0 : Int) = some g0) (hr : rkO s H W n ≤ rkO s H W n0) : ones (ecC H W g.2.2.2 (spE s) 0 4 0) < ones (ecC H W g0.2.2.2 (spE s) 0 4 0) ∨ (ones (ecC H W g.2.2.2 (spE s) 0 4 0) = ones (ecC H W g0.2.2.2 (spE s) 0 4 0) ∧ opg s W g0.2.2.2 0 (2 * (H * W)) ≤ opg s W g.2.2.2 0 (2 * (H * W))) := by
  have hp := pgO_le (s := s) (n := n) hA
  have hp0 := pgO_le (s := s) (n := n0) hA
  have e1 : ctO s H W n = ones (ecC H W g.2.2.2 (spE s) 0 4 0) := by unfold ctO; rw [hg]; rfl
  have e2 : pgO s H W n = opg s W g.2.2.2 0 (2 * (H * W)) := by unfold pgO; rw [hg]; rfl
  have e3 : ctO s H W n0 = ones (ecC H W g0.2.2.2 (spE s) 0 4 0) := by unfold ctO; rw [h0]; rfl
  have e4 : pgO s H W n0 = opg s W g0.2.2.2 0 (2 * (H * W)) := by unfold pgO; rw [h0]; rfl
  unfold rkO at hr
  rw [← e1, ← e2, ← e3, ← e4]
  omega
/-- all pages its own: all are in order -/
theorem opg_own {s : Nat → Int} {W : Nat} {t : Nat → Nat} : ∀ (c p : Nat), (∀ q, p ≤ q → q < p + c → own s W t q) → opg s W t p c = p + c := by
  intro c
  induction c with
  | zero => intro p _; rfl
  | succ c ih =>
    intro p h
    have h' : s (90 + kS W (t (p / 2)) p) = (p : Int) ∧ s (122 + kS W (t (p / 2)) p) = (tU s (t (p / 2)) p : Int) := h p (Nat.le_refl _) (by omega)
    unfold opg
    rw [if_pos h', ih (p + 1) (fun q h1 h2 => h q (by omega) (by omega))]
    omega
