/-! The open sheet, folded by a list of folds: class and model. -/
abbrev gG : Type := Nat × Nat × Nat × (Nat → Nat)
def gt0 (W i : Nat) : Nat := 4 * (i / W) + i % W
def gg0 (H W : Nat) : gG := (H, W, 0, gt0 W)
def gput (f : Nat) (g : gG) : gG := (gr f g.1, gc f g.2.1, g.2.2.1 + 1, gfold f g.1 g.2.1 (2 ^ g.2.2.1) g.2.2.2)
def gok (f : Nat) (g : gG) : Bool := decide (1 ≤ f ∧ f ≤ 4) && gcan f g.1 g.2.1
def gall : List Nat → gG → Option gG
  | [], g => some g
  | f :: fs, g => if gok f g = true then gall fs (gput f g) else none
def GWg (H W : Nat) (g : gG) : Prop := GW H W g.1 g.2.1 g.2.2.1 g.2.2.2
def LRg (R : xN) (b H W : Nat) (g : gG) (fn : Nat) : Prop := LR R b H W g.1 g.2.1 g.2.2.1 fn g.2.2.2
theorem gok_of {f : Nat} {g : gG} (h : gok f g = true) : f ∈ [1, 2, 3, 4] ∧ gcan f g.1 g.2.1 = true := by
  unfold gok at h
  rw [Bool.and_eq_true, decide_eq_true_eq] at h
  refine ⟨?_, h.2⟩
  have : f = 1 ∨ f = 2 ∨ f = 3 ∨ f = 4 := by omega
  rcases this with rfl | rfl | rfl | rfl <;> decide
theorem gall_snoc {f : Nat} : ∀ {fs : List Nat} {g : gG}, gall (fs ++ [f]) g = (gall fs g).bind (fun g' => if gok f g' = true then some (gput f g') else none) := by
  intro fs
  induction fs with
  | nil => intro g; rfl
  | cons x xs ih =>
    intro g
    show (if gok x g = true then gall (xs ++ [f]) (gput x g) else none) = (if gok x g = true then gall xs (gput x g) else none).bind _
    by_cases h : gok x g = true
    · rw [if_pos h, if_pos h, ih]
    · rw [if_neg h, if_neg h]; rfl
theorem GWg.put {H W f : Nat} {g : gG} (h : GWg H W g) (hf : gok f g = true) : GWg H W (gput f g) := GW.step h (gok_of hf).1 (gok_of hf).2
theorem GWg.all {H W : Nat} : ∀ {fs : List Nat} {g g' : gG}, GWg H W g → gall fs g = some g' → GWg H W g' := by
  intro fs
  induction fs with
  | nil => intro g g' h e; cases e; exact h
  | cons x xs ih =>
    intro g g' h e
    have e' : (if gok x g = true then gall xs (gput x g) else none) = some g' := e
    by_cases hx : gok x g = true
    · rw [if_pos hx] at e'; exact ih (h.put hx) e'
    · rw [if_neg hx] at e'; cases e'
theorem gg0_w {H W : Nat} (hH : len H) (hW : len W) : GWg H W (gg0 H W) := by
  refine ⟨hH, hW, hH, hW, (by decide : 0 < 5), ?_, fun i hi => ?_⟩
  · show H * W * 2 ^ 0 = H * W
    omega
  · show gt0 W i < 64 ∧ gt0 W i % 16 / 4 < H ∧ gt0 W i % 4 < W
    unfold gt0
    rcases hH with rfl | rfl | rfl <;> rcases hW with rfl | rfl | rfl <;> omega
theorem can_eq {R : xN} {b H W fn f : Nat} {g : gG} (h : LRg R b H W g fn) (hw : GWg H W g) : f_X3_canFold b (f : Int) R = some (gok f g) := by
  obtain ⟨-, -, l2, l3, -, -, -⟩ := h
  unfold f_X3_canFold
  rw [l2, l3]
  unfold gok gcan
  by_cases h1 : f = 1
  · subst h1
    by_cases hc : g.2.1 ≤ 1
    · rw [if_pos (by decide), if_pos (by omega)]; simp; omega
    · rw [if_pos (by decide), if_neg (by omega)]; simp; omega
  by_cases h2 : f = 2
  · subst h2
    by_cases hc : g.2.1 ≤ 1
    · rw [if_neg (by decide), if_pos (by decide), if_pos (by omega)]; simp; omega
    · rw [if_neg (by decide), if_pos (by decide), if_neg (by omega)]; simp; omega
  by_cases h3 : f = 3
  · subst h3
    by_cases hc : g.1 ≤ 1
    · rw [if_neg (by decide), if_neg (by decide), if_pos (by decide), if_pos (by omega)]; simp; omega
    · rw [if_neg (by decide), if_neg (by decide), if_pos (by decide), if_neg (by omega)]; simp; omega
  by_cases h4 : f = 4
  · subst h4
    by_cases hc : g.1 ≤ 1
    · rw [if_neg (by decide), if_neg (by decide), if_neg (by decide), if_pos (by decide), if_pos (by omega)]; simp; omega
    · rw [if_neg (by decide), if_neg (by decide), if_neg (by decide), if_pos (by decide), if_neg (by omega)]; simp; omega
  rw [if_neg (by omega), if_neg (by omega), if_neg (by omega), if_neg (by omega)]
  have : decide (1 ≤ f ∧ f ≤ 4) = false := decide_eq_false (by omega)
  rw [this]; rfl
theorem lay_put {R : xN} {b H W fn f : Nat} {g : gG} (h : LRg R b H W g fn) (hw : GWg H W g) (hf : gok f g = true) (hfn : fn < 100000) : ∃ R', f_X3_lay b (f : Int) R = some R' ∧ LRg R' b H W (gput f g) (fn * 10 + f) ∧ ∀ q j : Nat, q ≠ b → q ≠ b + 1 → q ≠ b + 2 → R' q j = R q j :=
  lay_eq hw (gok_of hf).1 (gok_of hf).2 h hfn
theorem spread_put {R : xN} {b H W : Nat} (hH : len H) (hW : len W) : ∃ R', f_X3_spread b (H : Int) (W : Int) R = some R' ∧ LRg R' b H W (gg0 H W) 0 ∧ ∀ q j : Nat, q ≠ b → q ≠ b + 1 → R' q j = R q j := by
  refine ⟨_, spread_eq (r := (H : Int)) (c := (W : Int)) (by rcases hH with rfl | rfl | rfl <;> decide) (by rcases hW with rfl | rfl | rfl <;> decide), ⟨?_, ?_, ?_, ?_, ?_, ?_, fun i hi => ?_⟩, fun q j h1 h2 => ?_⟩
  · have : ¬ (b = b + 1) := by omega
    simp [xrow_get, xup_get]
  · simp [xrow_get, xup_get]
  · simp [xrow_get, xup_get, gg0]
  · simp [xrow_get, xup_get, gg0]
  · simp [xrow_get, xup_get]
  · simp [xrow_get, xup_get, gg0]
  · show xrow _ (b + 1) _ (b + 1) i = (gt0 W i : Int)
    rw [xrow_get, if_pos rfl]
    unfold gt0
    rcases hH with rfl | rfl | rfl <;> rcases hW with rfl | rfl | rfl <;> rw [if_pos (by omega)] <;> omega
  · simp only [xrow_get, xup_get, if_neg h1, if_neg h2]
/-- the digits of a row of folds, of k digits at most -/
def gdk : Nat → Nat → List Nat
  | 0, _ => []
  | k + 1, n => if n < 10 ^ k then gdk k n else (n / 10 ^ k % 10) :: gdk k n
def gfn (fn : Nat) (fs : List Nat) : Nat := fs.foldl (fun v f => v * 10 + f) fn
theorem tdig {n k : Nat} (hk : k < 4) (hn : n < 10000) : Int.tmod (w4 (Int.tdiv (n : Int) ((10 ^ k : Nat) : Int))) 10 = ((n / 10 ^ k % 10 : Nat) : Int) := by
  have e1 : Int.tdiv (n : Int) ((10 ^ k : Nat) : Int) = ((n / 10 ^ k : Nat) : Int) := by
    rw [Int.tdiv_eq_ediv_of_nonneg (by omega)]; rfl
  rw [e1, w4n (Nat.le_trans (Nat.div_le_self _ _) (by omega)), Int.tmod_eq_emod_of_nonneg (Int.natCast_nonneg _)]
  rfl
/-- where the loop stands with k digits to come -/
def gun (k : Nat) : Nat := if k = 0 then 0 else 10 ^ (k - 1)
theorem gun_step0 : ∀ k : Nat, k < 4 → w4 (Int.tdiv ((gun (k + 1) : Nat) : Int) 10) = ((gun k : Nat) : Int) := by decide +kernel
theorem gun_step : ∀ k : Nat, k < 4 → Qe (w4 (Int.tdiv ((gun (k + 1) : Nat) : Int) 10)) ((gun k : Nat) : Int) := gun_step0
theorem fnb {k fn d : Nat} (hk : k < 4) (h : fn < 10 ^ (4 - (k + 1))) (hd : d < 10) : fn < 1000 ∧ fn * 10 + d < 10 ^ (4 - k) := by
  have : k = 0 ∨ k = 1 ∨ k = 2 ∨ k = 3 := by omega
  rcases this with rfl | rfl | rfl | rfl <;> simp only [Nat.reduceAdd, Nat.reduceSub, Nat.reducePow] at h ⊢ <;> omega
theorem gdk_lt {k n : Nat} (h : n < 10 ^ k) : gdk (k + 1) n = gdk k n := by rw [gdk, if_pos h]
theorem gdk_ge {k n : Nat} (h : ¬ n < 10 ^ k) : gdk (k + 1) n = (n / 10 ^ k % 10) :: gdk k n := by rw [gdk, if_neg h]
theorem gall_cons {f : Nat} {fs : List Nat} {g : gG} : gall (f :: fs) g = if gok f g = true then gall fs (gput f g) else none := by rw [gall]
theorem gun_pos {k : Nat} : gun (k + 1) = 10 ^ k := by unfold gun; rw [if_neg (Nat.succ_ne_zero k), Nat.add_sub_cancel]
theorem cstep_lt {b n k m P U : Nat} {R : xN} {X : Int → xN → Option (Bool × xN)} (hP : 0 < P) (hst : Qe (w4 (Int.tdiv (P : Int) 10)) (U : Int)) (hlt : n < P) : lp_X3_foldBy_24 b (n : Int) (m + 1) (P : Int) R X = lp_X3_foldBy_24 b (n : Int) m (U : Int) R X := by
  rw [lp_X3_foldBy_24, if_neg (by omega), if_pos (by omega)]
  simp only [xlet]
  rw [hst.eq]
theorem cstep0 {b m : Nat} {p y : Int} {R : xN} {X : Int → xN → Option (Bool × xN)} (h1 : ¬ y ≤ 0) (h2 : ¬ p < y) (h3 : y ≠ 0) : lp_X3_foldBy_24 b p (m + 1) y R X = (f_X3_canFold b (Int.tmod (w4 (Int.tdiv p y)) 10) R).bind (fun v9 => if v9 = true then (f_X3_lay b (Int.tmod (w4 (Int.tdiv p y)) 10) R).bind (fun v11 => lp_X3_foldBy_24 b p m (w4 (Int.tdiv y 10)) v11 X) else some (false, R)) := by
  rw [lp_X3_foldBy_24, if_neg h1, if_neg h2, if_pos h3]
  rfl
theorem cstep_ge {b H W n m P U d fn : Nat} {R : xN} {g : gG} {X : Int → xN → Option (Bool × xN)} (hP : 0 < P) (hst : Qe (w4 (Int.tdiv (P : Int) 10)) (U : Int)) (hlt : ¬ n < P) (hd : Qe (Int.tmod (w4 (Int.tdiv (n : Int) (P : Int))) 10) (d : Int)) (hl : LRg R b H W g fn) (hw : GWg H W g) : lp_X3_foldBy_24 b (n : Int) (m + 1) (P : Int) R X = if gok d g = true then (f_X3_lay b (d : Int) R).bind (fun v11 => lp_X3_foldBy_24 b (n : Int) m (U : Int) v11 X) else some (false, R) := by
  have h1 : ¬ (P : Int) ≤ 0 := by omega
  have h2 : ¬ (n : Int) < (P : Int) := by omega
  have h3 : (P : Int) ≠ 0 := by omega
  have hc := can_eq (f := d) hl hw
  rw [cstep0 h1 h2 h3]
  unfold Qe at hst hd
  rw [hd, hc, hst]
  rfl
theorem pow_pos10 {k : Nat} : 0 < 10 ^ k := Nat.pow_pos (by decide)
theorem pow_mono10 {k : Nat} : 10 ^ (4 - (k + 1)) ≤ 10 ^ (4 - k) := Nat.pow_le_pow_right (by decide) (by omega)
def cres (b H W n k m fn : Nat) (R : xN) (g : gG) (R' : xN) : Prop := (∃ g', gall (gdk k n) g = some g' ∧ (∀ X : Int → xN → Option (Bool × xN), lp_X3_foldBy_24 b (n : Int) m (gun k : Int) R X = X 0 R') ∧ LRg R' b H W g' (gfn fn (gdk k n))) ∨ (gall (gdk k n) g = none ∧ ∀ X : Int → xN → Option (Bool × xN), lp_X3_foldBy_24 b (n : Int) m (gun k : Int) R X = some (false, R'))
theorem cres_lt {b H W n k m fn : Nat} {R R' : xN} {g : gG} (hk : k < 4) (hlt : n < 10 ^ k) (h : cres b H W n k m fn R g R') : cres b H W n (k + 1) (m + 1) fn R g R' := by
  have hst := gun_step k hk
  rw [gun_pos] at hst
  unfold cres at h ⊢
  rw [gdk_lt hlt, gun_pos]
  rcases h with ⟨g', h1, h2, h3⟩ | ⟨h1, h2⟩
  · exact Or.inl ⟨g', h1, fun X => (cstep_lt (k := k) pow_pos10 hst hlt).trans (h2 X), h3⟩
  · exact Or.inr ⟨h1, fun X => (cstep_lt (k := k) pow_pos10 hst hlt).trans (h2 X)⟩
theorem tdigq {n k : Nat} (hk : k < 4) (hn : n < 10000) : Qe (Int.tmod (w4 (Int.tdiv (n : Int) ((10 ^ k : Nat) : Int))) 10) ((n / 10 ^ k % 10 : Nat) : Int) := tdig hk hn
theorem cres_ge {b H W n k m fn : Nat} {R R1 R' : xN} {g : gG} (hn : n < 10000) (hk : k < 4) (hlt : ¬ n < 10 ^ k) (hl : LRg R b H W g fn) (hw : GWg H W g) (hf : gok (n / 10 ^ k % 10) g = true) (ha : f_X3_lay b ((n / 10 ^ k % 10 : Nat) : Int) R = some R1) (h : cres b H W n k m (fn * 10 + n / 10 ^ k % 10) R1 (gput (n / 10 ^ k % 10) g) R') : cres b H W n (k + 1) (m + 1) fn R g R' := by
  have hst := gun_step k hk
  rw [gun_pos] at hst
  have hX : ∀ X : Int → xN → Option (Bool × xN), lp_X3_foldBy_24 b (n : Int) (m + 1) ((10 ^ k : Nat) : Int) R X = lp_X3_foldBy_24 b (n : Int) m (gun k : Int) R1 X := fun X => by
    rw [cstep_ge pow_pos10 hst hlt (tdigq hk hn) hl hw, if_pos hf, ha, Option.bind_some]
  unfold cres at h ⊢
  rw [gdk_ge hlt, gun_pos, gall_cons, if_pos hf]
  rcases h with ⟨g', h1, h2, h3⟩ | ⟨h1, h2⟩
  · exact Or.inl ⟨g', h1, fun X => (hX X).trans (h2 X), h3⟩
  · exact Or.inr ⟨h1, fun X => (hX X).trans (h2 X)⟩
theorem cres_no {b H W n k m fn : Nat} {R : xN} {g : gG} (hn : n < 10000) (hk : k < 4) (hlt : ¬ n < 10 ^ k) (hl : LRg R b H W g fn) (hw : GWg H W g) (hf : ¬ gok (n / 10 ^ k % 10) g = true) : cres b H W n (k + 1) (m + 1) fn R g R := by
  have hst := gun_step k hk
  rw [gun_pos] at hst
  unfold cres
  rw [gdk_ge hlt, gun_pos, gall_cons, if_neg hf]
  exact Or.inr ⟨rfl, fun X => by rw [cstep_ge pow_pos10 hst hlt (tdigq hk hn) hl hw, if_neg hf]⟩
theorem cfold_lp {b H W n : Nat} (hn : n < 10000) : ∀ (k m : Nat) (R : xN) (g : gG) (fn : Nat), k ≤ 4 → k < m → GWg H W g → LRg R b H W g fn → fn < 10 ^ (4 - k) → ∃ R', (∀ q j : Nat, q ≠ b → q ≠ b + 1 → q ≠ b + 2 → R' q j = R q j) ∧ cres b H W n k m fn R g R' := by
  intro k
  induction k with
  | zero =>
    intro m R g fn _ hm hw hl _
    refine ⟨R, fun q j _ _ _ => rfl, Or.inl ⟨g, by rw [gdk, gall], fun X => ?_, by rw [gdk]; exact hl⟩⟩
    cases m with
    | zero => exact absurd hm (Nat.lt_irrefl 0)
    | succ m =>
      rw [lp_X3_foldBy_24, show ((gun 0 : Nat) : Int) = 0 from rfl, if_pos (Int.le_refl 0)]
  | succ k ih =>
    intro m R g fn hk hm hw hl hfn
    cases m with
    | zero => exact absurd hm (Nat.not_lt_zero _)
    | succ m =>
      by_cases hlt : n < 10 ^ k
      · obtain ⟨R', f1, f2⟩ := ih m R g fn (Nat.le_of_succ_le hk) (Nat.lt_of_succ_lt_succ hm) hw hl (Nat.lt_of_lt_of_le hfn pow_mono10)
        exact ⟨R', f1, cres_lt hk hlt f2⟩
      · by_cases hf : gok (n / 10 ^ k % 10) g = true
        · obtain ⟨hfn3, hfn4⟩ := fnb (d := n / 10 ^ k % 10) hk hfn (Nat.mod_lt _ (by decide))
          obtain ⟨R1, a1, a2, a3⟩ := lay_put hl hw hf (Nat.lt_trans hfn3 (by decide))
          obtain ⟨R', f1, f2⟩ := ih m R1 (gput (n / 10 ^ k % 10) g) (fn * 10 + n / 10 ^ k % 10) (Nat.le_of_succ_le hk) (Nat.lt_of_succ_lt_succ hm) (hw.put hf) a2 hfn4
          exact ⟨R', fun q j h1 h2 h3 => by rw [f1 q j h1 h2 h3, a3 q j h1 h2 h3], cres_ge hn hk hlt hl hw hf a1 f2⟩
        · exact ⟨R, fun q j _ _ _ => rfl, cres_no hn hk hlt hl hw hf⟩
/-- the booklet that a number makes of the open sheet -/
def gbk (H W : Nat) (i : Int) : Option gG := if 0 ≤ i ∧ i ≤ 4444 then (gall (gdk 4 i.toNat) (gg0 H W)).bind (fun g => if g.1 = 1 ∧ g.2.1 = 1 then some g else none) else none
theorem cby_all {R : xN} {b H W n : Nat} (hH : len H) (hW : len W) (hn : n ≤ 4444) : ∃ R', (∀ q j : Nat, q ≠ b → q ≠ b + 1 → q ≠ b + 2 → R' q j = R q j) ∧ ((∃ g, gall (gdk 4 n) (gg0 H W) = some g ∧ f_X3_foldBy b (H : Int) (W : Int) (n : Int) R = some (decide (g.1 = 1 ∧ g.2.1 = 1), R') ∧ LRg R' b H W g (gfn 0 (gdk 4 n))) ∨ (gall (gdk 4 n) (gg0 H W) = none ∧ f_X3_foldBy b (H : Int) (W : Int) (n : Int) R = some (false, R'))) := by
  obtain ⟨R1, s1, s2, s3⟩ := spread_put (R := R) (b := b) hH hW
  obtain ⟨R', f1, f2⟩ := cfold_lp (n := n) (by omega) 4 6000 R1 (gg0 H W) 0 (by omega) (by omega) (gg0_w hH hW) s2 (by decide)
  refine ⟨R', fun q j h1 h2 h3 => by rw [f1 q j h1 h2 h3, s3 q j h1 h2], ?_⟩
  unfold f_X3_foldBy
  rw [s1, Option.bind_some, in9, Option.bind_some, if_pos (decide_eq_true (by omega))]
  rcases f2 with ⟨g, h1, h2, h3⟩ | ⟨h1, h2⟩
  · refine Or.inl ⟨g, h1, ?_, h3⟩
    have h2' := h2 (fun _ R14 => (f_X3_isBooklet b R14).bind (fun v15 => some (v15, R14)))
    have e : lp_X3_foldBy_24 b (n : Int) 6000 1000 R1 (fun _ R14 => (f_X3_isBooklet b R14).bind (fun v15 => some (v15, R14))) = _ := h2'
    rw [e]
    unfold f_X3_isBooklet
    rw [h3.2.2.1, h3.2.2.2.1]
    by_cases c1 : g.1 = 1
    · by_cases c2 : g.2.1 = 1
      · rw [if_pos (by omega), if_pos (by omega), decide_eq_true ⟨c1, c2⟩]; rfl
      · rw [if_pos (by omega), if_neg (by omega), decide_eq_false (fun h => c2 h.2)]; rfl
    · rw [if_neg (by omega), decide_eq_false (fun h => c1 h.1)]; rfl
  · refine Or.inr ⟨h1, ?_⟩
    have e : lp_X3_foldBy_24 b (n : Int) 6000 1000 R1 (fun _ R14 => (f_X3_isBooklet b R14).bind (fun v15 => some (v15, R14))) = _ := h2 (fun _ R14 => (f_X3_isBooklet b R14).bind (fun v15 => some (v15, R14)))
    rw [e]
theorem cby {R : xN} {b H W : Nat} {i : Int} (hH : len H) (hW : len W) : ∃ R', f_X3_foldBy b (H : Int) (W : Int) i R = some ((gbk H W i).isSome, R') ∧ (∀ q j : Nat, q ≠ b → q ≠ b + 1 → q ≠ b + 2 → R' q j = R q j) ∧ ∀ g, gbk H W i = some g → g.1 = 1 ∧ g.2.1 = 1 ∧ GWg H W g ∧ ∃ fn, LRg R' b H W g fn := by
  by_cases hi : 0 ≤ i ∧ i ≤ 4444
  · obtain ⟨n, rfl⟩ := Int.eq_ofNat_of_zero_le hi.1
    obtain ⟨R', f1, f2⟩ := cby_all (R := R) (b := b) (n := n) hH hW (by omega)
    refine ⟨R', ?_, f1, fun g hg => ?_⟩
    · unfold gbk
      rw [if_pos hi, Int.toNat_natCast]
      rcases f2 with ⟨g, h1, h2, h3⟩ | ⟨h1, h2⟩
      · rw [h1, h2, Option.bind_some]
        by_cases hc : g.1 = 1 ∧ g.2.1 = 1
        · rw [if_pos hc, decide_eq_true hc]; rfl
        · rw [if_neg hc, decide_eq_false hc]; rfl
      · rw [h1, h2]; rfl
    · unfold gbk at hg
      rw [if_pos hi, Int.toNat_natCast] at hg
      rcases f2 with ⟨g1, h1, h2, h3⟩ | ⟨h1, h2⟩
      · rw [h1, Option.bind_some] at hg
        by_cases hc : g1.1 = 1 ∧ g1.2.1 = 1
        · rw [if_pos hc] at hg
          cases hg
          exact ⟨hc.1, hc.2, (gg0_w hH hW).all h1, _, h3⟩
        · rw [if_neg hc] at hg; cases hg
      · rw [h1] at hg; cases hg
  · obtain ⟨R1, s1, s2, s3⟩ := spread_put (R := R) (b := b) hH hW
    refine ⟨R1, ?_, fun q j h1 h2 _ => s3 q j h1 h2, fun g hg => ?_⟩
    · unfold f_X3_foldBy gbk
      rw [s1, Option.bind_some, in9, Option.bind_some, decide_eq_false hi, if_neg (by decide), if_neg hi]
      rfl
    · unfold gbk at hg; rw [if_neg hi] at hg; cases hg

