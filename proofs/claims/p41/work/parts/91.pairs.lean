/-! Pairs of leaves along an edge. -/
def pcI (H W : Nat) (t : Nat → Nat) (e i : Nat) : Nat := (if t i % 4 + 1 < W ∧ eRt (t i) = e then 1 else 0) + (if cr (t i) + 1 < H ∧ eBl (t i) = e then 1 else 0)
def sumI (f : Nat → Nat) : Nat → Nat → Nat → Nat
  | _, 0, acc => acc
  | lo, c + 1, acc => sumI f (lo + 1) c (acc + f lo)
theorem pcI_le {H W : Nat} {t : Nat → Nat} {e i : Nat} : pcI H W t e i ≤ 2 := by unfold pcI; split <;> split <;> omega
theorem rc_num : ∀ n : Nat, n < 64 → rowI (n : Int) = (cr n : Int) ∧ colI (n : Int) = ((n % 4 : Nat) : Int) ∧ rtI (n : Int) = some (eRt n : Int) ∧ blI (n : Int) = some (eBl n : Int) := by decide +kernel
theorem col9 {R : xN} {b i n : Nat} (hi : i < 16) (h : R (b + 1) i = (n : Int)) (hn : n < 64) : f_X3_columnAt b (i : Int) R = some ((n % 4 : Nat) : Int) := by
  unfold f_X3_columnAt
  rw [at3 hi, Option.bind_some, h, colI_eq, Option.bind_some, (rc_num n hn).2.1]
theorem row9 {R : xN} {b i n : Nat} (hi : i < 16) (h : R (b + 1) i = (n : Int)) (hn : n < 64) : f_X3_rowAt b (i : Int) R = some (cr n : Int) := by
  unfold f_X3_rowAt
  rw [at3 hi, Option.bind_some, h, rowI_eq, Option.bind_some, (rc_num n hn).1]
theorem prs_step {R : xN} {b H W i e acc n : Nat} {t : Nat → Nat} {X : Int → Int → Option Int} (h : LC R b (H * W) t) (h0 : R b 0 = (H : Int)) (h1 : R b 1 = (W : Int)) (hi : i < H * W) (ha : acc < 1000) : lp_X3_pairsAlong_4 b (e : Int) R (n + 1) (acc : Int) (i : Int) X = lp_X3_pairsAlong_4 b (e : Int) R n ((acc + pcI H W t e i : Nat) : Int) ((i + 1 : Nat) : Int) X := by
  obtain ⟨hD, ht, hd⟩ := id h
  obtain ⟨t1, t2⟩ := ht i hi
  have hi16 : i < 16 := by omega
  have e5 : Qe (w4 ((i : Int) + 1)) ((i + 1 : Nat) : Int) := by unfold Qe; rw [w4_of (by omega)]; omega
  have e6 : Qe (w4 ((acc : Int) + 1)) ((acc + 1 : Nat) : Int) := by unfold Qe; rw [w4_of (by omega)]; omega
  have e7 : Qe (w4 (((acc + 1 : Nat) : Int) + 1)) ((acc + 1 + 1 : Nat) : Int) := by unfold Qe; rw [w4_of (by omega)]; omega
  have hc4 : t i % 4 < 4 := Nat.mod_lt _ (by decide)
  have hr4 : cr (t i) < 4 := by unfold cr; omega
  have e8 : Qe (w4 (((t i % 4 : Nat) : Int) + 1)) ((t i % 4 + 1 : Nat) : Int) := by unfold Qe; rw [w4_of (by omega)]; omega
  have e9 : Qe (w4 ((cr (t i) : Int) + 1)) ((cr (t i) + 1 : Nat) : Int) := by unfold Qe; rw [w4_of (by omega)]; omega
  obtain ⟨-, -, n3, n4⟩ := rc_num _ t1
  rw [lp_X3_pairsAlong_4, hd, Option.bind_some, if_neg (by omega), col9 hi16 t2 t1, Option.bind_some, e8.eq, h1]
  have P : ∀ (x y : Nat), (if t i % 4 + 1 < W ∧ eRt (t i) = e then 1 else 0) = x → (if cr (t i) + 1 < H ∧ eBl (t i) = e then 1 else 0) = y → pcI H W t e i = x + y := fun x y hx hy => by unfold pcI; rw [hx, hy]
  by_cases cA : W ≤ t i % 4 + 1
  · rw [if_pos (by omega), row9 hi16 t2 t1, Option.bind_some, e9.eq, h0]
    by_cases cB : H ≤ cr (t i) + 1
    · rw [if_pos (by omega), xlet_eq, e5.eq, P 0 0 (if_neg (by omega)) (if_neg (by omega))]
      rfl
    · rw [if_neg (by omega), at3 hi16, Option.bind_some, t2, blI_eq, n4, Option.bind_some]
      by_cases cD : eBl (t i) = e
      · rw [if_pos (by omega), xlet_eq, xlet_eq, e5.eq, e6.eq, P 0 1 (if_neg (by omega)) (if_pos (by omega))]
      · rw [if_neg (by omega), xlet_eq, e5.eq, P 0 0 (if_neg (by omega)) (if_neg (by omega))]
        rfl
  · rw [if_neg (by omega), at3 hi16, Option.bind_some, t2, rtI_eq, n3, Option.bind_some]
    by_cases cC : eRt (t i) = e
    · rw [if_pos (by omega), xlet_eq, row9 hi16 t2 t1, Option.bind_some, e9.eq, h0, e6.eq]
      by_cases cB : H ≤ cr (t i) + 1
      · rw [if_pos (by omega), xlet_eq, e5.eq, P 1 0 (if_pos (by omega)) (if_neg (by omega))]
      · rw [if_neg (by omega), Option.bind_some, blI_eq, n4, Option.bind_some]
        by_cases cD : eBl (t i) = e
        · rw [if_pos (by omega), xlet_eq, xlet_eq, e5.eq, e7.eq, P 1 1 (if_pos (by omega)) (if_pos (by omega))]
        · rw [if_neg (by omega), xlet_eq, e5.eq, P 1 0 (if_pos (by omega)) (if_neg (by omega))]
    · rw [if_neg (by omega), row9 hi16 t2 t1, Option.bind_some, e9.eq, h0]
      by_cases cB : H ≤ cr (t i) + 1
      · rw [if_pos (by omega), xlet_eq, e5.eq, P 0 0 (if_neg (by omega)) (if_neg (by omega))]
        rfl
      · rw [if_neg (by omega), Option.bind_some, blI_eq, n4, Option.bind_some]
        by_cases cD : eBl (t i) = e
        · rw [if_pos (by omega), xlet_eq, xlet_eq, e5.eq, e6.eq, P 0 1 (if_neg (by omega)) (if_pos (by omega))]
        · rw [if_neg (by omega), xlet_eq, e5.eq, P 0 0 (if_neg (by omega)) (if_neg (by omega))]
          rfl
theorem prs_lp {R : xN} {b H W e : Nat} {t : Nat → Nat} {X : Int → Int → Option Int} (h : LC R b (H * W) t) (h0 : R b 0 = (H : Int)) (h1 : R b 1 = (W : Int)) : ∀ (n c i acc : Nat), c < n → i + c = H * W → acc ≤ 2 * i → lp_X3_pairsAlong_4 b (e : Int) R n (acc : Int) (i : Int) X = X (sumI (pcI H W t e) i c acc : Int) ((H * W : Nat) : Int) := by
  intro n
  induction n with
  | zero => intro c i acc hc; omega
  | succ n ih =>
    intro c i acc hc hi ha
    have hD := h.1
    cases c with
    | zero =>
      rw [lp_X3_pairsAlong_4, h.2.2, Option.bind_some, if_pos (by omega), show i = H * W by omega]
      rfl
    | succ c =>
      rw [prs_step h h0 h1 (by omega) (by omega)]
      have := pcI_le (H := H) (W := W) (t := t) (e := e) (i := i)
      exact ih c (i + 1) _ (by omega) (by omega) (by omega)
def pcS (H W : Nat) (t : Nat → Nat) (e : Nat) : Nat := sumI (pcI H W t e) 0 (H * W) 0
theorem prs9 {R : xN} {b H W e : Nat} {t : Nat → Nat} (h : LC R b (H * W) t) (h0 : R b 0 = (H : Int)) (h1 : R b 1 = (W : Int)) : f_X3_pairsAlong b (e : Int) R = some (pcS H W t e : Int) := by
  have hD := h.1
  have := prs_lp h h0 h1 (e := e) (X := fun z36 z37 => some z36) 6000 (H * W) 0 0 (by omega) (by omega) (by omega)
  unfold f_X3_pairsAlong
  exact this
/-- edges to be cut -/
def ecC (H W : Nat) (t : Nat → Nat) (sp : Nat) : Nat → Nat → Nat → Nat
  | _, 0, acc => acc
  | e, c + 1, acc => ecC H W t sp (e + 1) c (if e = sp then acc else if pcS H W t e = 0 then acc else acc ||| 2 ^ e)
theorem ec_num : ∀ e : Nat, e < 4 → ∀ a : Nat, a < 16 → b4or (a : Int) (b4shl 1 (e : Int)) = ((a ||| 2 ^ e : Nat) : Int) ∧ a ||| 2 ^ e < 16 := by decide +kernel
theorem ec_lp {R : xN} {s : Nat → Int} {b H W : Nat} {t : Nat → Nat} {X : Int → Int → Option Int} (h5 : R 2 5 = s 7) (h : LC R b (H * W) t) (h0 : R b 0 = (H : Int)) (h1 : R b 1 = (W : Int)) : ∀ (n c e acc : Nat), c < n → e + c = 4 → acc < 16 → lp_X0_edgesToCut_4 2 b R n (acc : Int) (e : Int) X = X (ecC H W t (spE s) e c acc : Int) 4 := by
  intro n
  induction n with
  | zero => intro c e acc hc; omega
  | succ n ih =>
    intro c e acc hc he ha
    cases c with
    | zero =>
      rw [lp_X0_edgesToCut_4, if_pos (by omega), show e = 4 by omega]
      rfl
    | succ c =>
      have e5 : Qe (w4 ((e : Int) + 1)) ((e + 1 : Nat) : Int) := by unfold Qe; rw [w4_of (by omega)]; omega
      have hsp : f_X0_spineEdge 2 R = some (spE s : Int) := by
        unfold f_X0_spineEdge spE
        rw [xlet_eq, h5]
        split <;> rfl
      obtain ⟨n1, n2⟩ := ec_num e (by omega) acc ha
      have n1' : Qe _ _ := n1
      clear n1
      rw [lp_X0_edgesToCut_4, if_neg (by omega), hsp, Option.bind_some]
      by_cases c1 : e = spE s
      · rw [if_pos (by omega), xlet_eq, e5.eq, ih c (e + 1) acc (by omega) (by omega) ha]
        show X _ 4 = X (ecC H W t (spE s) (e + 1) c (if e = spE s then acc else _) : Int) 4
        rw [if_pos c1]
      · rw [if_neg (by omega), prs9 h h0 h1, Option.bind_some]
        by_cases c2 : pcS H W t e = 0
        · rw [if_pos (by omega), xlet_eq, e5.eq, ih c (e + 1) acc (by omega) (by omega) ha]
          show X _ 4 = X (ecC H W t (spE s) (e + 1) c (if e = spE s then acc else if pcS H W t e = 0 then acc else _) : Int) 4
          rw [if_neg c1, if_pos c2]
        · rw [if_neg (by omega), xlet_eq, xlet_eq, e5.eq, n1'.eq, ih c (e + 1) _ (by omega) (by omega) n2]
          show X _ 4 = X (ecC H W t (spE s) (e + 1) c (if e = spE s then acc else if pcS H W t e = 0 then acc else _) : Int) 4
          rw [if_neg c1, if_neg c2]
theorem etc9 {R : xN} {s : Nat → Int} {b H W : Nat} {t : Nat → Nat} (h5 : R 2 5 = s 7) (h : LC R b (H * W) t) (h0 : R b 0 = (H : Int)) (h1 : R b 1 = (W : Int)) : f_X0_edgesToCut 2 b R = some (ecC H W t (spE s) 0 4 0 : Int) := by
  have := ec_lp h5 h h0 h1 (X := fun z10 z11 => some z10) 6000 4 0 0 (by omega) (by omega) (by omega)
  unfold f_X0_edgesToCut
  exact this
