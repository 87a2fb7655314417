/-! Geometry: edges of class and model. -/
def rowI (v : Int) : Int := w4 (Int.tdiv (b4and v 15) 4)
def colI (v : Int) : Int := Int.tmod (b4and v 15) 4
def rtI (v : Int) : Option Int := if b4and v 16 = 0 then some 1 else some 0
def blI (v : Int) : Option Int := some (if b4and v 32 = 0 then 3 else 2)
theorem rowI_eq {v : Int} {R : xN} : f_X3_rowOf v R = some (rowI v) := by rw [f_X3_rowOf, rowI]
theorem colI_eq {v : Int} {R : xN} : f_X3_columnOf v R = some (colI v) := by rw [f_X3_columnOf, colI]
theorem rtI_eq {v : Int} {R : xN} : f_X3_edgeToRight v R = rtI v := by rw [f_X3_edgeToRight, rtI]
theorem blI_eq {v : Int} {R : xN} : f_X3_edgeBelow v R = blI v := by rw [f_X3_edgeBelow, blI, xlet_eq]
theorem at_0 {x y : Int} : f_X3_at 0 0 (fun _ j => if j = 0 then x else y) = some x := rfl
theorem at_1 {x y : Int} : f_X3_at 0 1 (fun _ j => if j = 0 then x else y) = some y := rfl
theorem obs {α β : Type} {a : α} {f : α → Option β} : (some a).bind f = f a := by rw [Option.bind_some]
theorem at_0' {x y : Int} : f_X3_at 0 0 (fun _ j => if j = 0 then x else y) = some x := by rw [at_0]
theorem at_1' {x y : Int} : f_X3_at 0 1 (fun _ j => if j = 0 then x else y) = some y := by rw [at_1]
theorem eb_eq {a i j n m : Nat} {R : xN} (hi : i < 16) (hj : j < 16) (h1 : R (a + 1) i = (n : Int)) (h2 : R (a + 1) j = (m : Int)) (hn : n < 64) (hm : m < 64) : f_X3_edgesBetween a (i : Int) (j : Int) R = some (eB n m : Int) := by
  have h := eb_num n hn m hm
  unfold ebO f_X3_edgesBetween at h
  simp only [at_0', at_1', obs, rowI_eq, colI_eq, rtI_eq, blI_eq] at h
  unfold f_X3_edgesBetween
  rw [at3 hi, Option.bind_some, at3 hj, Option.bind_some, h1, h2]
  simp only [obs, rowI_eq, colI_eq, rtI_eq, blI_eq]
  exact h
theorem tnc {n : Nat} : ((n : Int)).toNat = n := by rw [Int.toNat_natCast]
/-- the bits of several, put together -/
def orI (f : Nat → Nat) : Nat → Nat → Nat → Nat
  | _, 0, acc => acc
  | lo, c + 1, acc => orI f (lo + 1) c (acc ||| f lo)
theorem bor16 : ∀ a : Nat, a < 16 → ∀ b : Nat, b < 16 → b4or (a : Int) (b : Int) = ((a ||| b : Nat) : Int) ∧ a ||| b < 16 := by decide +kernel
theorem bor16q {a b : Nat} (ha : a < 16) (hb : b < 16) : Qe (b4or (a : Int) (b : Int)) ((a ||| b : Nat) : Int) := (bor16 a ha b hb).1
theorem eC_lt : ∀ n m : Nat, eC n m < 5 := by
  intro n m
  have h1 : ∀ k : Nat, eRt k < 2 := fun k => by unfold eRt; split <;> omega
  have h2 : ∀ k : Nat, eBl k < 4 := fun k => by unfold eBl; split <;> omega
  have a1 := h1 n
  have a2 := h1 m
  have a3 := h2 n
  have a4 := h2 m
  unfold eC
  repeat' split
  all_goals omega
theorem eB_lt (n m : Nat) : eB n m < 16 := by
  have h := eC_lt n m
  unfold eB
  generalize eC n m = e at *
  have : e = 0 ∨ e = 1 ∨ e = 2 ∨ e = 3 ∨ e = 4 := by omega
  rcases this with rfl | rfl | rfl | rfl | rfl <;> decide
theorem orI_lt {f : Nat → Nat} (hf : ∀ i, f i < 16) : ∀ (c lo acc : Nat), acc < 16 → orI f lo c acc < 16 := by
  intro c
  induction c with
  | zero => intro lo acc h; exact h
  | succ c ih => intro lo acc h; exact ih _ _ (bor16 acc h _ (hf lo)).2
/-- what is left of a set of edges without the cut ones and without the spine's -/
def msk (cu sp a : Nat) : Nat := a &&& (15 ^^^ cu) &&& (15 ^^^ 2 ^ sp)
theorem msk_lt : ∀ cu : Nat, cu < 16 → ∀ sp ∈ ([0, 2] : List Nat), ∀ a : Nat, a < 16 → msk cu sp a < 16 := by decide +kernel
theorem msk_cls : ∀ cu : Nat, cu < 16 → ∀ sp ∈ ([0, 2] : List Nat), ∀ a : Nat, a < 16 → b4and (b4and (a : Int) (b4xor (cu : Int) (-1))) (b4xor (b4shl 1 (sp : Int)) (-1)) = (msk cu sp a : Int) := by decide +kernel
def bitOf (e : Nat) : Nat := if e = 0 then 0 else 2 ^ (e - 1)
/-- the edges along which leaves shut an opening -/
def shI (t : Nat → Nat) (D o : Nat) : Nat → Nat → Nat → Nat
  | _, 0, acc => acc
  | i, c + 1, acc => shI t D o (i + 1) c (orI (fun b => eB (t i) (t b)) o (D - o) acc)
def shN (t : Nat → Nat) (D o : Nat) : Nat := shI t D o 0 o 0
theorem shI_lt {t : Nat → Nat} {D o : Nat} : ∀ (c i acc : Nat), acc < 16 → shI t D o i c acc < 16 := by
  intro c
  induction c with
  | zero => intro i acc h; exact h
  | succ c ih => intro i acc h; exact ih _ _ (orI_lt (fun _ => eB_lt _ _) _ _ _ h)
theorem shN_lt {t : Nat → Nat} {D o : Nat} : shN t D o < 16 := shI_lt _ _ _ (by decide)
/-- what stands for the leaves of the class at b -/
def LC (R : xN) (b D : Nat) (t : Nat → Nat) : Prop := D ≤ 16 ∧ (∀ i : Nat, i < D → t i < 64 ∧ R (b + 1) i = (t i : Int)) ∧ f_X3_depth b R = some (D : Int)
theorem she_in {R : xN} {D o i : Nat} {t : Nat → Nat} (h : LC R 6 D t) (ho : o ≤ D) (hi : i < D) : ∀ (n c lo acc : Nat), c < n → lo + c = D → acc < 16 → ∀ X : Int → Int → Option Int, lp_X0_shutEdges_23 2 (o : Int) (i : Int) R n (acc : Int) (lo : Int) X = X (orI (fun b => eB (t i) (t b)) lo c acc : Int) (D : Int) := by
  intro n
  induction n with
  | zero => intro c lo acc h1; omega
  | succ n ih =>
    intro c lo acc h1 h2 h3 X
    obtain ⟨hD, ht, hd⟩ := id h
    rw [lp_X0_shutEdges_23, show 2 + 4 = 6 from rfl, hd, Option.bind_some]
    cases c with
    | zero =>
      rw [if_pos (by omega), show lo = D by omega]
      rfl
    | succ c =>
      have e5 : Qe (w4 ((lo : Int) + 1)) ((lo + 1 : Nat) : Int) := by unfold Qe; rw [w4_of (by omega)]; omega
      obtain ⟨ti, ri⟩ := ht i hi
      obtain ⟨tl, rl⟩ := ht lo (by omega)
      rw [if_neg (by omega), eb_eq (by omega) (by omega) ri rl ti tl, Option.bind_some, xlet_eq, xlet_eq, (bor16q h3 (eB_lt _ _)).eq, e5.eq]
      exact ih c (lo + 1) _ (by omega) (by omega) (bor16 acc h3 _ (eB_lt _ _)).2 X
theorem she_out {R : xN} {D o : Nat} {t : Nat → Nat} (h : LC R 6 D t) (ho : o ≤ D) : ∀ (n c i acc : Nat), c < n → i + c = o → acc < 16 → ∀ X : Int → Int → Option Int, lp_X0_shutEdges_4 2 (o : Int) R n (acc : Int) (i : Int) X = X (shI t D o i c acc : Int) (o : Int) := by
  intro n
  induction n with
  | zero => intro c i acc h1; omega
  | succ n ih =>
    intro c i acc h1 h2 h3 X
    obtain ⟨hD, ht, hd⟩ := id h
    rw [lp_X0_shutEdges_4]
    cases c with
    | zero =>
      rw [if_pos (by omega), show i = o by omega]
      rfl
    | succ c =>
      have e5 : Qe (w4 ((i : Int) + 1)) ((i + 1 : Nat) : Int) := by unfold Qe; rw [w4_of (by omega)]; omega
      rw [if_neg (by omega), show 2 + 4 = 6 from rfl, hd, Option.bind_some, if_neg (by omega), she_in h ho (by omega) 6000 (D - o) o acc (by omega) (by omega) h3, xlet_eq, e5.eq]
      exact ih c (i + 1) _ (by omega) (by omega) (orI_lt (fun _ => eB_lt _ _) _ _ _ h3) X
def spE (s : Nat → Int) : Nat := if s 7 = 1 then 2 else 0
theorem spE_mem {s : Nat → Int} : spE s ∈ [0, 2] := by unfold spE; split <;> decide
theorem shut9 {R : xN} {D o : Nat} {t : Nat → Nat} {s : Nat → Int} (h : LC R 6 D t) (ho : o ≤ D) (h5 : R 2 5 = s 7) (h6 : R 2 6 = s 8) (h8 : 0 ≤ s 8 ∧ s 8 ≤ 15) : f_X0_shutEdges 2 (o : Int) R = some (msk (s 8).toNat (spE s) (shN t D o) : Int) := by
  have hl := h.1
  unfold f_X0_shutEdges f_X0_spineEdge
  have he := she_out h ho 6000 o 0 0 (by omega) (by omega) (by decide)
  rw [z0] at he
  rw [he, h5, h6, xlet_eq, Option.bind_some]
  have hcu : ((s 8).toNat : Int) = s 8 := by omega
  have hm := msk_cls (s 8).toNat (by omega) (spE s) spE_mem (shN t D o) shN_lt
  rw [hcu] at hm
  have hsp : (if s 7 = 1 then (2 : Int) else 0) = (spE s : Int) := by unfold spE; split <;> rfl
  rw [hsp]
  exact congrArg some hm
/-- what stands for the leaves of the model -/
def LM (R : xN) (W D : Nat) (t : Nat → Nat) : Prop := D ≤ 16 ∧ W ∈ [1, 2, 4] ∧ R 324 1 = (W : Int) ∧ R 323 9 = (D : Int) ∧ ∀ i : Nat, i < D → t i < 64 ∧ t i % 4 < W ∧ R 328 i = (cel W (t i) : Int) ∧ R 329 i = (sid (t i) : Int) ∧ R 330 i = (mir (t i) : Int) ∧ R 331 i = (ups (t i) : Int)
