/-! Geometry: edges of class and model. -/
def rowI (v : Int) : Int := w4 (Int.tdiv (b4and v 15) 4)
def colI (v : Int) : Int := Int.tmod (b4and v 15) 4
def rtI (v : Int) : Option Int := if b4and v 16 = 0 then some 1 else some 0
def blI (v : Int) : Option Int := some (if b4and v 32 = 0 then 3 else 2)
theorem rowI_eq {v : Int} {R : xN} : f_X3_rowOf v R = some (rowI v) := by rw [f_X3_rowOf, rowI]
theorem colI_eq {v : Int} {R : xN} : f_X3_columnOf v R = some (colI v) := by rw [f_X3_columnOf, colI]
theorem rtI_eq {v : Int} {R : xN} : f_X3_edgeToRight v R = rtI v := by rw [f_X3_edgeToRight, rtI]
theorem blI_eq {v : Int} {R : xN} : f_X3_edgeBelow v R = blI v := by rw [f_X3_edgeBelow, blI, xlet_eq]
theorem at_0 {x y : Int} : f_X3_at 0 0 (fun _ j => if j = 0 then x else y) = some x := rfl
theorem at_1 {x y : Int} : f_X3_at 0 1 (fun _ j => if j = 0 then x else y) = some y := rfl
theorem obs {α β : Type} {a : α} {f : α → Option β} : (some a).bind f = f a := by rw [Option.bind_some]
theorem at_0' {x y : Int} : f_X3_at 0 0 (fun _ j => if j = 0 then x else y) = some x := by rw [at_0]
theorem at_1' {x y : Int} : f_X3_at 0 1 (fun _ j => if j = 0 then x else y) = some y := by rw [at_1]
theorem eb_eq {a i j n m : Nat} {R : xN} (hi : i < 16) (hj : j < 16) (h1 : R (a + 1) i = (n : Int)) (h2 : R (a + 1) j = (m : Int)) (hn : n < 64) (hm : m < 64) : f_X3_edgesBetween a (i : Int) (j : Int) R = some (eB n m : Int) := by
  have h := eb_num n hn m hm
  unfold ebO f_X3_edgesBetween at h
  simp only [at_0', at_1', obs, rowI_eq, colI_eq, rtI_eq, blI_eq] at h
  unfold f_X3_edgesBetween
  rw [at3 hi, Option.bind_some, at3 hj, Option.bind_some, h1, h2]
  simp only [obs, rowI_eq, colI_eq, rtI_eq, blI_eq]
  exact h
theorem tnc {n : Nat} : ((n : Int)).toNat = n := by rw [Int.toNat_natCast]
theorem eo_gen {W x y m1 m2 p1 p2 : Int} {i j : Nat} {R : xN} (hi : i < 16) (hj : j < 16) (hw : R (323 + 1) 1 = W) (a1 : R (323 + 5) i = x) (a2 : R (323 + 7) i = m1) (a3 : R (323 + 8) i = p1) (b1 : R (323 + 5) j = y) (b2 : R (323 + 7) j = m2) (b3 : R (323 + 8) j = p2) : f_X10_edgeOf 323 (i : Int) (j : Int) R = if y ≤ x then eoO W y x m2 p2 else eoO W x y m1 p1 := by
  have c1 : (0 : Int) ≤ (i : Int) ∧ (i : Int) < 16 := by omega
  have c2 : (0 : Int) ≤ (j : Int) ∧ (j : Int) < 16 := by omega
  have e1 : Qe (w4 (w4 ((i : Int) + (j : Int)) - (j : Int))) (i : Int) := by unfold Qe; rw [w4_of (x := (i : Int) + _) (by omega), w4_of (by omega)]; omega
  have e2 : Qe (w4 (w4 ((i : Int) + (j : Int)) - (i : Int))) (j : Int) := by unfold Qe; rw [w4_of (x := (i : Int) + _) (by omega), w4_of (by omega)]; omega
  unfold f_X10_edgeOf
  rw [if_pos c1, if_pos c2, tnc, tnc, a1, b1]
  by_cases hc : y ≤ x
  · rw [if_pos hc, if_pos hc, xlet_eq, xlet_eq, if_pos c2, xlet_eq, e1.eq, if_pos c1, xlet_eq, if_pos c2, if_pos c2, tnc, tnc, a1, b1, b2, b3, hw]
    unfold eoO
    rfl
  · rw [if_neg hc, if_neg hc, xlet_eq, xlet_eq, if_pos c1, xlet_eq, e2.eq, if_pos c2, xlet_eq, if_pos c1, if_pos c1, tnc, tnc, a1, b1, a2, a3, hw]
    unfold eoO
    rfl
theorem eo_eq {W i j n m : Nat} {R : xN} (hW : W ∈ [1, 2, 4]) (hi : i < 16) (hj : j < 16) (hw : R 324 1 = (W : Int)) (a1 : R 328 i = (cel W n : Int)) (a2 : R 330 i = (mir n : Int)) (a3 : R 331 i = (ups n : Int)) (b1 : R 328 j = (cel W m : Int)) (b2 : R 330 j = (mir m : Int)) (b3 : R 331 j = (ups m : Int)) (hn : n < 64) (hn4 : n % 4 < W) (hm : m < 64) (hm4 : m % 4 < W) : f_X10_edgeOf 323 (i : Int) (j : Int) R = some ((eC n m : Int) - 1) := by
  rw [eo_gen hi hj hw a1 a2 a3 b1 b2 b3]
  have h := eo_num W hW n hn hn4 m hm hm4
  by_cases hc : cel W m ≤ cel W n
  · rw [if_pos hc] at h
    rw [if_pos (Int.ofNat_le.mpr hc)]
    exact h
  · rw [if_neg hc] at h
    rw [if_neg (fun h' => hc (Int.ofNat_le.mp h'))]
    exact h
/-- the bits of several, put together -/
def orI (f : Nat → Nat) : Nat → Nat → Nat → Nat
  | _, 0, acc => acc
  | lo, c + 1, acc => orI f (lo + 1) c (acc ||| f lo)
theorem bor16 : ∀ a : Nat, a < 16 → ∀ b : Nat, b < 16 → b4or (a : Int) (b : Int) = ((a ||| b : Nat) : Int) ∧ a ||| b < 16 := by decide +kernel
theorem bor16q {a b : Nat} (ha : a < 16) (hb : b < 16) : Qe (b4or (a : Int) (b : Int)) ((a ||| b : Nat) : Int) := (bor16 a ha b hb).1
theorem eC_lt : ∀ n m : Nat, eC n m < 5 := by
  intro n m
  have h1 : ∀ k : Nat, eRt k < 2 := fun k => by unfold eRt; split <;> omega
  have h2 : ∀ k : Nat, eBl k < 4 := fun k => by unfold eBl; split <;> omega
  have a1 := h1 n
  have a2 := h1 m
  have a3 := h2 n
  have a4 := h2 m
  unfold eC
  repeat' split
  all_goals omega
theorem eB_lt (n m : Nat) : eB n m < 16 := by
  have h := eC_lt n m
  unfold eB
  generalize eC n m = e at *
  have : e = 0 ∨ e = 1 ∨ e = 2 ∨ e = 3 ∨ e = 4 := by omega
  rcases this with rfl | rfl | rfl | rfl | rfl <;> decide
theorem orI_lt {f : Nat → Nat} (hf : ∀ i, f i < 16) : ∀ (c lo acc : Nat), acc < 16 → orI f lo c acc < 16 := by
  intro c
  induction c with
  | zero => intro lo acc h; exact h
  | succ c ih => intro lo acc h; exact ih _ _ (bor16 acc h _ (hf lo)).2
/-- what is left of a set of edges without the cut ones and without the spine's -/
def msk (cu sp a : Nat) : Nat := a &&& (15 ^^^ cu) &&& (15 ^^^ 2 ^ sp)
theorem msk_or : ∀ cu : Nat, cu < 16 → ∀ sp ∈ ([0, 2] : List Nat), ∀ a : Nat, a < 16 → ∀ b : Nat, b < 16 → msk cu sp (a ||| b) = msk cu sp a ||| msk cu sp b := by decide +kernel
theorem msk_lt : ∀ cu : Nat, cu < 16 → ∀ sp ∈ ([0, 2] : List Nat), ∀ a : Nat, a < 16 → msk cu sp a < 16 := by decide +kernel
theorem msk_cls : ∀ cu : Nat, cu < 16 → ∀ sp ∈ ([0, 2] : List Nat), ∀ a : Nat, a < 16 → b4and (b4and (a : Int) (b4xor (cu : Int) (-1))) (b4xor (b4shl 1 (sp : Int)) (-1)) = (msk cu sp a : Int) := by decide +kernel
def bitOf (e : Nat) : Nat := if e = 0 then 0 else 2 ^ (e - 1)
theorem msk_mod : ∀ cu : Nat, cu < 16 → ∀ sp ∈ ([0, 2] : List Nat), ∀ e : Nat, e < 5 → (if (e : Int) - 1 < 0 then msk cu sp (bitOf e) = 0 else if b4and (b4shr (cu : Int) ((e : Int) - 1)) 1 = 1 then msk cu sp (bitOf e) = 0 else (if (e : Int) - 1 = (sp : Int) then (0 : Int) else b4shl 1 ((e : Int) - 1)) = (msk cu sp (bitOf e) : Int)) := by decide +kernel
theorem orI_msk {f : Nat → Nat} {cu sp : Nat} (hc : cu < 16) (hs : sp ∈ [0, 2]) (hf : ∀ i, f i < 16) : ∀ (c lo acc : Nat), acc < 16 → msk cu sp (orI f lo c acc) = orI (fun i => msk cu sp (f i)) lo c (msk cu sp acc) := by
  intro c
  induction c with
  | zero => intro lo acc h; rfl
  | succ c ih =>
    intro lo acc h
    show msk cu sp (orI f (lo + 1) c (acc ||| f lo)) = orI _ (lo + 1) c (msk cu sp acc ||| msk cu sp (f lo))
    rw [ih _ _ (bor16 acc h _ (hf lo)).2, msk_or cu hc sp hs acc h _ (hf lo)]
/-- the edges along which leaves shut an opening -/
def shI (t : Nat → Nat) (D o : Nat) : Nat → Nat → Nat → Nat
  | _, 0, acc => acc
  | i, c + 1, acc => shI t D o (i + 1) c (orI (fun b => eB (t i) (t b)) o (D - o) acc)
def shN (t : Nat → Nat) (D o : Nat) : Nat := shI t D o 0 o 0
theorem shI_lt {t : Nat → Nat} {D o : Nat} : ∀ (c i acc : Nat), acc < 16 → shI t D o i c acc < 16 := by
  intro c
  induction c with
  | zero => intro i acc h; exact h
  | succ c ih => intro i acc h; exact ih _ _ (orI_lt (fun _ => eB_lt _ _) _ _ _ h)
theorem shN_lt {t : Nat → Nat} {D o : Nat} : shN t D o < 16 := shI_lt _ _ _ (by decide)
/-- what stands for the leaves of the class at b -/
def LC (R : xN) (b D : Nat) (t : Nat → Nat) : Prop := D ≤ 16 ∧ (∀ i : Nat, i < D → t i < 64 ∧ R (b + 1) i = (t i : Int)) ∧ f_X3_depth b R = some (D : Int)
theorem she_in {R : xN} {D o i : Nat} {t : Nat → Nat} (h : LC R 6 D t) (ho : o ≤ D) (hi : i < D) : ∀ (n c lo acc : Nat), c < n → lo + c = D → acc < 16 → ∀ X : Int → Int → Option Int, lp_X0_shutEdges_23 2 (o : Int) (i : Int) R n (acc : Int) (lo : Int) X = X (orI (fun b => eB (t i) (t b)) lo c acc : Int) (D : Int) := by
  intro n
  induction n with
  | zero => intro c lo acc h1; omega
  | succ n ih =>
    intro c lo acc h1 h2 h3 X
    obtain ⟨hD, ht, hd⟩ := id h
    rw [lp_X0_shutEdges_23, show 2 + 4 = 6 from rfl, hd, Option.bind_some]
    cases c with
    | zero =>
      rw [if_pos (by omega), show lo = D by omega]
      rfl
    | succ c =>
      have e5 : Qe (w4 ((lo : Int) + 1)) ((lo + 1 : Nat) : Int) := by unfold Qe; rw [w4_of (by omega)]; omega
      obtain ⟨ti, ri⟩ := ht i hi
      obtain ⟨tl, rl⟩ := ht lo (by omega)
      rw [if_neg (by omega), eb_eq (by omega) (by omega) ri rl ti tl, Option.bind_some, xlet_eq, xlet_eq, (bor16q h3 (eB_lt _ _)).eq, e5.eq]
      exact ih c (lo + 1) _ (by omega) (by omega) (bor16 acc h3 _ (eB_lt _ _)).2 X
theorem she_out {R : xN} {D o : Nat} {t : Nat → Nat} (h : LC R 6 D t) (ho : o ≤ D) : ∀ (n c i acc : Nat), c < n → i + c = o → acc < 16 → ∀ X : Int → Int → Option Int, lp_X0_shutEdges_4 2 (o : Int) R n (acc : Int) (i : Int) X = X (shI t D o i c acc : Int) (o : Int) := by
  intro n
  induction n with
  | zero => intro c i acc h1; omega
  | succ n ih =>
    intro c i acc h1 h2 h3 X
    obtain ⟨hD, ht, hd⟩ := id h
    rw [lp_X0_shutEdges_4]
    cases c with
    | zero =>
      rw [if_pos (by omega), show i = o by omega]
      rfl
    | succ c =>
      have e5 : Qe (w4 ((i : Int) + 1)) ((i + 1 : Nat) : Int) := by unfold Qe; rw [w4_of (by omega)]; omega
      rw [if_neg (by omega), show 2 + 4 = 6 from rfl, hd, Option.bind_some, if_neg (by omega), she_in h ho (by omega) 6000 (D - o) o acc (by omega) (by omega) h3, xlet_eq, e5.eq]
      exact ih c (i + 1) _ (by omega) (by omega) (orI_lt (fun _ => eB_lt _ _) _ _ _ h3) X
def spE (s : Nat → Int) : Nat := if s 7 = 1 then 2 else 0
theorem spE_mem {s : Nat → Int} : spE s ∈ [0, 2] := by unfold spE; split <;> decide
theorem shut9 {R : xN} {D o : Nat} {t : Nat → Nat} {s : Nat → Int} (h : LC R 6 D t) (ho : o ≤ D) (h5 : R 2 5 = s 7) (h6 : R 2 6 = s 8) (h8 : 0 ≤ s 8 ∧ s 8 ≤ 15) : f_X0_shutEdges 2 (o : Int) R = some (msk (s 8).toNat (spE s) (shN t D o) : Int) := by
  have hl := h.1
  unfold f_X0_shutEdges f_X0_spineEdge
  have he := she_out h ho 6000 o 0 0 (by omega) (by omega) (by decide)
  rw [z0] at he
  rw [he, h5, h6, xlet_eq, Option.bind_some]
  have hcu : ((s 8).toNat : Int) = s 8 := by omega
  have hm := msk_cls (s 8).toNat (by omega) (spE s) spE_mem (shN t D o) shN_lt
  rw [hcu] at hm
  have hsp : (if s 7 = 1 then (2 : Int) else 0) = (spE s : Int) := by unfold spE; split <;> rfl
  rw [hsp]
  exact congrArg some hm
/-- what stands for the leaves of the model -/
def LM (R : xN) (W D : Nat) (t : Nat → Nat) : Prop := D ≤ 16 ∧ W ∈ [1, 2, 4] ∧ R 324 1 = (W : Int) ∧ R 323 9 = (D : Int) ∧ ∀ i : Nat, i < D → t i < 64 ∧ t i % 4 < W ∧ R 328 i = (cel W (t i) : Int) ∧ R 329 i = (sid (t i) : Int) ∧ R 330 i = (mir (t i) : Int) ∧ R 331 i = (ups (t i) : Int)
theorem eo_at {R : xN} {W D i j : Nat} {t : Nat → Nat} (h : LM R W D t) (hi : i < D) (hj : j < D) : f_X10_edgeOf 323 (i : Int) (j : Int) R = some ((eC (t i) (t j) : Int) - 1) := by
  obtain ⟨hD, hW, h1, h9, ht⟩ := id h
  obtain ⟨a1, a2, a3, a4, a5, a6⟩ := ht i hi
  obtain ⟨b1, b2, b3, b4, b5, b6⟩ := ht j hj
  exact eo_eq hW (by omega) (by omega) h1 a3 a5 a6 b3 b5 b6 a1 a2 b1 b2
theorem spn10 {R : xN} (h7 : R 324 7 = 0 ∨ R 324 7 = 1) : f_X10_spineEdge 323 R = some (spE (R 324) : Int) := by
  unfold f_X10_spineEdge spE
  rw [show 323 + 1 = 324 from rfl, xlet_eq]
  rcases h7 with h | h <;> rw [h] <;> rfl
theorem sbm_step {R : xN} {W D o i lo acc n cu : Nat} {t : Nat → Nat} {X : Int → Int → Option Int} (h : LM R W D t) (hi : i < D) (hl : lo < D) (hcu : cu < 16) (h7 : R 324 7 = 0 ∨ R 324 7 = 1) (ha : acc < 16) : lp_X10_shutBy_14 323 (o : Int) (cu : Int) (i : Int) R (n + 1) (acc : Int) (lo : Int) X = lp_X10_shutBy_14 323 (o : Int) (cu : Int) (i : Int) R n ((acc ||| msk cu (spE (R 324)) (eB (t i) (t lo)) : Nat) : Int) ((lo + 1 : Nat) : Int) X := by
  obtain ⟨hD, hW, h1, h9, ht⟩ := id h
  have e5 : Qe (w4 ((lo : Int) + 1)) ((lo + 1 : Nat) : Int) := by unfold Qe; rw [w4_of (by omega)]; omega
  rw [lp_X10_shutBy_14, h9, if_neg (by omega), eo_at h hi hl, Option.bind_some]
  have hz : Qe (b4or (acc : Int) 0) (acc : Int) := by
    have := (bor16 acc ha 0 (by decide)).1
    rw [Nat.or_zero] at this
    exact this
  have hm := msk_mod cu hcu (spE (R 324)) spE_mem (eC (t i) (t lo)) (eC_lt _ _)
  have hlt := msk_lt cu hcu (spE (R 324)) spE_mem (eB (t i) (t lo)) (eB_lt _ _)
  have hb : eB (t i) (t lo) = bitOf (eC (t i) (t lo)) := rfl
  rw [hb] at hlt ⊢
  generalize eC (t i) (t lo) = e at *
  by_cases c1 : (e : Int) - 1 < 0
  · rw [if_pos c1] at hm
    rw [if_pos c1, xlet_eq, xlet_eq, hz.eq, e5.eq, hm, Nat.or_zero]
  · rw [if_neg c1] at hm
    rw [if_neg c1]
    by_cases c2 : b4and (b4shr (cu : Int) ((e : Int) - 1)) 1 = 1
    · rw [if_pos c2] at hm
      rw [has10 c2, Option.bind_some, if_pos rfl, xlet_eq, xlet_eq, hz.eq, e5.eq, hm, Nat.or_zero]
    · rw [if_neg c2] at hm
      rw [has10n c2, Option.bind_some, if_neg (by decide), spn10 h7, Option.bind_some, xlet_eq, xlet_eq, xlet_eq, hm, (bor16q ha hlt).eq, e5.eq]
theorem sbm_in {R : xN} {W D o i cu : Nat} {t : Nat → Nat} (h : LM R W D t) (hi : i < D) (hcu : cu < 16) (h7 : R 324 7 = 0 ∨ R 324 7 = 1) : ∀ (n c lo acc : Nat), c < n → lo + c = D → acc < 16 → ∀ X : Int → Int → Option Int, lp_X10_shutBy_14 323 (o : Int) (cu : Int) (i : Int) R n (acc : Int) (lo : Int) X = X (orI (fun b => msk cu (spE (R 324)) (eB (t i) (t b))) lo c acc : Int) (D : Int) := by
  intro n
  induction n with
  | zero => intro c lo acc h1; omega
  | succ n ih =>
    intro c lo acc h1 h2 h3 X
    cases c with
    | zero =>
      rw [lp_X10_shutBy_14, h.2.2.2.1, if_pos (by omega), show lo = D by omega]
      rfl
    | succ c =>
      rw [sbm_step h hi (by omega) hcu h7 h3]
      exact ih c (lo + 1) _ (by omega) (by omega) (bor16 acc h3 _ (msk_lt cu hcu _ spE_mem _ (eB_lt _ _))).2 X
def shM (t : Nat → Nat) (cu sp D o : Nat) : Nat → Nat → Nat → Nat
  | _, 0, acc => acc
  | i, c + 1, acc => shM t cu sp D o (i + 1) c (orI (fun b => msk cu sp (eB (t i) (t b))) o (D - o) acc)
theorem shM_eq {t : Nat → Nat} {cu sp D o : Nat} (hc : cu < 16) (hs : sp ∈ [0, 2]) : ∀ (c i acc : Nat), acc < 16 → shM t cu sp D o i c (msk cu sp acc) = msk cu sp (shI t D o i c acc) := by
  intro c
  induction c with
  | zero => intro i acc _; rfl
  | succ c ih =>
    intro i acc h
    show shM t cu sp D o (i + 1) c _ = msk cu sp (shI t D o (i + 1) c _)
    rw [← orI_msk hc hs (fun _ => eB_lt _ _) _ _ _ h]
    exact ih _ _ (orI_lt (fun _ => eB_lt _ _) _ _ _ h)
theorem sbm_out {R : xN} {W D o cu : Nat} {t : Nat → Nat} (h : LM R W D t) (ho : o ≤ D) (hcu : cu < 16) (h7 : R 324 7 = 0 ∨ R 324 7 = 1) : ∀ (n c i acc : Nat), c < n → i + c = o → acc < 16 → ∀ X : Int → Int → Option Int, lp_X10_shutBy_5 323 (o : Int) (cu : Int) R n (acc : Int) (i : Int) X = X (shM t cu (spE (R 324)) D o i c acc : Int) (o : Int) := by
  intro n
  induction n with
  | zero => intro c i acc h1; omega
  | succ n ih =>
    intro c i acc h1 h2 h3 X
    have hD := h.1
    rw [lp_X10_shutBy_5]
    cases c with
    | zero =>
      rw [if_pos (by omega), show i = o by omega]
      rfl
    | succ c =>
      have e5 : Qe (w4 ((i : Int) + 1)) ((i + 1 : Nat) : Int) := by unfold Qe; rw [w4_of (by omega)]; omega
      rw [if_neg (by omega), sbm_in h (by omega) hcu h7 6000 (D - o) o acc (by omega) (by omega) h3, xlet_eq, e5.eq]
      exact ih c (i + 1) _ (by omega) (by omega) (orI_lt (fun _ => msk_lt cu hcu _ spE_mem _ (eB_lt _ _)) _ _ _ h3) X
theorem shut10 {R : xN} {W D o : Nat} {t : Nat → Nat} (h : LM R W D t) (ho : o ≤ D) (h7 : R 324 7 = 0 ∨ R 324 7 = 1) (h8 : 0 ≤ R 324 8 ∧ R 324 8 ≤ 15) : f_X10_shutBy 323 (o : Int) (R 324 8) R = some (msk (R 324 8).toNat (spE (R 324)) (shN t D o) : Int) := by
  have hl := h.1
  have hcu : ((R 324 8).toNat : Int) = R 324 8 := by omega
  have he := sbm_out h ho (cu := (R 324 8).toNat) (by omega) h7 6000 o 0 0 (by omega) (by omega) (by decide) (fun z18 z19 => some z18)
  rw [z0, hcu] at he
  unfold f_X10_shutBy
  rw [he]
  have hm := shM_eq (t := t) (cu := (R 324 8).toNat) (sp := spE (R 324)) (D := D) (o := o) (by omega) spE_mem o 0 0 (by decide)
  have hm0 : ∀ cu : Nat, cu < 16 → ∀ sp ∈ ([0, 2] : List Nat), msk cu sp 0 = 0 := by decide
  rw [hm0 _ (by omega) _ spE_mem] at hm
  rw [hm]
  rfl
