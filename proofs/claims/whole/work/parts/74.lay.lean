/-! A sheet's layers in memory: class (LR) and model (MR); one fold of each. -/
def cel (W n : Nat) : Nat := W * (n % 16 / 4) + n % 4
def mir (n : Nat) : Nat := n / 16 % 2
def ups (n : Nat) : Nat := n / 32 % 2
def sid (n : Nat) : Nat := (n / 16 + n / 32) % 2
def len (n : Nat) : Prop := n = 1 ∨ n = 2 ∨ n = 4
/-- a table of a sheet H x W with r rows and c columns of places left, k folds -/
def GW (H W r c k : Nat) (t : Nat → Nat) : Prop := len H ∧ len W ∧ len r ∧ len c ∧ k < 5 ∧ r * c * 2 ^ k = H * W ∧ ∀ i : Nat, i < H * W → t i < 64 ∧ t i % 16 / 4 < H ∧ t i % 4 < W
def LR (R : xN) (b H W r c k fn : Nat) (t : Nat → Nat) : Prop := R b 0 = (H : Int) ∧ R b 1 = (W : Int) ∧ R b 2 = (r : Int) ∧ R b 3 = (c : Int) ∧ R b 4 = (fn : Int) ∧ R b 5 = (k : Int) ∧ ∀ i : Nat, i < H * W → R (b + 1) i = (t i : Int)
def MR (R : xN) (H W r c k : Nat) (t : Nat → Nat) : Prop := R 323 7 = (r : Int) ∧ R 323 8 = (c : Int) ∧ R 323 9 = ((2 ^ k : Nat) : Int) ∧ ∀ i : Nat, i < H * W → R 328 i = (cel W (t i) : Int) ∧ R 329 i = (sid (t i) : Int) ∧ R 330 i = (mir (t i) : Int) ∧ R 331 i = (ups (t i) : Int)
theorem len_mem {n : Nat} (h : len n) : n ∈ [1, 2, 4] := by rcases h with rfl | rfl | rfl <;> decide
theorem len_mem2 {n : Nat} (h : len n) (h1 : 1 < n) : n ∈ [2, 4] := by rcases h with rfl | rfl | rfl <;> first | decide | omega
theorem area_le {H W : Nat} (h : len H) (w : len W) : H * W ≤ 16 := by rcases h with rfl | rfl | rfl <;> rcases w with rfl | rfl | rfl <;> decide
theorem can_facts {f r c k N : Nat} (hf : f ∈ [1, 2, 3, 4]) (hr : len r) (hc : len c) (hg : gcan f r c = true) (hk : k < 5) (hN : r * c * 2 ^ k = N) (h16 : N ≤ 16) : k < 4 ∧ (2 ^ k = 1 ∨ 2 ^ k = 2 ∨ 2 ^ k = 4 ∨ 2 ^ k = 8) ∧ len (gr f r) ∧ len (gc f c) ∧ gr f r * gc f c * 2 = r * c ∧ gr f r * gc f c * 2 ^ (k + 1) = N := by
  have h2 : 2 ≤ r * c ∧ len (gr f r) ∧ len (gc f c) ∧ gr f r * gc f c * 2 = r * c := by
    have : ∀ f ∈ ([1, 2, 3, 4] : List Nat), ∀ r ∈ ([1, 2, 4] : List Nat), ∀ c ∈ ([1, 2, 4] : List Nat), gcan f r c = true → 2 ≤ r * c ∧ (gr f r = 1 ∨ gr f r = 2 ∨ gr f r = 4) ∧ (gc f c = 1 ∨ gc f c = 2 ∨ gc f c = 4) ∧ gr f r * gc f c * 2 = r * c := by decide
    exact this f hf r (len_mem hr) c (len_mem hc) hg
  obtain ⟨h2, hA, hB, hC⟩ := h2
  have hk5 : k = 0 ∨ k = 1 ∨ k = 2 ∨ k = 3 ∨ k = 4 := by omega
  refine ⟨?_, ?_, hA, hB, hC, ?_⟩
  · rcases hk5 with rfl | rfl | rfl | rfl | rfl <;> simp at hN <;> omega
  · rcases hk5 with rfl | rfl | rfl | rfl | rfl <;> simp at hN ⊢ <;> omega
  · rw [← hN, ← hC, Nat.pow_succ]
    rcases hk5 with rfl | rfl | rfl | rfl | rfl <;> simp <;> omega
theorem xo_facts : ∀ n : Nat, n < 64 → ∀ t ∈ ([16, 32] : List Nat), n ^^^ t < 64 ∧ (n ^^^ t) % 16 = n % 16 := by decide
/-- where a folded table's layer comes from -/
theorem gfold_src {f r c d N i : Nat} {t : Nat → Nat} (hf : f ∈ [1, 2, 3, 4]) (hr : len r) (hc : len c) (hg : gcan f r c = true) (hd : d = 1 ∨ d = 2 ∨ d = 4 ∨ d = 8) (hN : r * c * d = N) (h16 : N ≤ 16) (hC : gr f r * gc f c * 2 = r * c) (hi : i < N) : ∃ p k' : Nat, p < gr f r * gc f c ∧ k' < d ∧
    ((i = 2 * d * p + k' ∧ gfold f r c d t i = (t ((gmv f r c p + 1) * d - 1 - k')) ^^^ gtn f ∧ (gmv f r c p + 1) * d - 1 - k' < N) ∨ (i = 2 * d * p + d + k' ∧ gfold f r c d t i = t (gst f r c p * d + k') ∧ gst f r c p * d + k' < N)) := by
  have hp : i / (2 * d) < gr f r * gc f c ∧ i / (2 * d) < 8 := by rcases hd with rfl | rfl | rfl | rfl <;> omega
  obtain ⟨-, -, -, -, -, gf⟩ := mf_factsq f hf r (len_mem hr) c (len_mem hc) hg
  obtain ⟨-, -, hm1, hs1⟩ := gf _ hp.2 hp.1
  by_cases hlt : i % (2 * d) < d
  · refine ⟨i / (2 * d), i % (2 * d), hp.1, hlt, Or.inl ⟨?_, ?_, ?_⟩⟩
    · rcases hd with rfl | rfl | rfl | rfl <;> omega
    · unfold gfold; rw [if_pos hlt]
    · rcases hd with rfl | rfl | rfl | rfl <;> omega
  · refine ⟨i / (2 * d), i % (2 * d) - d, hp.1, ?_, Or.inr ⟨?_, ?_, ?_⟩⟩
    · rcases hd with rfl | rfl | rfl | rfl <;> omega
    · rcases hd with rfl | rfl | rfl | rfl <;> omega
    · unfold gfold; rw [if_neg hlt]
    · rcases hd with rfl | rfl | rfl | rfl <;> omega
theorem gtn_mem {f : Nat} : gtn f ∈ [16, 32] := by unfold gtn; split <;> decide
theorem GW.step {H W r c k f : Nat} {t : Nat → Nat} (h : GW H W r c k t) (hf : f ∈ [1, 2, 3, 4]) (hg : gcan f r c = true) : GW H W (gr f r) (gc f c) (k + 1) (gfold f r c (2 ^ k) t) := by
  obtain ⟨hH, hW, hr, hc, hk, hN, ht⟩ := h
  obtain ⟨k4, hd, lr, lc, hC, hN2⟩ := can_facts hf hr hc hg hk hN (area_le hH hW)
  refine ⟨hH, hW, lr, lc, by omega, hN2, fun i hi => ?_⟩
  obtain ⟨p, k', hp, hk', h | h⟩ := gfold_src (t := t) hf hr hc hg hd hN (area_le hH hW) hC hi
  · obtain ⟨-, he, hl⟩ := h
    obtain ⟨x1, x2⟩ := xo_facts _ (ht _ hl).1 _ (gtn_mem (f := f))
    have := ht _ hl
    rw [he, x2]
    refine ⟨x1, this.2.1, ?_⟩
    omega
  · obtain ⟨-, he, hl⟩ := h
    rw [he]
    exact ht _ hl
theorem lay_row {H W r c k f np : Nat} {t : Nat → Nat} {T T' : Nat → Int} {tn : Int} (hg : GW H W r c k t) (hf : f ∈ [1, 2, 3, 4]) (hcan : gcan f r c = true) (hT : ∀ i : Nat, i < H * W → T i = (t i : Int)) (hnp : gr f r * gc f c = np) (htn : ∀ n : Nat, n < 64 → b4xor (n : Int) tn = ((n ^^^ gtn f : Nat) : Int))
    (hR : ∀ p' k' : Nat, 0 ≤ p' → p' < np → k' < 2 ^ k → T' (2 * 2 ^ k * p' + k') = b4xor (T ((gmv f r c p' + 1) * 2 ^ k - 1 - k')) tn ∧ T' (2 * 2 ^ k * p' + 2 ^ k + k') = T (gst f r c p' * 2 ^ k + k')) : ∀ i : Nat, i < H * W → T' i = (gfold f r c (2 ^ k) t i : Int) := by
  intro i hi
  obtain ⟨hH, hW, hr, hc, hk, hN, ht⟩ := hg
  obtain ⟨k4, hd, lr, lc, hC, hN2⟩ := can_facts hf hr hc hcan hk hN (area_le hH hW)
  obtain ⟨p, k', hp, hk', h | h⟩ := gfold_src (t := t) hf hr hc hcan hd hN (area_le hH hW) hC hi
  · obtain ⟨e1, e2, e3⟩ := h
    rw [e2, e1, (hR p k' (by omega) (by omega) hk').1, hT _ e3, htn _ (ht _ e3).1]
  · obtain ⟨e1, e2, e3⟩ := h
    rw [e2, e1, (hR p k' (by omega) (by omega) hk').2, hT _ e3]
set_option maxRecDepth 100000 in
theorem lay_eq {R : xN} {b H W r c k fn f : Nat} {t : Nat → Nat} (hg : GW H W r c k t) (hf : f ∈ [1, 2, 3, 4]) (hcan : gcan f r c = true) (hL : LR R b H W r c k fn t) (hfn : fn < 100000) : ∃ R', f_X3_lay b (f : Int) R = some R' ∧ LR R' b H W (gr f r) (gc f c) (k + 1) (fn * 10 + f) (gfold f r c (2 ^ k) t) ∧ ∀ q j : Nat, q ≠ b → q ≠ b + 1 → q ≠ b + 2 → R' q j = R q j := by
  obtain ⟨l0, l1, l2, l3, l4, l5, lt⟩ := hL
  have hg' := hg
  obtain ⟨hH, hW, hr, hc, hk, hN, ht⟩ := hg'
  obtain ⟨k4, hd, lr, lc, hC, hN2⟩ := can_facts hf hr hc hcan hk hN (area_le hH hW)
  have hkd : b4shl 1 (k : Int) = ((2 ^ k : Nat) : Int) := shl1 k hk
  have h16 := area_le hH hW
  have hk1 : Qe (w4 ((k : Int) + 1)) ((k + 1 : Nat) : Int) := by unfold Qe; rw [w4_of (by omega)]; omega
  have hf4 : f = 1 ∨ f = 2 ∨ f = 3 ∨ f = 4 := by simpa using hf
  have hfn' : Qe (w4 (w4 ((fn : Int) * 10) + (f : Int))) ((fn * 10 + f : Nat) : Int) := by unfold Qe; rw [w4_of (x := (fn : Int) * 10) (by omega), w4_of (by omega)]; omega
  have fin : ∀ (R1 : xN) (r' c' : Nat), r' = gr f r → c' = gc f c → (∀ q j : Nat, q ≠ b + 2 → R1 q j = R q j) → (∀ i : Nat, i < H * W → R1 (b + 2) i = (gfold f r c (2 ^ k) t i : Int)) →
      LR (xup (xup (xup (xup (xcpy R1 (b + 2) (b + 1) 0 0 16) b 2 (r' : Int)) b 3 (c' : Int)) b 4 ((fn * 10 + f : Nat) : Int)) b 5 ((k + 1 : Nat) : Int)) b H W (gr f r) (gc f c) (k + 1) (fn * 10 + f) (gfold f r c (2 ^ k) t) ∧ ∀ q j : Nat, q ≠ b → q ≠ b + 1 → q ≠ b + 2 → xup (xup (xup (xup (xcpy R1 (b + 2) (b + 1) 0 0 16) b 2 (r' : Int)) b 3 (c' : Int)) b 4 ((fn * 10 + f : Nat) : Int)) b 5 ((k + 1 : Nat) : Int) q j = R q j := by
    intro R1 r' c' er ec h1 h2
    have nb : ¬ (b = b + 1) := by omega
    have nb2 : ¬ (b + 1 = b) := by omega
    refine ⟨⟨?_, ?_, ?_, ?_, ?_, ?_, fun i hi => ?_⟩, fun q j h3 h4 h5 => ?_⟩
    · simp [xup_get, xcpy_get]; rw [h1 b 0 (by omega), l0]
    · simp [xup_get, xcpy_get]; rw [h1 b 1 (by omega), l1]
    · simp [xup_get, er]
    · simp [xup_get, ec]
    · simp [xup_get]
    · simp [xup_get]
    · simp only [xup_get, xcpy_get, if_neg nb2, if_true]
      rw [if_pos (by omega), h2 i hi]
    · simp only [xup_get, xcpy_get, if_neg h3, if_neg h4]
      exact h1 q j h5
  have x32 : ∀ n : Nat, n < 64 → b4xor (n : Int) 32 = ((n ^^^ 32 : Nat) : Int) := fun n hn => (bxo n hn).2
  have x16 : ∀ n : Nat, n < 64 → b4xor (n : Int) 16 = ((n ^^^ 16 : Nat) : Int) := fun n hn => (bxo n hn).1
  by_cases hs : f ≤ 2
  · have hcm : c ∈ [2, 4] := len_mem2 hc (by unfold gcan at hcan; rw [if_pos hs] at hcan; exact of_decide_eq_true hcan)
    have er : gr f r = r := by unfold gr; rw [if_pos hs]
    have ec : gc f c = c / 2 := by unfold gc; rw [if_pos hs]
    have hf2 : f ∈ [1, 2] := by rcases hf4 with rfl | rfl | rfl | rfl <;> first | decide | omega
    have hc2 : Qe (w4 (Int.tdiv (c : Int) 2)) ((c / 2 : Nat) : Int) := by
      unfold Qe
      have : ∀ c ∈ ([2, 4] : List Nat), w4 (Int.tdiv ((c : Nat) : Int) 2) = ((c / 2 : Nat) : Int) := by decide +kernel
      exact this c hcm
    rw [er, ec] at hC
    obtain ⟨R1, a1, a2, a3⟩ := lay56_lp (a := b) (len_mem hr) hcm hf2 hd hkd rfl hC (by omega) 6000 0 R (by omega) (by have := area_le hr hc; omega) l3 l5
    have hrow := lay_row (np := r * (c / 2)) (T := R (b + 1)) (T' := R1 (b + 2)) (tn := 16) hg hf hcan lt (by rw [er, ec]) (by unfold gtn; rw [if_pos hs]; exact x16) a2
    obtain ⟨F1, F2⟩ := fin R1 r (c / 2) er.symm ec.symm (fun q j hq => a3 q j (by omega)) hrow
    refine ⟨_, ?_, F1, F2⟩
    have a1' := fun X => a1 X
    rw [show ((0 : Nat) : Int) = 0 from rfl] at a1'
    have hb1 : ∀ q j : Nat, q ≠ b + 2 → R1 q j = R q j := fun q j hq => a3 q j (by omega)
    unfold f_X3_lay
    simp only [xlet]
    rw [l2, l3, hc2.eq]
    have n1 : ¬ (b = b + 1) := by omega
    have rd4 : ∀ x y : Int, (xup (xup (xcpy R1 (b + 2) (b + 1) 0 0 16) b 2 x) b 3 y) b 4 = (fn : Int) := fun x y => by
      simp only [xup_get, xcpy_get, if_true, if_neg n1, Nat.reduceEqDiff, if_false]
      rw [hb1 b 4 (by omega), l4]
    have rd5 : ∀ x y z : Int, (xup (xup (xup (xcpy R1 (b + 2) (b + 1) 0 0 16) b 2 x) b 3 y) b 4 z) b 5 = (k : Int) := fun x y z => by
      simp only [xup_get, xcpy_get, if_true, if_neg n1, Nat.reduceEqDiff, if_false]
      rw [hb1 b 5 (by omega), l5]
    rcases hf4 with rfl | rfl | rfl | rfl
    · rw [if_pos (by decide), a1', rd4, hfn'.eq, rd5, hk1.eq]
    · rw [if_neg (by decide), if_pos (by decide), a1', rd4, hfn'.eq, rd5, hk1.eq]
    · omega
    · omega
  · have hrm : r ∈ [2, 4] := len_mem2 hr (by unfold gcan at hcan; rw [if_neg hs] at hcan; exact of_decide_eq_true hcan)
    have er : gr f r = r / 2 := by unfold gr; rw [if_neg hs]
    have ec : gc f c = c := by unfold gc; rw [if_neg hs]
    have hf2 : f ∈ [3, 4] := by rcases hf4 with rfl | rfl | rfl | rfl <;> first | decide | omega
    have hc2 : Qe (w4 (Int.tdiv (r : Int) 2)) ((r / 2 : Nat) : Int) := by
      unfold Qe
      have : ∀ c ∈ ([2, 4] : List Nat), w4 (Int.tdiv ((c : Nat) : Int) 2) = ((c / 2 : Nat) : Int) := by decide +kernel
      exact this r hrm
    rw [er, ec] at hC
    obtain ⟨R1, a1, a2, a3⟩ := lay561_lp (a := b) hrm (len_mem hc) hf2 hd hkd rfl hC (by omega) 6000 0 R (by omega) (by have := area_le hr hc; omega) l2 l3 l5
    have hrow := lay_row (np := r / 2 * c) (T := R (b + 1)) (T' := R1 (b + 2)) (tn := 32) hg hf hcan lt (by rw [er, ec]) (by unfold gtn; rw [if_neg hs]; exact x32) a2
    obtain ⟨F1, F2⟩ := fin R1 (r / 2) c er.symm ec.symm (fun q j hq => a3 q j (by omega)) hrow
    refine ⟨_, ?_, F1, F2⟩
    have a1' := fun X => a1 X
    rw [show ((0 : Nat) : Int) = 0 from rfl] at a1'
    have hb1 : ∀ q j : Nat, q ≠ b + 2 → R1 q j = R q j := fun q j hq => a3 q j (by omega)
    unfold f_X3_lay
    simp only [xlet]
    rw [l2, l3, hc2.eq]
    have n1 : ¬ (b = b + 1) := by omega
    have rd4 : ∀ x y : Int, (xup (xup (xcpy R1 (b + 2) (b + 1) 0 0 16) b 2 x) b 3 y) b 4 = (fn : Int) := fun x y => by
      simp only [xup_get, xcpy_get, if_true, if_neg n1, Nat.reduceEqDiff, if_false]
      rw [hb1 b 4 (by omega), l4]
    have rd5 : ∀ x y z : Int, (xup (xup (xup (xcpy R1 (b + 2) (b + 1) 0 0 16) b 2 x) b 3 y) b 4 z) b 5 = (k : Int) := fun x y z => by
      simp only [xup_get, xcpy_get, if_true, if_neg n1, Nat.reduceEqDiff, if_false]
      rw [hb1 b 5 (by omega), l5]
    rcases hf4 with rfl | rfl | rfl | rfl
    · omega
    · omega
    · rw [if_neg (by decide), if_neg (by decide), a1', rd4, hfn'.eq, rd5, hk1.eq]
    · rw [if_neg (by decide), if_neg (by decide), a1', rd4, hfn'.eq, rd5, hk1.eq]
theorem xo_lay : ∀ n : Nat, n < 64 → (cel 1 (n ^^^ 16) = cel 1 n ∧ cel 1 (n ^^^ 32) = cel 1 n ∧ cel 2 (n ^^^ 16) = cel 2 n ∧ cel 2 (n ^^^ 32) = cel 2 n ∧ cel 4 (n ^^^ 16) = cel 4 n ∧ cel 4 (n ^^^ 32) = cel 4 n) ∧ w4 (1 - (sid n : Int)) = (sid (n ^^^ 16) : Int) ∧ w4 (1 - (sid n : Int)) = (sid (n ^^^ 32) : Int) ∧ w4 (1 - (mir n : Int)) = (mir (n ^^^ 16) : Int) ∧ mir n = mir (n ^^^ 32) ∧ ups n = ups (n ^^^ 16) ∧ w4 (1 - (ups n : Int)) = (ups (n ^^^ 32) : Int) := by decide +kernel
set_option maxRecDepth 100000 in
theorem mfold_eq {R : xN} {H W r c k f : Nat} {t : Nat → Nat} (hg : GW H W r c k t) (hf : f ∈ [1, 2, 3, 4]) (hcan : gcan f r c = true) (hM : MR R H W r c k t) : ∃ R', f_X10_foldBy 323 (f : Int) R = some R' ∧ MR R' H W (gr f r) (gc f c) (k + 1) (gfold f r c (2 ^ k) t) ∧ ∀ q j : Nat, ¬ (q = 323 ∧ 7 ≤ j ∧ j ≤ 9) → ¬ (328 ≤ q ∧ q < 336) → R' q j = R q j := by
  obtain ⟨l7, l8, l9, lt⟩ := hM
  obtain ⟨hH, hW, hr, hc, hk, hN, ht⟩ := hg
  obtain ⟨k4, hd, lr, lc, hC, hN2⟩ := can_facts hf hr hc hcan hk hN (area_le hH hW)
  have h16 := area_le hH hW
  have hf4 : f = 1 ∨ f = 2 ∨ f = 3 ∨ f = 4 := by simpa using hf
  obtain ⟨g0, gN, gr2, gc2, gnp, -⟩ := mf_factsq f hf r (len_mem hr) c (len_mem hc) hcan
  obtain ⟨R1, a1, a2, a3⟩ := had_lp (p1 := (f : Int)) 6000 0 R (by omega) (by omega)
  have htn : Qe (if 3 ≤ (f : Int) then (2 : Int) else 1) ((if f ≤ 2 then 1 else 2 : Nat) : Int) := by rcases hf4 with rfl | rfl | rfl | rfl <;> rfl
  have m7 : R1 323 7 = (r : Int) := by rw [a3 323 7 (by omega), l7]
  have m8 : R1 323 8 = (c : Int) := by rw [a3 323 8 (by omega), l8]
  have m9 : R1 323 9 = ((2 ^ k : Nat) : Int) := by rw [a3 323 9 (by omega), l9]
  obtain ⟨R2, b1, b2, b3⟩ := in103_lp (len_mem hr) (len_mem hc) hf hcan hd (by omega) htn 6000 0 R1 (by omega) (by have := area_le hr hc; omega) m7 m8 m9
  have hw9 : Qe (w4 (2 * ((2 ^ k : Nat) : Int))) ((2 ^ (k + 1) : Nat) : Int) := by
    unfold Qe
    rw [Nat.pow_succ, w4_of (by rcases hd with h | h | h | h <;> omega)]
    omega
  have r9 : R2 323 9 = ((2 ^ k : Nat) : Int) := by rw [b3 323 9 (by omega), m9]
  refine ⟨xup (xup (xup R2 323 7 (gr f r : Int)) 323 8 (gc f c : Int)) 323 9 ((2 ^ (k + 1) : Nat) : Int), ?_, ⟨?_, ?_, ?_, fun i hi => ?_⟩, fun q j h1 h2 => ?_⟩
  · unfold f_X10_foldBy
    rw [show ((0 : Nat) : Int) = 0 from rfl] at a1 b1
    rw [a1]
    simp only [xlet]
    rw [m7, m8, gr2.eq, gc2.eq, b1]
    simp only [xup_get, if_true, Nat.reduceEqDiff, if_false]
    rw [r9, hw9.eq]
  · simp [xup_get]
  · simp [xup_get]
  · simp [xup_get]
  · have hrow : ∀ e : Nat, e < 4 → xup (xup (xup R2 323 7 (gr f r : Int)) 323 8 (gc f c : Int)) 323 9 ((2 ^ (k + 1) : Nat) : Int) (328 + e) i = R2 (328 + e) i := fun e he => by
      simp only [xup_get]
      rw [if_neg (by omega), if_neg (by omega), if_neg (by omega)]
    have h0 := hrow 0 (by omega)
    have h1 := hrow 1 (by omega)
    have h2 := hrow 2 (by omega)
    have h3 := hrow 3 (by omega)
    simp only [Nat.reduceAdd] at h0 h1 h2 h3
    rw [h0, h1, h2, h3]
    have had : ∀ j : Nat, j < H * W → R1 332 j = (cel W (t j) : Int) ∧ R1 333 j = (sid (t j) : Int) ∧ R1 334 j = (mir (t j) : Int) ∧ R1 335 j = (ups (t j) : Int) := fun j hj => by
      have q0 := a2 0 j (by omega) (by omega) (by omega)
      have q1 := a2 1 j (by omega) (by omega) (by omega)
      have q2 := a2 2 j (by omega) (by omega) (by omega)
      have q3 := a2 3 j (by omega) (by omega) (by omega)
      simp only [Nat.reduceAdd] at q0 q1 q2 q3
      rw [q0, q1, q2, q3]
      exact lt j hj
    obtain ⟨p, k', hp, hk', h | h⟩ := gfold_src (t := t) hf hr hc hcan hd hN (area_le hH hW) hC hi
    · obtain ⟨e1, e2, e3⟩ := h
      have B := fun e he => (b2 e p k' he (by omega) hp hk').1
      have B0 := B 0 (by omega)
      have B1 := B 1 (by omega)
      have B2 := B 2 (by omega)
      have B3 := B 3 (by omega)
      simp only [Nat.reduceAdd, hv, Nat.reduceEqDiff, if_true, if_false] at B0 B1 B2 B3
      obtain ⟨d0, d1, d2, d3⟩ := had _ e3
      obtain ⟨x1, x2, x3, x4, x5, x6, x7⟩ := xo_lay _ (ht _ e3).1
      rw [e1, B0, B1, B2, B3, ← e1, e2, d0, d1, d2, d3]
      by_cases hs : f ≤ 2
      · rw [show gtn f = 16 by unfold gtn; rw [if_pos hs]]
        simp only [if_pos hs]
        refine ⟨?_, by simpa using x2, by simpa using x4, by simpa using congrArg (fun n : Nat => (n : Int)) x6⟩
        rcases hW with rfl | rfl | rfl <;> simp [x1]
      · rw [show gtn f = 32 by unfold gtn; rw [if_neg hs]]
        simp only [if_neg hs]
        refine ⟨?_, by simpa using x3, by simpa using congrArg (fun n : Nat => (n : Int)) x5, by simpa using x7⟩
        rcases hW with rfl | rfl | rfl <;> simp [x1]
    · obtain ⟨e1, e2, e3⟩ := h
      have B := fun e he => (b2 e p k' he (by omega) hp hk').2
      have B0 := B 0 (by omega)
      have B1 := B 1 (by omega)
      have B2 := B 2 (by omega)
      have B3 := B 3 (by omega)
      simp only [Nat.reduceAdd, hv, Nat.reduceEqDiff, if_true, if_false] at B0 B1 B2 B3
      obtain ⟨d0, d1, d2, d3⟩ := had _ e3
      rw [e1, B0, B1, B2, B3, ← e1, e2, d0, d1, d2, d3]
      exact ⟨rfl, rfl, by simp, by simp⟩
  · simp only [xup_get]
    by_cases hq : q = 323
    · rw [if_pos hq, if_neg (by omega), if_pos hq, if_neg (by omega), if_pos hq, if_neg (by omega), b3 q j (by omega), a3 q j (by omega)]
    · rw [if_neg hq, if_neg hq, if_neg hq, b3 q j (by omega), a3 q j (by omega)]
