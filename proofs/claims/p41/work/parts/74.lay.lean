/-! A sheet's layers in memory: class (LR) and model (MR); one fold of each. -/
def cel (W n : Nat) : Nat := W * (n % 16 / 4) + n % 4
def mir (n : Nat) : Nat := n / 16 % 2
def ups (n : Nat) : Nat := n / 32 % 2
def sid (n : Nat) : Nat := (n / 16 + n / 32) % 2
def len (n : Nat) : Prop := n = 1 ∨ n = 2 ∨ n = 4
/-- a table of a sheet H x W with r rows and c columns of places left, k folds -/
def GW (H W r c k : Nat) (t : Nat → Nat) : Prop := len H ∧ len W ∧ len r ∧ len c ∧ k < 5 ∧ r * c * 2 ^ k = H * W ∧ ∀ i : Nat, i < H * W → t i < 64 ∧ t i % 16 / 4 < H ∧ t i % 4 < W
def LR (R : xN) (b H W r c k fn : Nat) (t : Nat → Nat) : Prop := R b 0 = (H : Int) ∧ R b 1 = (W : Int) ∧ R b 2 = (r : Int) ∧ R b 3 = (c : Int) ∧ R b 4 = (fn : Int) ∧ R b 5 = (k : Int) ∧ ∀ i : Nat, i < H * W → R (b + 1) i = (t i : Int)
theorem len_mem {n : Nat} (h : len n) : n ∈ [1, 2, 4] := by rcases h with rfl | rfl | rfl <;> decide
theorem len_mem2 {n : Nat} (h : len n) (h1 : 1 < n) : n ∈ [2, 4] := by rcases h with rfl | rfl | rfl <;> first | decide | omega
theorem area_le {H W : Nat} (h : len H) (w : len W) : H * W ≤ 16 := by rcases h with rfl | rfl | rfl <;> rcases w with rfl | rfl | rfl <;> decide
theorem can_facts {f r c k N : Nat} (hf : f ∈ [1, 2, 3, 4]) (hr : len r) (hc : len c) (hg : gcan f r c = true) (hk : k < 5) (hN : r * c * 2 ^ k = N) (h16 : N ≤ 16) : k < 4 ∧ (2 ^ k = 1 ∨ 2 ^ k = 2 ∨ 2 ^ k = 4 ∨ 2 ^ k = 8) ∧ len (gr f r) ∧ len (gc f c) ∧ gr f r * gc f c * 2 = r * c ∧ gr f r * gc f c * 2 ^ (k + 1) = N := by
  have h2 : 2 ≤ r * c ∧ len (gr f r) ∧ len (gc f c) ∧ gr f r * gc f c * 2 = r * c := by
    have : ∀ f ∈ ([1, 2, 3, 4] : List Nat), ∀ r ∈ ([1, 2, 4] : List Nat), ∀ c ∈ ([1, 2, 4] : List Nat), gcan f r c = true → 2 ≤ r * c ∧ (gr f r = 1 ∨ gr f r = 2 ∨ gr f r = 4) ∧ (gc f c = 1 ∨ gc f c = 2 ∨ gc f c = 4) ∧ gr f r * gc f c * 2 = r * c := by decide
    exact this f hf r (len_mem hr) c (len_mem hc) hg
  obtain ⟨h2, hA, hB, hC⟩ := h2
  have hk5 : k = 0 ∨ k = 1 ∨ k = 2 ∨ k = 3 ∨ k = 4 := by omega
  refine ⟨?_, ?_, hA, hB, hC, ?_⟩
  · rcases hk5 with rfl | rfl | rfl | rfl | rfl <;> simp at hN <;> omega
  · rcases hk5 with rfl | rfl | rfl | rfl | rfl <;> simp at hN ⊢ <;> omega
  · rw [← hN, ← hC, Nat.pow_succ]
    rcases hk5 with rfl | rfl | rfl | rfl | rfl <;> simp <;> omega
theorem xo_facts : ∀ n : Nat, n < 64 → ∀ t ∈ ([16, 32] : List Nat), n ^^^ t < 64 ∧ (n ^^^ t) % 16 = n % 16 := by decide
/-- where a folded table's layer comes from -/
theorem gfold_src {f r c d N i : Nat} {t : Nat → Nat} (hf : f ∈ [1, 2, 3, 4]) (hr : len r) (hc : len c) (hg : gcan f r c = true) (hd : d = 1 ∨ d = 2 ∨ d = 4 ∨ d = 8) (hN : r * c * d = N) (h16 : N ≤ 16) (hC : gr f r * gc f c * 2 = r * c) (hi : i < N) : ∃ p k' : Nat, p < gr f r * gc f c ∧ k' < d ∧
    ((i = 2 * d * p + k' ∧ gfold f r c d t i = (t ((gmv f r c p + 1) * d - 1 - k')) ^^^ gtn f ∧ (gmv f r c p + 1) * d - 1 - k' < N) ∨ (i = 2 * d * p + d + k' ∧ gfold f r c d t i = t (gst f r c p * d + k') ∧ gst f r c p * d + k' < N)) := by
  have hp : i / (2 * d) < gr f r * gc f c ∧ i / (2 * d) < 8 := by rcases hd with rfl | rfl | rfl | rfl <;> omega
  obtain ⟨-, -, -, -, -, gf⟩ := mf_factsq f hf r (len_mem hr) c (len_mem hc) hg
  obtain ⟨-, -, hm1, hs1⟩ := gf _ hp.2 hp.1
  by_cases hlt : i % (2 * d) < d
  · refine ⟨i / (2 * d), i % (2 * d), hp.1, hlt, Or.inl ⟨?_, ?_, ?_⟩⟩
    · rcases hd with rfl | rfl | rfl | rfl <;> omega
    · unfold gfold; rw [if_pos hlt]
    · rcases hd with rfl | rfl | rfl | rfl <;> omega
  · refine ⟨i / (2 * d), i % (2 * d) - d, hp.1, ?_, Or.inr ⟨?_, ?_, ?_⟩⟩
    · rcases hd with rfl | rfl | rfl | rfl <;> omega
    · rcases hd with rfl | rfl | rfl | rfl <;> omega
    · unfold gfold; rw [if_neg hlt]
    · rcases hd with rfl | rfl | rfl | rfl <;> omega
theorem gtn_mem {f : Nat} : gtn f ∈ [16, 32] := by unfold gtn; split <;> decide
theorem GW.step {H W r c k f : Nat} {t : Nat → Nat} (h : GW H W r c k t) (hf : f ∈ [1, 2, 3, 4]) (hg : gcan f r c = true) : GW H W (gr f r) (gc f c) (k + 1) (gfold f r c (2 ^ k) t) := by
  obtain ⟨hH, hW, hr, hc, hk, hN, ht⟩ := h
  obtain ⟨k4, hd, lr, lc, hC, hN2⟩ := can_facts hf hr hc hg hk hN (area_le hH hW)
  refine ⟨hH, hW, lr, lc, by omega, hN2, fun i hi => ?_⟩
  obtain ⟨p, k', hp, hk', h | h⟩ := gfold_src (t := t) hf hr hc hg hd hN (area_le hH hW) hC hi
  · obtain ⟨-, he, hl⟩ := h
    obtain ⟨x1, x2⟩ := xo_facts _ (ht _ hl).1 _ (gtn_mem (f := f))
    have := ht _ hl
    rw [he, x2]
    refine ⟨x1, this.2.1, ?_⟩
    omega
  · obtain ⟨-, he, hl⟩ := h
    rw [he]
    exact ht _ hl
theorem lay_row {H W r c k f np : Nat} {t : Nat → Nat} {T T' : Nat → Int} {tn : Int} (hg : GW H W r c k t) (hf : f ∈ [1, 2, 3, 4]) (hcan : gcan f r c = true) (hT : ∀ i : Nat, i < H * W → T i = (t i : Int)) (hnp : gr f r * gc f c = np) (htn : ∀ n : Nat, n < 64 → b4xor (n : Int) tn = ((n ^^^ gtn f : Nat) : Int))
    (hR : ∀ p' k' : Nat, 0 ≤ p' → p' < np → k' < 2 ^ k → T' (2 * 2 ^ k * p' + k') = b4xor (T ((gmv f r c p' + 1) * 2 ^ k - 1 - k')) tn ∧ T' (2 * 2 ^ k * p' + 2 ^ k + k') = T (gst f r c p' * 2 ^ k + k')) : ∀ i : Nat, i < H * W → T' i = (gfold f r c (2 ^ k) t i : Int) := by
  intro i hi
  obtain ⟨hH, hW, hr, hc, hk, hN, ht⟩ := hg
  obtain ⟨k4, hd, lr, lc, hC, hN2⟩ := can_facts hf hr hc hcan hk hN (area_le hH hW)
  obtain ⟨p, k', hp, hk', h | h⟩ := gfold_src (t := t) hf hr hc hcan hd hN (area_le hH hW) hC hi
  · obtain ⟨e1, e2, e3⟩ := h
    rw [e2, e1, (hR p k' (by omega) (by omega) hk').1, hT _ e3, htn _ (ht _ e3).1]
  · obtain ⟨e1, e2, e3⟩ := h
    rw [e2, e1, (hR p k' (by omega) (by omega) hk').2, hT _ e3]
set_option maxRecDepth 100000 in
theorem lay_eq {R : xN} {b H W r c k fn f : Nat} {t : Nat → Nat} (hg : GW H W r c k t) (hf : f ∈ [1, 2, 3, 4]) (hcan : gcan f r c = true) (hL : LR R b H W r c k fn t) (hfn : fn < 100000) : ∃ R', f_X3_lay b (f : Int) R = some R' ∧ LR R' b H W (gr f r) (gc f c) (k + 1) (fn * 10 + f) (gfold f r c (2 ^ k) t) ∧ ∀ q j : Nat, q ≠ b → q ≠ b + 1 → q ≠ b + 2 → R' q j = R q j := by
  obtain ⟨l0, l1, l2, l3, l4, l5, lt⟩ := hL
  have hg' := hg
  obtain ⟨hH, hW, hr, hc, hk, hN, ht⟩ := hg'
  obtain ⟨k4, hd, lr, lc, hC, hN2⟩ := can_facts hf hr hc hcan hk hN (area_le hH hW)
  have hkd : b4shl 1 (k : Int) = ((2 ^ k : Nat) : Int) := shl1 k hk
  have h16 := area_le hH hW
  have hk1 : Qe (w4 ((k : Int) + 1)) ((k + 1 : Nat) : Int) := by unfold Qe; rw [w4_of (by omega)]; omega
  have hf4 : f = 1 ∨ f = 2 ∨ f = 3 ∨ f = 4 := by simpa using hf
  have hfn' : Qe (w4 (w4 ((fn : Int) * 10) + (f : Int))) ((fn * 10 + f : Nat) : Int) := by unfold Qe; rw [w4_of (x := (fn : Int) * 10) (by omega), w4_of (by omega)]; omega
  have fin : ∀ (R1 : xN) (r' c' : Nat), r' = gr f r → c' = gc f c → (∀ q j : Nat, q ≠ b + 2 → R1 q j = R q j) → (∀ i : Nat, i < H * W → R1 (b + 2) i = (gfold f r c (2 ^ k) t i : Int)) →
      LR (xup (xup (xup (xup (xcpy R1 (b + 2) (b + 1) 0 0 16) b 2 (r' : Int)) b 3 (c' : Int)) b 4 ((fn * 10 + f : Nat) : Int)) b 5 ((k + 1 : Nat) : Int)) b H W (gr f r) (gc f c) (k + 1) (fn * 10 + f) (gfold f r c (2 ^ k) t) ∧ ∀ q j : Nat, q ≠ b → q ≠ b + 1 → q ≠ b + 2 → xup (xup (xup (xup (xcpy R1 (b + 2) (b + 1) 0 0 16) b 2 (r' : Int)) b 3 (c' : Int)) b 4 ((fn * 10 + f : Nat) : Int)) b 5 ((k + 1 : Nat) : Int) q j = R q j := by
    intro R1 r' c' er ec h1 h2
    have nb : ¬ (b = b + 1) := by omega
    have nb2 : ¬ (b + 1 = b) := by omega
    refine ⟨⟨?_, ?_, ?_, ?_, ?_, ?_, fun i hi => ?_⟩, fun q j h3 h4 h5 => ?_⟩
    · simp [xup_get, xcpy_get]; rw [h1 b 0 (by omega), l0]
    · simp [xup_get, xcpy_get]; rw [h1 b 1 (by omega), l1]
    · simp [xup_get, er]
    · simp [xup_get, ec]
    · simp [xup_get]
    · simp [xup_get]
    · simp only [xup_get, xcpy_get, if_neg nb2, if_true]
      rw [if_pos (by omega), h2 i hi]
    · simp only [xup_get, xcpy_get, if_neg h3, if_neg h4]
      exact h1 q j h5
  have x32 : ∀ n : Nat, n < 64 → b4xor (n : Int) 32 = ((n ^^^ 32 : Nat) : Int) := fun n hn => (bxo n hn).2
  have x16 : ∀ n : Nat, n < 64 → b4xor (n : Int) 16 = ((n ^^^ 16 : Nat) : Int) := fun n hn => (bxo n hn).1
  by_cases hs : f ≤ 2
  · have hcm : c ∈ [2, 4] := len_mem2 hc (by unfold gcan at hcan; rw [if_pos hs] at hcan; exact of_decide_eq_true hcan)
    have er : gr f r = r := by unfold gr; rw [if_pos hs]
    have ec : gc f c = c / 2 := by unfold gc; rw [if_pos hs]
    have hf2 : f ∈ [1, 2] := by rcases hf4 with rfl | rfl | rfl | rfl <;> first | decide | omega
    have hc2 : Qe (w4 (Int.tdiv (c : Int) 2)) ((c / 2 : Nat) : Int) := by
      unfold Qe
      have : ∀ c ∈ ([2, 4] : List Nat), w4 (Int.tdiv ((c : Nat) : Int) 2) = ((c / 2 : Nat) : Int) := by decide +kernel
      exact this c hcm
    rw [er, ec] at hC
    obtain ⟨R1, a1, a2, a3⟩ := lay56_lp (a := b) (len_mem hr) hcm hf2 hd hkd rfl hC (by omega) 6000 0 R (by omega) (by have := area_le hr hc; omega) l3 l5
    have hrow := lay_row (np := r * (c / 2)) (T := R (b + 1)) (T' := R1 (b + 2)) (tn := 16) hg hf hcan lt (by rw [er, ec]) (by unfold gtn; rw [if_pos hs]; exact x16) a2
    obtain ⟨F1, F2⟩ := fin R1 r (c / 2) er.symm ec.symm (fun q j hq => a3 q j (by omega)) hrow
    refine ⟨_, ?_, F1, F2⟩
    have a1' := fun X => a1 X
    rw [show ((0 : Nat) : Int) = 0 from rfl] at a1'
    have hb1 : ∀ q j : Nat, q ≠ b + 2 → R1 q j = R q j := fun q j hq => a3 q j (by omega)
    unfold f_X3_lay
    simp only [xlet]
    rw [l2, l3, hc2.eq]
    have n1 : ¬ (b = b + 1) := by omega
    have rd4 : ∀ x y : Int, (xup (xup (xcpy R1 (b + 2) (b + 1) 0 0 16) b 2 x) b 3 y) b 4 = (fn : Int) := fun x y => by
      simp only [xup_get, xcpy_get, if_true, if_neg n1, Nat.reduceEqDiff, if_false]
      rw [hb1 b 4 (by omega), l4]
    have rd5 : ∀ x y z : Int, (xup (xup (xup (xcpy R1 (b + 2) (b + 1) 0 0 16) b 2 x) b 3 y) b 4 z) b 5 = (k : Int) := fun x y z => by
      simp only [xup_get, xcpy_get, if_true, if_neg n1, Nat.reduceEqDiff, if_false]
      rw [hb1 b 5 (by omega), l5]
    rcases hf4 with rfl | rfl | rfl | rfl
    · rw [if_pos (by decide), a1', rd4, hfn'.eq, rd5, hk1.eq]
    · rw [if_neg (by decide), if_pos (by decide), a1', rd4, hfn'.eq, rd5, hk1.eq]
    · omega
    · omega
  · have hrm : r ∈ [2, 4] := len_mem2 hr (by unfold gcan at hcan; rw [if_neg hs] at hcan; exact of_decide_eq_true hcan)
    have er : gr f r = r / 2 := by unfold gr; rw [if_neg hs]
    have ec : gc f c = c := by unfold gc; rw [if_neg hs]
    have hf2 : f ∈ [3, 4] := by rcases hf4 with rfl | rfl | rfl | rfl <;> first | decide | omega
    have hc2 : Qe (w4 (Int.tdiv (r : Int) 2)) ((r / 2 : Nat) : Int) := by
      unfold Qe
      have : ∀ c ∈ ([2, 4] : List Nat), w4 (Int.tdiv ((c : Nat) : Int) 2) = ((c / 2 : Nat) : Int) := by decide +kernel
      exact this r hrm
    rw [er, ec] at hC
    obtain ⟨R1, a1, a2, a3⟩ := lay561_lp (a := b) hrm (len_mem hc) hf2 hd hkd rfl hC (by omega) 6000 0 R (by omega) (by have := area_le hr hc; omega) l2 l3 l5
    have hrow := lay_row (np := r / 2 * c) (T := R (b + 1)) (T' := R1 (b + 2)) (tn := 32) hg hf hcan lt (by rw [er, ec]) (by unfold gtn; rw [if_neg hs]; exact x32) a2
    obtain ⟨F1, F2⟩ := fin R1 (r / 2) c er.symm ec.symm (fun q j hq => a3 q j (by omega)) hrow
    refine ⟨_, ?_, F1, F2⟩
    have a1' := fun X => a1 X
    rw [show ((0 : Nat) : Int) = 0 from rfl] at a1'
    have hb1 : ∀ q j : Nat, q ≠ b + 2 → R1 q j = R q j := fun q j hq => a3 q j (by omega)
    unfold f_X3_lay
    simp only [xlet]
    rw [l2, l3, hc2.eq]
    have n1 : ¬ (b = b + 1) := by omega
    have rd4 : ∀ x y : Int, (xup (xup (xcpy R1 (b + 2) (b + 1) 0 0 16) b 2 x) b 3 y) b 4 = (fn : Int) := fun x y => by
      simp only [xup_get, xcpy_get, if_true, if_neg n1, Nat.reduceEqDiff, if_false]
      rw [hb1 b 4 (by omega), l4]
    have rd5 : ∀ x y z : Int, (xup (xup (xup (xcpy R1 (b + 2) (b + 1) 0 0 16) b 2 x) b 3 y) b 4 z) b 5 = (k : Int) := fun x y z => by
      simp only [xup_get, xcpy_get, if_true, if_neg n1, Nat.reduceEqDiff, if_false]
      rw [hb1 b 5 (by omega), l5]
    rcases hf4 with rfl | rfl | rfl | rfl
    · omega
    · omega
    · rw [if_neg (by decide), if_neg (by decide), a1', rd4, hfn'.eq, rd5, hk1.eq]
    · rw [if_neg (by decide), if_neg (by decide), a1', rd4, hfn'.eq, rd5, hk1.eq]
