/-! Pages: what is printed, upright or not, hidden or not. -/
def sdN (n p : Nat) : Nat := if p % 2 = 0 then sid n else 1 - sid n
def kS (W n p : Nat) : Nat := 2 * cel W n + sdN n p
def tU (s : Nat → Int) (n p : Nat) : Nat := (ups n + if s 7 = 1 then p % 2 else 0) % 2
theorem half {p : Nat} (h : p < 1000) : Qe (w4 (Int.tdiv (p : Int) 2)) ((p / 2 : Nat) : Int) := by
  unfold Qe
  rw [Int.tdiv_eq_ediv_of_nonneg (Int.natCast_nonneg _), w4_of (by omega)]
  omega
def suI (v : Int) : Option Int := if b4and v 16 = 0 then (if b4and v 32 = 0 then some 0 else some 1) else (if b4and v 32 = 0 then some 1 else some 0)
theorem suI_eq {v : Int} {R : xN} : f_X3_sideUp v R = suI v := by rw [f_X3_sideUp, suI]
theorem su_num : ∀ n : Nat, n < 64 → suI (n : Int) = some (sid n : Int) := by decide +kernel
theorem pp_num : ∀ n : Nat, n < 64 → ∀ p : Nat, p < 32 → w4 (w4 (b4and (n : Int) 15 * 2) + b4xor (sid n : Int) (b4and (p : Int) 1)) = ((2 * (n % 16) + sdN n p : Nat) : Int) := by decide +kernel
theorem pp_numq {n p : Nat} (hn : n < 64) (hp : p < 32) : Qe (w4 (w4 (b4and (n : Int) 15 * 2) + b4xor (sid n : Int) (b4and (p : Int) 1))) ((2 * (n % 16) + sdN n p : Nat) : Int) := pp_num n hn p hp
theorem pl_num : ∀ W ∈ ([1, 2, 4] : List Nat), ∀ n : Nat, n < 64 → n % 4 < W → ∀ b : Nat, b < 2 → pl W (2 * cel W n + b) = 2 * (n % 16) + b := by decide +kernel
theorem cel_lt {H W n : Nat} (hH : len H) (hW : len W) (h1 : n % 16 / 4 < H) (h2 : n % 4 < W) : cel W n < H * W := by
  unfold cel
  rcases hH with rfl | rfl | rfl <;> rcases hW with rfl | rfl | rfl <;> omega
theorem sdN_lt {n p : Nat} : sdN n p < 2 := by unfold sdN sid; split <;> omega
theorem sid_lt {n : Nat} : sid n < 2 := by unfold sid; omega
/-- the print of class and model -/
def PR (R : xN) (s : Nat → Int) (H W : Nat) : Prop := len H ∧ len W ∧ R 2 5 = s 7 ∧ ∀ k : Nat, k < 2 * (H * W) → (R 4 (pl W k) = nine (s (90 + k)) ∧ R 5 (pl W k) = s (122 + k)) ∧ -1 ≤ s (90 + k) ∧ s (90 + k) ≤ 31
/-- the leaves of the class, of a sheet of H rows and W columns -/
def LB (R : xN) (b H W : Nat) (t : Nat → Nat) : Prop := LC R b (H * W) t ∧ ∀ i : Nat, i < H * W → t i % 16 / 4 < H ∧ t i % 4 < W
theorem pp9 {R : xN} {b D p : Nat} {t : Nat → Nat} (h : LC R b D t) (hp : p < 2 * D) : f_X3_paperPlace b (p : Int) R = some ((2 * (t (p / 2) % 16) + sdN (t (p / 2)) p : Nat) : Int) := by
  obtain ⟨hD, ht, -⟩ := id h
  obtain ⟨t1, t2⟩ := ht (p / 2) (by omega)
  unfold f_X3_paperPlace
  rw [(half (by omega)).eq, at3 (by omega), Option.bind_some, t2, suI_eq, su_num _ t1, Option.bind_some]
  unfold f_X9_placeOfSide
  rw [(pp_numq t1 (by omega)).eq, Option.bind_some]
theorem kS_pl {R : xN} {s : Nat → Int} {b H W p : Nat} {t : Nat → Nat} (hP : PR R s H W) (h : LB R b H W t) (hp : p < 2 * (H * W)) : 2 * (t (p / 2) % 16) + sdN (t (p / 2)) p = pl W (kS W (t (p / 2)) p) ∧ kS W (t (p / 2)) p < 2 * (H * W) := by
  obtain ⟨t1, t2⟩ := h.1.2.1 (p / 2) (by omega)
  obtain ⟨t3, t4⟩ := h.2 (p / 2) (by omega)
  refine ⟨(pl_num W (len_mem hP.2.1) _ t1 t4 _ sdN_lt).symm, ?_⟩
  have h1 := cel_lt hP.1 hP.2.1 t3 t4
  have h2 : sdN (t (p / 2)) p < 2 := sdN_lt
  unfold kS
  omega
theorem num9 {R : xN} {s : Nat → Int} {b H W p : Nat} {t : Nat → Nat} (hP : PR R s H W) (h : LB R b H W t) (hp : p < 2 * (H * W)) : f_X0_numberOn 2 b (p : Int) R = some (nine (s (90 + kS W (t (p / 2)) p))) := by
  obtain ⟨e1, e2⟩ := kS_pl hP h hp
  obtain ⟨⟨q1, -⟩, -⟩ := hP.2.2.2 _ e2
  have hl := pl_lt hP.1 hP.2.1 e2
  unfold f_X0_numberOn f_X5_numberAt
  rw [pp9 h.1 hp, Option.bind_some, e1, in9, Option.bind_some, if_pos (decide_eq_true (by omega)), if_pos (by omega), Option.bind_some, tnc]
  exact congrArg some q1
def upI (v : Int) : Option Bool := if b4and v 32 = 0 then some false else some true
theorem up_num : ∀ n : Nat, n < 64 → upI (n : Int) = some (decide (ups n = 1)) := by decide +kernel
theorem updn9 {R : xN} {b i : Nat} (h : i < 16) : f_X3_isUpsideDown b (i : Int) R = upI (R (b + 1) i) := by
  unfold f_X3_isUpsideDown
  rw [at3 h, Option.bind_some, upI]
theorem tu_num : ∀ n : Nat, n < 64 → ∀ p : Nat, p < 32 → (if decide (ups n = 1) = true then (1 : Int) else 0) = (ups n : Int) ∧ b4xor (ups n : Int) (b4and (p : Int) 1) = ((ups n + p % 2) % 2 : Nat) ∧ b4xor (ups n : Int) 0 = ((ups n + 0) % 2 : Nat) ∧ b4xor (ups n : Int) 1 = ((ups n + 1) % 2 : Nat) := by decide +kernel
theorem turn9 {R : xN} {s : Nat → Int} {b D p : Nat} {t : Nat → Nat} (h5 : R 2 5 = s 7) (h : LC R b D t) (hp : p < 2 * D) : f_X0_turnForUpright 2 b (p : Int) R = some (tU s (t (p / 2)) p : Int) := by
  obtain ⟨hD, ht, -⟩ := id h
  obtain ⟨t1, t2⟩ := ht (p / 2) (by omega)
  have hp32 : p < 32 := by omega
  have hq := half (p := p) (by omega)
  have hu : p / 2 < 16 := by omega
  obtain ⟨n1, n2, n3, -⟩ := tu_num _ t1 p hp32
  have ha : f_X9_asNumber (decide (ups (t (p / 2)) = 1)) R = some (ups (t (p / 2)) : Int) := by
    rw [← n1, f_X9_asNumber]
    split <;> rfl
  unfold f_X0_turnForUpright
  rw [xlet_eq, hq.eq, updn9 hu, t2, up_num _ t1, Option.bind_some, ha, Option.bind_some, h5]
  unfold tU
  by_cases hs : s 7 = 1
  · rw [if_pos hs, if_pos hs, n2]
  · rw [if_neg hs, if_neg hs, n3]
theorem upr9 {R : xN} {s : Nat → Int} {b H W p : Nat} {t : Nat → Nat} (hP : PR R s H W) (h : LB R b H W t) (hp : p < 2 * (H * W)) : f_X0_isUpright 2 b (p : Int) R = some (decide (s (122 + kS W (t (p / 2)) p) = (tU s (t (p / 2)) p : Int))) := by
  obtain ⟨e1, e2⟩ := kS_pl hP h hp
  obtain ⟨⟨-, q1⟩, -⟩ := hP.2.2.2 _ e2
  have hl := pl_lt hP.1 hP.2.1 e2
  have q1' : R (3 + 2) (pl W (kS W (t (p / 2)) p)) = _ := q1
  unfold f_X0_isUpright f_X5_turnAt
  rw [pp9 h.1 hp, Option.bind_some, e1, in9, Option.bind_some, if_pos (decide_eq_true (by omega)), if_pos (by omega), Option.bind_some, tnc, turn9 hP.2.2.1 h.1 hp, Option.bind_some, q1']
  by_cases hs : s (122 + kS W (t (p / 2)) p) = (tU s (t (p / 2)) p : Int)
  · rw [if_pos hs, decide_eq_true hs]
  · rw [if_neg hs, decide_eq_false hs]
/-- hidden pages -/
def hid (s : Nat → Int) (t : Nat → Nat) (D p : Nat) : Prop := msk (s 8).toNat (spE s) (shN t D ((p + 1) / 2)) ≠ 0
theorem half1 {p : Nat} (h : p < 999) : Qe (w4 (Int.tdiv (w4 ((p : Int) + 1)) 2)) (((p + 1) / 2 : Nat) : Int) := by
  have := half (p := p + 1) (by omega)
  unfold Qe at this ⊢
  rw [w4_of (x := (p : Int) + 1) (by omega)]
  exact this
theorem hid9 {R : xN} {s : Nat → Int} {D p : Nat} {t : Nat → Nat} (h : LC R 6 D t) (hp : p < 2 * D) (h5 : R 2 5 = s 7) (h6 : R 2 6 = s 8) (h8 : 0 ≤ s 8 ∧ s 8 ≤ 15) : (hid s t D p → f_X0_isHidden 2 (p : Int) R = some true) ∧ (¬ hid s t D p → f_X0_isHidden 2 (p : Int) R = some false) := by
  have hD := h.1
  have hq := half1 (p := p) (by omega)
  have hs := shut9 h (o := (p + 1) / 2) (by omega) h5 h6 h8
  unfold f_X0_isHidden
  rw [hq.eq, hs, Option.bind_some]
  unfold hid
  refine ⟨fun a => ?_, fun a => ?_⟩
  · rw [if_neg (by omega)]
  · rw [if_pos (by omega)]
theorem kS_lt {R : xN} {W D p : Nat} {t : Nat → Nat} (h : LM R W D t) (hp : p < 2 * D) : kS W (t (p / 2)) p < 32 := by
  obtain ⟨hD, hW, h1, h9, ht⟩ := id h
  obtain ⟨t1, t2, t3, t4, t5, t6⟩ := ht (p / 2) (by omega)
  have hs : sdN (t (p / 2)) p < 2 := sdN_lt
  unfold kS cel
  have : W = 1 ∨ W = 2 ∨ W = 4 := by simpa using hW
  rcases this with rfl | rfl | rfl <;> omega
/-- a page has its own number, upright -/
def own (s : Nat → Int) (W : Nat) (t : Nat → Nat) (p : Nat) : Prop := s (90 + kS W (t (p / 2)) p) = (p : Int) ∧ s (122 + kS W (t (p / 2)) p) = (tU s (t (p / 2)) p : Int)
theorem nine_p {v : Int} {p : Nat} : nine v = (p : Int) ↔ v = (p : Int) := by unfold nine; split <;> omega
theorem nine_9 {v : Int} (h : -1 ≤ v) : nine v = -9 ↔ v < 0 := by unfold nine; split <;> omega
/-- why a page doesn't read: 0 if it does -/
def why (s : Nat → Int) (W : Nat) (t : Nat → Nat) (p : Nat) : Int := if s (90 + kS W (t (p / 2)) p) < 0 then 2 else if s (90 + kS W (t (p / 2)) p) = (p : Int) then (if s (122 + kS W (t (p / 2)) p) = (tU s (t (p / 2)) p : Int) then 0 else 4) else 3
theorem why9 {R : xN} {s : Nat → Int} {H W p : Nat} {t : Nat → Nat} (hP : PR R s H W) (h : LB R 6 H W t) (hp : p < 2 * (H * W)) (h6 : R 2 6 = s 8) (h8 : 0 ≤ s 8 ∧ s 8 ≤ 15) : (hid s t (H * W) p → f_X0_whyNotRead 2 (p : Int) R = some 1) ∧ (¬ hid s t (H * W) p → f_X0_whyNotRead 2 (p : Int) R = some (why s W t p)) := by
  obtain ⟨a1, a2⟩ := hid9 h.1 hp hP.2.2.1 h6 h8
  have hv := hP.2.2.2 _ (kS_pl hP h hp).2
  unfold f_X0_whyNotRead
  refine ⟨fun a => ?_, fun a => ?_⟩
  · rw [a1 a, Option.bind_some, if_pos rfl]
  · rw [a2 a, Option.bind_some, if_neg (by decide), show 2 + 4 = 6 from rfl, num9 hP h hp, Option.bind_some, upr9 hP h hp]
    unfold why
    by_cases c1 : s (90 + kS W (t (p / 2)) p) < 0
    · rw [if_pos ((nine_9 hv.2.1).mpr c1), if_pos c1]
    · rw [if_neg (fun h' => c1 ((nine_9 hv.2.1).mp h')), if_neg c1]
      by_cases c2 : s (90 + kS W (t (p / 2)) p) = (p : Int)
      · rw [if_pos (nine_p.mpr c2), if_pos c2, Option.bind_some, xlet_eq]
        by_cases c3 : s (122 + kS W (t (p / 2)) p) = (tU s (t (p / 2)) p : Int)
        · rw [decide_eq_true c3, if_pos c3, if_pos rfl]
        · rw [decide_eq_false c3, if_neg c3, if_neg (by decide)]
      · rw [if_neg (fun h' => c2 (nine_p.mp h')), if_neg c2]

