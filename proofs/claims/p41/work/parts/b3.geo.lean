/-! What holds of every booklet's leaves. -/
def ndB (H W : Nat) (t : Nat → Nat) : Bool := (List.range (H * W)).all (fun i => (List.range i).all (fun j => !(Nat.beq (cel W (t i)) (cel W (t j)))))
def smB (H W : Nat) (t : Nat → Nat) : Bool := Nat.beq (pcS H W t 0 + pcS H W t 1 + pcS H W t 2 + pcS H W t 3) (H * (W - 1) + W * (H - 1))
def cnB (H W : Nat) (t : Nat → Nat) : Bool := (List.range (H * W)).all (fun j => (Nat.beq (cel W (t j)) 0) || (List.range (H * W)).any (fun i => Nat.ble (cel W (t i) + 1) (cel W (t j)) && !(Nat.beq (eC (t i) (t j)) 0)))
def xND (H W : Nat) (g : gG) : Bool := ndB H W g.2.2.2
def xSM (H W : Nat) (g : gG) : Bool := smB H W g.2.2.2
def xCN (H W : Nat) (g : gG) : Bool := cnB H W g.2.2.2
set_option maxHeartbeats 40000000 in
theorem nd_all : ∀ H ∈ ([1, 2, 4] : List Nat), ∀ W ∈ ([1, 2, 4] : List Nat), ∀ fs ∈ allF, bkP xND H W fs = true := by decide +kernel
set_option maxHeartbeats 40000000 in
theorem sm_all : ∀ H ∈ ([1, 2, 4] : List Nat), ∀ W ∈ ([1, 2, 4] : List Nat), ∀ fs ∈ allF, bkP xSM H W fs = true := by decide +kernel
set_option maxHeartbeats 40000000 in
theorem cn_all : ∀ H ∈ ([1, 2, 4] : List Nat), ∀ W ∈ ([1, 2, 4] : List Nat), ∀ fs ∈ allF, bkP xCN H W fs = true := by decide +kernel
def zbB (H W : Nat) (t : Nat → Nat) : Bool := (List.range 4).all (fun e => !(Nat.beq (pcS H W t e) 0) || (List.range (H * W)).all (fun i => (List.range (H * W)).all (fun j => !(Nat.beq (eC (t i) (t j)) (e + 1)))))
def xZB (H W : Nat) (g : gG) : Bool := zbB H W g.2.2.2
set_option maxHeartbeats 40000000 in
theorem zb_all : ∀ H ∈ ([1, 2, 4] : List Nat), ∀ W ∈ ([1, 2, 4] : List Nat), ∀ fs ∈ allF, bkP xZB H W fs = true := by decide +kernel
theorem gP_of {H W : Nat} {g : gG} {i : Int} (hH : len H) (hW : len W) (hg : gbk H W i = some g) : ndB H W g.2.2.2 = true ∧ smB H W g.2.2.2 = true ∧ cnB H W g.2.2.2 = true ∧ zbB H W g.2.2.2 = true := by
  obtain ⟨-, -, h3, h4⟩ := gbk_some hg
  exact ⟨bk_all nd_all hH hW h3 gdk_len h4, bk_all sm_all hH hW h3 gdk_len h4, bk_all cn_all hH hW h3 gdk_len h4, bk_all zb_all hH hW h3 gdk_len h4⟩
theorem nbeq {a b : Nat} (h : (!(Nat.beq a b)) = true) : a ≠ b := fun e => by
  subst e
  rw [Nat.beq_refl] at h
  cases h
theorem cel_inj {H W : Nat} {t : Nat → Nat} (h : ndB H W t = true) {i j : Nat} (hi : i < H * W) (hj : j < H * W) (e : cel W (t i) = cel W (t j)) : i = j := by
  unfold ndB at h
  have key : ∀ i j, i < H * W → j < i → cel W (t i) ≠ cel W (t j) := fun i j hi hj => by
    have h1 := List.all_eq_true.mp h i (List.mem_range.mpr hi)
    have h2 := List.all_eq_true.mp h1 j (List.mem_range.mpr hj)
    exact nbeq h2
  by_cases h1 : j < i
  · exact absurd e (key i j hi h1)
  · by_cases h2 : i < j
    · exact absurd e.symm (key j i hj h2)
    · omega
theorem kS_inj {H W : Nat} {t : Nat → Nat} (h : ndB H W t = true) {p q : Nat} (hp : p < 2 * (H * W)) (hq : q < 2 * (H * W)) (e : kS W (t (p / 2)) p = kS W (t (q / 2)) q) : p = q := by
  unfold kS at e
  have l1 := @sdN_lt (t (p / 2)) p
  have l2 := @sdN_lt (t (q / 2)) q
  have h1 := cel_inj h (i := p / 2) (j := q / 2) (by omega) (by omega) (by omega)
  rw [h1] at e l1
  have l3 := @sid_lt (t (q / 2))
  have e2 : sdN (t (q / 2)) p = sdN (t (q / 2)) q := by omega
  unfold sdN at e2
  by_cases a : p % 2 = 0
  · rw [if_pos a] at e2
    by_cases b : q % 2 = 0
    · omega
    · rw [if_neg b] at e2; omega
  · rw [if_neg a] at e2
    by_cases b : q % 2 = 0
    · rw [if_pos b] at e2; omega
    · omega
/-- a sheet printed page by page -/
theorem prA_own {s0 : Nat → Int} {W D : Nat} {t : Nat → Nat} (hK : ∀ q, q < 2 * D → kS W (t (q / 2)) q < 32) (hi : ∀ p q, p < 2 * D → q < 2 * D → kS W (t (p / 2)) p = kS W (t (q / 2)) q → p = q) : ∀ (c p : Nat) (m : Int) (s : Nat → Int), p + c = 2 * D →
    (∀ q, p ≤ q → q < 2 * D → (prA s0 W t p c m s).2 (90 + kS W (t (q / 2)) q) = (q : Int) ∧ (prA s0 W t p c m s).2 (122 + kS W (t (q / 2)) q) = (tU s0 (t (q / 2)) q : Int)) ∧
    (∀ j, (∀ q, p ≤ q → q < 2 * D → j ≠ 90 + kS W (t (q / 2)) q ∧ j ≠ 122 + kS W (t (q / 2)) q) → (prA s0 W t p c m s).2 j = s j) ∧
    ((∀ q, p ≤ q → q < 2 * D → s (90 + kS W (t (q / 2)) q) = -1) → (prA s0 W t p c m s).1 = m + c) ∧
    ((∀ q, p ≤ q → q < 2 * D → s (90 + kS W (t (q / 2)) q) = (q : Int) ∧ s (122 + kS W (t (q / 2)) q) = (tU s0 (t (q / 2)) q : Int)) → (prA s0 W t p c m s).1 = m) := by
  intro c
  induction c with
  | zero =>
    intro p m s h
    exact ⟨fun q h1 h2 => by omega, fun j _ => rfl, fun _ => (Int.add_zero m).symm, fun _ => rfl⟩
  | succ c ih =>
    intro p m s h
    have hp : p < 2 * D := by omega
    have hkp := hK p hp
    obtain ⟨i1, i2, i3, i4⟩ := ih (p + 1) (m + chg s (kS W (t (p / 2)) p) (p : Int) (tU s0 (t (p / 2)) p : Int)) (st1 s (kS W (t (p / 2)) p) (p : Int) (tU s0 (t (p / 2)) p : Int)) (by omega)
    have hne : ∀ q, p + 1 ≤ q → q < 2 * D → kS W (t (q / 2)) q ≠ kS W (t (p / 2)) p := fun q h1 h2 e => by
      have := hi q p h2 hp e
      omega
    have hs1 : ∀ j, j ≠ 90 + kS W (t (p / 2)) p → j ≠ 122 + kS W (t (p / 2)) p → st1 s (kS W (t (p / 2)) p) (p : Int) (tU s0 (t (p / 2)) p : Int) j = s j := fun j h1 h2 => by
      unfold st1
      rw [u1_ne h2, u1_ne h1]
    have hq : ∀ q, p + 1 ≤ q → q < 2 * D → st1 s (kS W (t (p / 2)) p) (p : Int) (tU s0 (t (p / 2)) p : Int) (90 + kS W (t (q / 2)) q) = s (90 + kS W (t (q / 2)) q) ∧ st1 s (kS W (t (p / 2)) p) (p : Int) (tU s0 (t (p / 2)) p : Int) (122 + kS W (t (q / 2)) q) = s (122 + kS W (t (q / 2)) q) := fun q h1 h2 => by
      have := hne q h1 h2
      have := hK q h2
      exact ⟨hs1 _ (by omega) (by omega), hs1 _ (by omega) (by omega)⟩
    refine ⟨fun q h1 h2 => ?_, fun j hj => ?_, fun hu => ?_, fun ho => ?_⟩
    · by_cases hqp : q = p
      · subst hqp
        have n1 : ∀ q', q + 1 ≤ q' → q' < 2 * D → 90 + kS W (t (q / 2)) q ≠ 90 + kS W (t (q' / 2)) q' ∧ 90 + kS W (t (q / 2)) q ≠ 122 + kS W (t (q' / 2)) q' := fun q' h3 h4 => by
          have := hne q' h3 h4
          have := hK q' h4
          omega
        have n2 : ∀ q', q + 1 ≤ q' → q' < 2 * D → 122 + kS W (t (q / 2)) q ≠ 90 + kS W (t (q' / 2)) q' ∧ 122 + kS W (t (q / 2)) q ≠ 122 + kS W (t (q' / 2)) q' := fun q' h3 h4 => by
          have := hne q' h3 h4
          have := hK q' h4
          omega
        have a1 := i2 _ n1
        have a2 := i2 _ n2
        refine ⟨a1.trans ?_, a2.trans ?_⟩
        · unfold st1
          rw [u1_ne (by omega), u1_eq]
        · unfold st1
          rw [u1_eq]
      · exact i1 q (by omega) h2
    · refine (i2 j (fun q h1 h2 => hj q (by omega) h2)).trans ?_
      have := hj p (Nat.le_refl _) hp
      exact hs1 j this.1 this.2
    · have hc : chg s (kS W (t (p / 2)) p) (p : Int) (tU s0 (t (p / 2)) p : Int) = 1 := by
        unfold chg
        rw [if_neg (fun h => by have := hu p (Nat.le_refl _) hp; have := h.1; omega)]
      have := i3 (fun q h1 h2 => by rw [(hq q h1 h2).1]; exact hu q (by omega) h2)
      refine this.trans ?_
      rw [hc]
      omega
    · have hc : chg s (kS W (t (p / 2)) p) (p : Int) (tU s0 (t (p / 2)) p : Int) = 0 := by
        unfold chg
        rw [if_pos (ho p (Nat.le_refl _) hp)]
      have := i4 (fun q h1 h2 => by rw [(hq q h1 h2).1, (hq q h1 h2).2]; exact ho q (by omega) h2)
      refine this.trans ?_
      rw [hc]
      omega
/-- all leaves hang together where nothing is cut -/
theorem good_one {H W : Nat} {t : Nat → Nat} {lg : Nat} (h1 : ndB H W t = true) (h2 : cnB H W t = true) : good (H * W) (aH lg 0 t) (fun _ => 0) := by
  intro Q hQ i j hi hj _
  have cinj : ∀ a b, a < H * W → b < H * W → cel W (t a) = cel W (t b) → a = b := fun a b ha hb e => cel_inj h1 ha hb e
  have low : ∀ n j, j < H * W → cel W (t j) < n → ∃ i0, i0 < H * W ∧ cel W (t i0) = 0 ∧ (Q i0 ↔ Q j) := by
    intro n
    induction n with
    | zero => intro j _ h; omega
    | succ n ih =>
      intro j hj hc
      unfold cnB at h2
      have := List.all_eq_true.mp h2 j (List.mem_range.mpr hj)
      rcases Bool.or_eq_true_iff.mp this with h | h
      · exact ⟨j, hj, Nat.eq_of_beq_eq_true h, Iff.rfl⟩
      · obtain ⟨k, hk, hk2⟩ := List.any_eq_true.mp h
        have hk' := List.mem_range.mp hk
        obtain ⟨h3, h4⟩ := Bool.and_eq_true_iff.mp hk2
        have h5 := Nat.le_of_ble_eq_true h3
        obtain ⟨i0, b1, b2, b3⟩ := ih k hk' (by omega)
        have h6 : eU 0 (t) k j = true := by
          have h7 := nbeq h4
          have h8 := eC_lt (t k) (t j)
          unfold eU
          generalize eC (t k) (t j) = z at *
          have : ∀ z : Nat, z < 5 → z ≠ 0 → decide (bitOf z &&& (15 ^^^ 0) ≠ 0) = true := by decide
          exact this z h8 h7
        exact ⟨i0, b1, b2, b3.trans (hQ k j hk' hj (by unfold aH; rw [h6, Bool.or_true]))⟩
  obtain ⟨a, a1, a2, a3⟩ := low (cel W (t i) + 1) i hi (Nat.lt_succ_self _)
  obtain ⟨b, b1, b2, b3⟩ := low (cel W (t j) + 1) j hj (Nat.lt_succ_self _)
  have hab := cinj a b a1 b1 (a2.trans b2.symm)
  subst hab
  exact a3.symm.trans b3
theorem lbS_0 : ∀ D ∈ ([1, 2, 4, 8, 16] : List Nat), cK 16 (lbS (fun _ => 0) D) = 1 := by decide +kernel
theorem lbS_lg : ∀ D ∈ ([1, 2, 4, 8, 16] : List Nat), ∀ lg : Nat, lg < 17 → cK 16 (lbS (fun j => if j < lg then 0 else j) D) = (if lg = 0 then D else if D ≤ lg then 1 else D - lg + 1) := by decide +kernel
/-- all edges cut: only a staple's legs hold -/
theorem eU_15 {t : Nat → Nat} {i j : Nat} : eU 15 t i j = false := by
  unfold eU
  rw [show (15 : Nat) ^^^ 15 = 0 from rfl, Nat.and_zero]
  rfl
theorem good_lg {D lg : Nat} {t : Nat → Nat} : good D (aH lg 15 t) (fun j => if j < lg then 0 else j) := by
  intro Q hQ i j hi hj e
  have e' : (if i < lg then 0 else i) = (if j < lg then 0 else j) := e
  by_cases hij : i = j
  · rw [hij]
  · by_cases c : i < lg ∧ j < lg
    · refine hQ i j hi hj ?_
      unfold aH
      rw [decide_eq_true c.1, decide_eq_true c.2]
      rfl
    · exfalso
      by_cases c0 : lg = 0
      · subst c0
        rw [if_neg (by omega), if_neg (by omega)] at e'
        exact hij e'
      · have : 0 < lg := by omega
        split at e' <;> split at e' <;> omega
theorem adj_lg {D lg : Nat} {t : Nat → Nat} : ∀ i j, i < D → j < D → aH lg 15 t i j = true → (fun j => if j < lg then 0 else j) i = (fun j => if j < lg then 0 else j) j := by
  intro i j _ _ h
  unfold aH at h
  rw [eU_15, Bool.or_false] at h
  obtain ⟨h1, h2⟩ := Bool.and_eq_true_iff.mp h
  have h1 := of_decide_eq_true h1
  have h2 := of_decide_eq_true h2
  show (if i < lg then 0 else i) = (if j < lg then 0 else j)
  rw [if_pos h1, if_pos h2]
/-- what the cuts that are told bring -/
def ecF (sp : Nat) (z : Nat → Bool) : Nat → Nat → Nat → Nat
  | _, 0, acc => acc
  | e, c + 1, acc => ecF sp z (e + 1) c (if e = sp then acc else if z e = true then acc else acc ||| 2 ^ e)
theorem ecF_eq {H W sp : Nat} {t : Nat → Nat} : ∀ (c e acc : Nat), ecC H W t sp e c acc = ecF sp (fun e => decide (pcS H W t e = 0)) e c acc := by
  intro c
  induction c with
  | zero => intro e acc; rfl
  | succ c ih =>
    intro e acc
    show ecC H W t sp (e + 1) c _ = ecF sp _ (e + 1) c _
    rw [ih]
    congr 1
    by_cases h : e = sp
    · rw [if_pos h, if_pos h]
    · rw [if_neg h, if_neg h]
      by_cases h2 : pcS H W t e = 0
      · rw [if_pos h2, if_pos (decide_eq_true h2)]
      · rw [if_neg h2, if_neg (fun h => h2 (of_decide_eq_true h))]
theorem ecF_num : ∀ sp ∈ ([0, 2] : List Nat), ∀ a0 a1 a2 a3 : Bool, ∀ e : Nat, e < 4 → ecF sp (fun e => if e = 0 then a0 else if e = 1 then a1 else if e = 2 then a2 else a3) 0 4 0 / 2 ^ e % 2 = if e = sp then 0 else if (if e = 0 then a0 else if e = 1 then a1 else if e = 2 then a2 else a3) = true then 0 else 1 := by decide +kernel
theorem ecF_cg {sp : Nat} {z y : Nat → Bool} : ∀ (c e acc : Nat), (∀ k, e ≤ k → k < e + c → z k = y k) → ecF sp z e c acc = ecF sp y e c acc := by
  intro c
  induction c with
  | zero => intro e acc _; rfl
  | succ c ih =>
    intro e acc h
    show ecF sp z (e + 1) c _ = ecF sp y (e + 1) c _
    rw [h e (Nat.le_refl _) (by omega)]
    exact ih _ _ (fun k h1 h2 => h k (by omega) (by omega))
theorem ecC_bit {H W sp e : Nat} {t : Nat → Nat} (hs : sp ∈ ([0, 2] : List Nat)) (he : e < 4) : ecC H W t sp 0 4 0 / 2 ^ e % 2 = if e = sp then 0 else if pcS H W t e = 0 then 0 else 1 := by
  have h4 : ∀ k : Nat, k < 4 → (fun e => decide (pcS H W t e = 0)) k = (fun e => if e = 0 then decide (pcS H W t 0 = 0) else if e = 1 then decide (pcS H W t 1 = 0) else if e = 2 then decide (pcS H W t 2 = 0) else decide (pcS H W t 3 = 0)) k := fun k hk => by
    match k, hk with
    | 0, _ => rfl
    | 1, _ => rfl
    | 2, _ => rfl
    | 3, _ => rfl
  rw [ecF_eq, ecF_cg 4 0 0 (fun k _ hk => h4 k (by omega)), ecF_num sp hs _ _ _ _ e he]
  have h5 := h4 e he
  have h6 : (if e = 0 then decide (pcS H W t 0 = 0) else if e = 1 then decide (pcS H W t 1 = 0) else if e = 2 then decide (pcS H W t 2 = 0) else decide (pcS H W t 3 = 0)) = decide (pcS H W t e = 0) := h5.symm
  rw [h6]
  by_cases h : e = sp
  · rw [if_pos h, if_pos h]
  · rw [if_neg h, if_neg h]
    by_cases h2 : pcS H W t e = 0
    · rw [if_pos (decide_eq_true h2), if_pos h2]
    · rw [if_neg (fun h => h2 (of_decide_eq_true h)), if_neg h2]
theorem mk_num : ∀ cu : Nat, cu < 16 → ∀ sp ∈ ([0, 2] : List Nat), ∀ e : Nat, e < 4 → (e = sp ∨ cu / 2 ^ e % 2 = 1) → msk cu sp (2 ^ e) = 0 := by decide +kernel
theorem msk_or : ∀ cu : Nat, cu < 16 → ∀ sp ∈ ([0, 2] : List Nat), ∀ a : Nat, a < 16 → ∀ b : Nat, b < 16 → msk cu sp (a ||| b) = msk cu sp a ||| msk cu sp b := by decide +kernel
theorem orI_zero {f : Nat → Nat} {cu sp : Nat} (hc : cu < 16) (hs : sp ∈ ([0, 2] : List Nat)) : ∀ (c lo acc : Nat), acc < 16 → msk cu sp acc = 0 → (∀ i, lo ≤ i → i < lo + c → f i < 16 ∧ msk cu sp (f i) = 0) → orI f lo c acc < 16 ∧ msk cu sp (orI f lo c acc) = 0 := by
  intro c
  induction c with
  | zero => intro lo acc h1 h2 _; exact ⟨h1, h2⟩
  | succ c ih =>
    intro lo acc h1 h2 h3
    obtain ⟨h4, h5⟩ := h3 lo (Nat.le_refl _) (by omega)
    refine ih (lo + 1) (acc ||| f lo) (bor16 acc h1 _ h4).2 ?_ (fun i h6 h7 => h3 i (by omega) (by omega))
    rw [msk_or cu hc sp hs acc h1 _ h4, h2, h5]
    rfl
theorem shI_zero {t : Nat → Nat} {cu sp D o : Nat} (hc : cu < 16) (hs : sp ∈ ([0, 2] : List Nat)) (ho : o ≤ D) (h : ∀ i j, i < D → j < D → msk cu sp (eB (t i) (t j)) = 0) : ∀ (c i acc : Nat), i + c ≤ D → acc < 16 → msk cu sp acc = 0 → msk cu sp (shI t D o i c acc) = 0 := by
  intro c
  induction c with
  | zero => intro i acc _ _ h2; exact h2
  | succ c ih =>
    intro i acc hi h1 h2
    have := orI_zero (f := fun b => eB (t i) (t b)) hc hs (D - o) o acc h1 h2 (fun b _ hb => ⟨eB_lt _ _, h i b (by omega) (by omega)⟩)
    exact ih (i + 1) _ (by omega) this.1 this.2
theorem ctB_of {H W sp : Nat} {t : Nat → Nat} (hs : sp ∈ ([0, 2] : List Nat)) (h : zbB H W t = true) : (∀ o, o ≤ H * W → msk (ecC H W t sp 0 4 0) sp (shN t (H * W) o) = 0) ∧ ∀ e, e < 4 → (ecC H W t sp 0 4 0) / 2 ^ e % 2 ≠ 0 → pcS H W t e ≠ 0 := by
  have hlt := ecC_lt (H := H) (W := W) (sp := sp) (t := t) 4 0 0 (by omega) (by omega)
  refine ⟨fun o ho => ?_, fun e he hz hp => ?_⟩
  · refine shI_zero hlt hs ho (fun i j hi hj => ?_) o 0 0 (by omega) (by decide) ?_
    · have h5 := eC_lt (t i) (t j)
      unfold eB
      by_cases h0 : eC (t i) (t j) = 0
      · rw [if_pos h0]
        unfold msk
        rw [Nat.zero_and, Nat.zero_and]
      · rw [if_neg h0]
        have he : eC (t i) (t j) - 1 < 4 := by omega
        refine mk_num _ hlt sp hs _ he ?_
        by_cases hsp : eC (t i) (t j) - 1 = sp
        · exact Or.inl hsp
        · refine Or.inr ?_
          rw [ecC_bit hs he, if_neg hsp, if_neg]
          intro hp
          unfold zbB at h
          have h1 := List.all_eq_true.mp h (eC (t i) (t j) - 1) (List.mem_range.mpr he)
          rcases Bool.or_eq_true_iff.mp h1 with h2 | h2
          · exact nbeq h2 hp
          · have h3 := List.all_eq_true.mp h2 i (List.mem_range.mpr hi)
            have h4 := List.all_eq_true.mp h3 j (List.mem_range.mpr hj)
            exact nbeq h4 (by omega)
    · unfold msk
      rw [Nat.zero_and, Nat.zero_and]
  · rw [ecC_bit hs he] at hz
    by_cases h1 : e = sp
    · rw [if_pos h1] at hz; exact hz rfl
    · rw [if_neg h1, if_pos hp] at hz; exact hz rfl
