/-! What holds of every booklet's leaves. -/
def ndB (H W : Nat) (t : Nat → Nat) : Bool := decide ((List.range (2 * (H * W))).map (fun p => kS W (t (p / 2)) p)).Nodup
def smB (H W : Nat) (t : Nat → Nat) : Bool := pcS H W t 0 + pcS H W t 1 + pcS H W t 2 + pcS H W t 3 == H * (W - 1) + W * (H - 1)
def cnB (H W : Nat) (t : Nat → Nat) : Bool := (List.range (H * W)).all (fun j => (cel W (t j) == 0) || (List.range (H * W)).any (fun i => decide (cel W (t i) < cel W (t j)) && eU 0 t i j))
def ctB (H W : Nat) (t : Nat → Nat) (sp : Nat) : Bool := (List.range 16).all (fun cu => (cu != ecC H W t sp 0 4 0) || ((List.range (H * W + 1)).all (fun o => msk cu sp (shN t (H * W) o) == 0) && (List.range 4).all (fun e => (cu / 2 ^ e % 2 == 0) || (pcS H W t e != 0))))
def gP (H W : Nat) (g : gG) : Bool := ndB H W g.2.2.2 && (smB H W g.2.2.2 && (cnB H W g.2.2.2 && (ctB H W g.2.2.2 0 && ctB H W g.2.2.2 2)))
set_option maxHeartbeats 40000000 in
theorem gP_all : ∀ H ∈ ([1, 2, 4] : List Nat), ∀ W ∈ ([1, 2, 4] : List Nat), ∀ fs ∈ allF, bkP gP H W fs = true := by decide +kernel
theorem gP_of {H W : Nat} {g : gG} {i : Int} (hH : len H) (hW : len W) (hg : gbk H W i = some g) : ndB H W g.2.2.2 = true ∧ smB H W g.2.2.2 = true ∧ cnB H W g.2.2.2 = true ∧ ctB H W g.2.2.2 0 = true ∧ ctB H W g.2.2.2 2 = true := by
  obtain ⟨-, -, h3, h4⟩ := gbk_some hg
  have := bk_all gP_all hH hW h3 gdk_len h4
  unfold gP at this
  simp only [Bool.and_eq_true] at this
  exact this
theorem kS_inj {H W : Nat} {t : Nat → Nat} (h : ndB H W t = true) {p q : Nat} (hp : p < 2 * (H * W)) (hq : q < 2 * (H * W)) (e : kS W (t (p / 2)) p = kS W (t (q / 2)) q) : p = q := by
  unfold ndB at h
  have hn := of_decide_eq_true h
  have hlen : ((List.range (2 * (H * W))).map (fun p => kS W (t (p / 2)) p)).length = 2 * (H * W) := by rw [List.length_map, List.length_range]
  refine (List.getElem_inj (h₀ := by rw [hlen]; exact hp) (h₁ := by rw [hlen]; exact hq) hn).mp ?_
  rw [List.getElem_map, List.getElem_map, List.getElem_range, List.getElem_range]
  exact e
/-- a sheet printed page by page -/
theorem prA_own {s0 : Nat → Int} {W D : Nat} {t : Nat → Nat} (hK : ∀ q, q < 2 * D → kS W (t (q / 2)) q < 32) (hi : ∀ p q, p < 2 * D → q < 2 * D → kS W (t (p / 2)) p = kS W (t (q / 2)) q → p = q) : ∀ (c p : Nat) (m : Int) (s : Nat → Int), p + c = 2 * D →
    (∀ q, p ≤ q → q < 2 * D → (prA s0 W t p c m s).2 (90 + kS W (t (q / 2)) q) = (q : Int) ∧ (prA s0 W t p c m s).2 (122 + kS W (t (q / 2)) q) = (tU s0 (t (q / 2)) q : Int)) ∧
    (∀ j, (∀ q, p ≤ q → q < 2 * D → j ≠ 90 + kS W (t (q / 2)) q ∧ j ≠ 122 + kS W (t (q / 2)) q) → (prA s0 W t p c m s).2 j = s j) ∧
    ((∀ q, p ≤ q → q < 2 * D → s (90 + kS W (t (q / 2)) q) = -1) → (prA s0 W t p c m s).1 = m + c) ∧
    ((∀ q, p ≤ q → q < 2 * D → s (90 + kS W (t (q / 2)) q) = (q : Int) ∧ s (122 + kS W (t (q / 2)) q) = (tU s0 (t (q / 2)) q : Int)) → (prA s0 W t p c m s).1 = m) := by
  intro c
  induction c with
  | zero =>
    intro p m s h
    exact ⟨fun q h1 h2 => by omega, fun j _ => rfl, fun _ => (Int.add_zero m).symm, fun _ => rfl⟩
  | succ c ih =>
    intro p m s h
    have hp : p < 2 * D := by omega
    have hkp := hK p hp
    obtain ⟨i1, i2, i3, i4⟩ := ih (p + 1) (m + chg s (kS W (t (p / 2)) p) (p : Int) (tU s0 (t (p / 2)) p : Int)) (st1 s (kS W (t (p / 2)) p) (p : Int) (tU s0 (t (p / 2)) p : Int)) (by omega)
    have hne : ∀ q, p + 1 ≤ q → q < 2 * D → kS W (t (q / 2)) q ≠ kS W (t (p / 2)) p := fun q h1 h2 e => by
      have := hi q p h2 hp e
      omega
    have hs1 : ∀ j, j ≠ 90 + kS W (t (p / 2)) p → j ≠ 122 + kS W (t (p / 2)) p → st1 s (kS W (t (p / 2)) p) (p : Int) (tU s0 (t (p / 2)) p : Int) j = s j := fun j h1 h2 => by
      unfold st1
      rw [u1_ne h2, u1_ne h1]
    have hq : ∀ q, p + 1 ≤ q → q < 2 * D → st1 s (kS W (t (p / 2)) p) (p : Int) (tU s0 (t (p / 2)) p : Int) (90 + kS W (t (q / 2)) q) = s (90 + kS W (t (q / 2)) q) ∧ st1 s (kS W (t (p / 2)) p) (p : Int) (tU s0 (t (p / 2)) p : Int) (122 + kS W (t (q / 2)) q) = s (122 + kS W (t (q / 2)) q) := fun q h1 h2 => by
      have := hne q h1 h2
      have := hK q h2
      exact ⟨hs1 _ (by omega) (by omega), hs1 _ (by omega) (by omega)⟩
    refine ⟨fun q h1 h2 => ?_, fun j hj => ?_, fun hu => ?_, fun ho => ?_⟩
    · by_cases hqp : q = p
      · subst hqp
        have n1 : ∀ q', q + 1 ≤ q' → q' < 2 * D → 90 + kS W (t (q / 2)) q ≠ 90 + kS W (t (q' / 2)) q' ∧ 90 + kS W (t (q / 2)) q ≠ 122 + kS W (t (q' / 2)) q' := fun q' h3 h4 => by
          have := hne q' h3 h4
          have := hK q' h4
          omega
        have n2 : ∀ q', q + 1 ≤ q' → q' < 2 * D → 122 + kS W (t (q / 2)) q ≠ 90 + kS W (t (q' / 2)) q' ∧ 122 + kS W (t (q / 2)) q ≠ 122 + kS W (t (q' / 2)) q' := fun q' h3 h4 => by
          have := hne q' h3 h4
          have := hK q' h4
          omega
        have a1 := i2 _ n1
        have a2 := i2 _ n2
        refine ⟨a1.trans ?_, a2.trans ?_⟩
        · unfold st1
          rw [u1_ne (by omega), u1_eq]
        · unfold st1
          rw [u1_eq]
      · exact i1 q (by omega) h2
    · refine (i2 j (fun q h1 h2 => hj q (by omega) h2)).trans ?_
      have := hj p (Nat.le_refl _) hp
      exact hs1 j this.1 this.2
    · have hc : chg s (kS W (t (p / 2)) p) (p : Int) (tU s0 (t (p / 2)) p : Int) = 1 := by
        unfold chg
        rw [if_neg (fun h => by have := hu p (Nat.le_refl _) hp; have := h.1; omega)]
      have := i3 (fun q h1 h2 => by rw [(hq q h1 h2).1]; exact hu q (by omega) h2)
      refine this.trans ?_
      rw [hc]
      omega
    · have hc : chg s (kS W (t (p / 2)) p) (p : Int) (tU s0 (t (p / 2)) p : Int) = 0 := by
        unfold chg
        rw [if_pos (ho p (Nat.le_refl _) hp)]
      have := i4 (fun q h1 h2 => by rw [(hq q h1 h2).1, (hq q h1 h2).2]; exact ho q (by omega) h2)
      refine this.trans ?_
      rw [hc]
      omega
/-- all leaves hang together where nothing is cut -/
theorem good_one {H W : Nat} {t : Nat → Nat} {lg : Nat} (h1 : ndB H W t = true) (h2 : cnB H W t = true) : good (H * W) (aH lg 0 t) (fun _ => 0) := by
  intro Q hQ i j hi hj _
  have cinj : ∀ a b, a < H * W → b < H * W → cel W (t a) = cel W (t b) → a = b := fun a b ha hb e => by
    -- side 0 of a leaf's cell is on page 2a or on 2a + 1
    have sd : ∀ n p : Nat, sdN n p < 2 := fun n p => sdN_lt
    have e0 : ∀ n m : Nat, cel W n = cel W m → ∃ x y, x < 2 ∧ y < 2 ∧ 2 * cel W n + sdN n x = 2 * cel W m + sdN m y := fun n m he => by
      have hs : ∀ n : Nat, sdN n 0 = sid n ∧ sdN n 1 = 1 - sid n := fun n => ⟨rfl, rfl⟩
      have l1 := @sid_lt n
      have l2 := @sid_lt m
      by_cases hc : sid n = sid m
      · exact ⟨0, 0, by omega, by omega, by rw [(hs n).1, (hs m).1, hc, he]⟩
      · exact ⟨0, 1, by omega, by omega, by rw [(hs n).1, (hs m).2, he]; omega⟩
    obtain ⟨x, y, hx, hy, hxy⟩ := e0 _ _ e
    have md : ∀ n a x : Nat, x < 2 → sdN n (2 * a + x) = sdN n x := fun n a x hx => by
      unfold sdN
      rw [show (2 * a + x) % 2 = x % 2 by omega]
    have := kS_inj h1 (p := 2 * a + x) (q := 2 * b + y) (by omega) (by omega) (by
      rw [show (2 * a + x) / 2 = a by omega, show (2 * b + y) / 2 = b by omega]
      unfold kS
      rw [md _ _ _ hx, md _ _ _ hy]
      exact hxy)
    omega
  have low : ∀ n j, j < H * W → cel W (t j) < n → ∃ i0, i0 < H * W ∧ cel W (t i0) = 0 ∧ (Q i0 ↔ Q j) := by
    intro n
    induction n with
    | zero => intro j _ h; omega
    | succ n ih =>
      intro j hj hc
      unfold cnB at h2
      have := List.all_eq_true.mp h2 j (List.mem_range.mpr hj)
      rcases Bool.or_eq_true_iff.mp this with h | h
      · exact ⟨j, hj, by simpa using h, Iff.rfl⟩
      · obtain ⟨k, hk, hk2⟩ := List.any_eq_true.mp h
        have hk' := List.mem_range.mp hk
        obtain ⟨h3, h4⟩ := Bool.and_eq_true_iff.mp hk2
        have h5 := of_decide_eq_true h3
        obtain ⟨i0, b1, b2, b3⟩ := ih k hk' (by omega)
        exact ⟨i0, b1, b2, b3.trans (hQ k j hk' hj (by unfold aH; rw [h4, Bool.or_true]))⟩
  obtain ⟨a, a1, a2, a3⟩ := low (cel W (t i) + 1) i hi (Nat.lt_succ_self _)
  obtain ⟨b, b1, b2, b3⟩ := low (cel W (t j) + 1) j hj (Nat.lt_succ_self _)
  have hab := cinj a b a1 b1 (a2.trans b2.symm)
  subst hab
  exact a3.symm.trans b3
theorem lbS_0 : ∀ D ∈ ([1, 2, 4, 8, 16] : List Nat), cK 16 (lbS (fun _ => 0) D) = 1 := by decide +kernel
theorem lbS_lg : ∀ D ∈ ([1, 2, 4, 8, 16] : List Nat), ∀ lg : Nat, lg < 17 → cK 16 (lbS (fun j => if j < lg then 0 else j) D) = (if lg = 0 then D else if D ≤ lg then 1 else D - lg + 1) := by decide +kernel
/-- all edges cut: only a staple's legs hold -/
theorem eU_15 {t : Nat → Nat} {i j : Nat} : eU 15 t i j = false := by
  unfold eU
  rw [show (15 : Nat) ^^^ 15 = 0 from rfl, Nat.and_zero]
  rfl
theorem good_lg {D lg : Nat} {t : Nat → Nat} : good D (aH lg 15 t) (fun j => if j < lg then 0 else j) := by
  intro Q hQ i j hi hj e
  have e' : (if i < lg then 0 else i) = (if j < lg then 0 else j) := e
  by_cases hij : i = j
  · rw [hij]
  · by_cases c : i < lg ∧ j < lg
    · refine hQ i j hi hj ?_
      unfold aH
      rw [decide_eq_true c.1, decide_eq_true c.2]
      rfl
    · exfalso
      by_cases c0 : lg = 0
      · subst c0
        rw [if_neg (by omega), if_neg (by omega)] at e'
        exact hij e'
      · have : 0 < lg := by omega
        split at e' <;> split at e' <;> omega
theorem adj_lg {D lg : Nat} {t : Nat → Nat} : ∀ i j, i < D → j < D → aH lg 15 t i j = true → (fun j => if j < lg then 0 else j) i = (fun j => if j < lg then 0 else j) j := by
  intro i j _ _ h
  unfold aH at h
  rw [eU_15, Bool.or_false] at h
  obtain ⟨h1, h2⟩ := Bool.and_eq_true_iff.mp h
  have h1 := of_decide_eq_true h1
  have h2 := of_decide_eq_true h2
  show (if i < lg then 0 else i) = (if j < lg then 0 else j)
  rw [if_pos h1, if_pos h2]
/-- what the cuts that are told bring -/
theorem ctB_of {H W sp : Nat} {t : Nat → Nat} (h : ctB H W t sp = true) : (∀ o, o ≤ H * W → msk (ecC H W t sp 0 4 0) sp (shN t (H * W) o) = 0) ∧ ∀ e, e < 4 → (ecC H W t sp 0 4 0) / 2 ^ e % 2 ≠ 0 → pcS H W t e ≠ 0 := by
  have hlt := ecC_lt (H := H) (W := W) (sp := sp) (t := t) 4 0 0 (by omega) (by omega)
  unfold ctB at h
  have h1 := List.all_eq_true.mp h _ (List.mem_range.mpr hlt)
  rw [bne_self_eq_false, Bool.false_or] at h1
  obtain ⟨h2, h3⟩ := Bool.and_eq_true_iff.mp h1
  refine ⟨fun o ho => ?_, fun e he hz => ?_⟩
  · have := List.all_eq_true.mp h2 o (List.mem_range.mpr (by omega))
    simpa using this
  · have := List.all_eq_true.mp h3 e (List.mem_range.mpr he)
    rcases Bool.or_eq_true_iff.mp this with h4 | h4
    · exact absurd (by simpa using h4) hz
    · simpa using h4
