/-! Notes laid out: their order. -/
theorem get9 {R : xN} {a m : Nat} {f : Int} (ha : a < 12) (hf : f = (m : Int)) (hm : m < 4) : f_X4_get 13 (a : Int) f R = some (R 14 (4 * a + m)) := by
  have e1 : Qe (w4 (w4 ((a : Int) * 4) + f)) ((4 * a + m : Nat) : Int) := by
    unfold Qe
    rw [hf, w4_of (x := (a : Int) * 4) (by omega), w4_of (by omega)]; omega
  have e2 : Qe (w4 (48 - 1)) 47 := by unfold Qe; rw [w4_of (by omega)]; rfl
  unfold f_X4_get
  rw [xlet_eq, e1.eq, e2.eq, in9, Option.bind_some, if_pos (decide_eq_true (by omega)), if_pos (by omega), tnc]
/-- what the class's layout reads of the notes -/
def NB (R : xN) (s : Nat → Int) (N : Nat) : Prop := s 37 = (N : Int) ∧ N ≤ 12 ∧ R 13 1 = (N : Int) ∧ ∀ k : Nat, k < 4 * N → R 14 k = s (38 + k)
theorem NB.k {R R' : xN} {s : Nat → Int} {N : Nat} (h : NB R s N) (k : ∀ q j : Nat, q < 311 → R' q j = R q j) : NB R' s N := ⟨h.1, h.2.1, by rw [k 13 1 (by omega)]; exact h.2.2.1, fun i hi => by rw [k 14 i (by omega)]; exact h.2.2.2 i hi⟩
theorem nf9 {R : xN} {s : Nat → Int} {N a m : Nat} {f : Int} (h : NB R s N) (ha : a < N) (hf : f = (m : Int)) (hm : m < 4) : f_X4_get 13 (a : Int) f R = some (s (38 + m + 4 * a)) := by
  have hN := h.2.1
  rw [get9 (by omega) hf hm, h.2.2.2 _ (by omega), show 38 + (4 * a + m) = 38 + m + 4 * a by omega]
/-- a note comes before another one -/
def bf (s : Nat → Int) (a b : Nat) : Bool := decide (s (39 + 4 * b) < s (39 + 4 * a) ∨ (s (39 + 4 * a) = s (39 + 4 * b) ∧ (s (38 + 4 * a) < s (38 + 4 * b) ∨ (s (38 + 4 * a) = s (38 + 4 * b) ∧ a < b))))
theorem bf_trans {s : Nat → Int} {a b c : Nat} (h1 : bf s a b = true) (h2 : bf s b c = true) : bf s a c = true := by
  unfold bf at *
  rw [decide_eq_true_iff] at *
  omega
theorem bf_tot {s : Nat → Int} {a b : Nat} (h : a ≠ b) (h1 : ¬ bf s a b = true) : bf s b a = true := by
  unfold bf at *
  rw [decide_eq_true_iff] at *
  omega
theorem bf_asy {s : Nat → Int} {a b : Nat} (h1 : bf s a b = true) : ¬ bf s b a = true := by
  unfold bf at *
  rw [decide_eq_true_iff] at *
  omega
theorem cb9 {R : xN} {s : Nat → Int} {N a b : Nat} (h : NB R s N) (ha : a < N) (hb : b < N) : f_X4_comesBefore 13 (a : Int) (b : Int) R = some (bf s a b) := by
  have ga := nf9 (f := 1) (m := 1) h ha rfl (by omega)
  have gb := nf9 (f := 1) (m := 1) h hb rfl (by omega)
  have ha0 := nf9 (f := 0) (m := 0) h ha rfl (by omega)
  have hb0 := nf9 (f := 0) (m := 0) h hb rfl (by omega)
  unfold f_X4_comesBefore f_X4_subjectOf bf
  simp only [ga, gb, ha0, hb0, Option.bind_some]
  rw [show 38 + 1 = 39 from rfl, show 38 + 0 = 38 from rfl]
  generalize s (39 + 4 * a) = ua
  generalize s (39 + 4 * b) = ub
  generalize s (38 + 4 * a) = sa
  generalize s (38 + 4 * b) = sb
  by_cases c1 : ua = ub
  · rw [if_pos c1]
    by_cases c2 : sa = sb
    · rw [if_pos c2]
      by_cases c3 : (b : Int) ≤ (a : Int)
      · rw [if_pos c3, decide_eq_false (by omega)]
      · rw [if_neg c3, decide_eq_true (by omega)]
    · rw [if_neg c2]
      by_cases c3 : sb ≤ sa
      · rw [if_pos c3, decide_eq_false (by omega)]
      · rw [if_neg c3, decide_eq_true (by omega)]
  · rw [if_neg c1]
    by_cases c3 : ua ≤ ub
    · rw [if_pos c3, decide_eq_false (by omega)]
    · rw [if_neg c3, decide_eq_true (by omega)]
theorem nx10 {a m : Nat} (ha : a < 12) (hm : m < 4) : Qe (w4 (w4 (38 + w4 (4 * (a : Int))) + (m : Int))) ((38 + m + 4 * a : Nat) : Int) := by
  unfold Qe
  rw [w4_of (x := 4 * (a : Int)) (by omega), w4_of (x := 38 + 4 * (a : Int)) (by omega), w4_of (by omega)]; omega
theorem nx0 {a : Nat} (ha : a < 12) : Qe (w4 (38 + w4 (4 * (a : Int)))) ((38 + 4 * a : Nat) : Int) := by
  unfold Qe
  rw [w4_of (x := 4 * (a : Int)) (by omega), w4_of (by omega)]; omega
theorem ca10 {R : xN} {a b : Nat} (ha : a < 12) (hb : b < 12) : f_X10_comesAhead 323 (a : Int) (b : Int) R = some (bf (R 324) a b) := by
  have ea : Qe (w4 (((38 + 4 * a : Nat) : Int) + 1)) ((39 + 4 * a : Nat) : Int) := by unfold Qe; rw [w4_of (by omega)]; omega
  have eb : Qe (w4 (((38 + 4 * b : Nat) : Int) + 1)) ((39 + 4 * b : Nat) : Int) := by unfold Qe; rw [w4_of (by omega)]; omega
  have g1 : (0 : Int) ≤ ((39 + 4 * a : Nat) : Int) ∧ ((39 + 4 * a : Nat) : Int) < 464 := by omega
  have g2 : (0 : Int) ≤ ((39 + 4 * b : Nat) : Int) ∧ ((39 + 4 * b : Nat) : Int) < 464 := by omega
  have g3 : (0 : Int) ≤ ((38 + 4 * a : Nat) : Int) ∧ ((38 + 4 * a : Nat) : Int) < 464 := by omega
  have g4 : (0 : Int) ≤ ((38 + 4 * b : Nat) : Int) ∧ ((38 + 4 * b : Nat) : Int) < 464 := by omega
  unfold f_X10_comesAhead bf
  rw [xlet_eq, xlet_eq, (nx0 ha).eq, (nx0 hb).eq, ea.eq, eb.eq, if_pos g1, if_pos g2, if_pos g3, if_pos g4, if_pos g3, if_pos g4, if_pos g1, if_pos g2, tnc, tnc, tnc, tnc, show 323 + 1 = 324 from rfl]
  generalize R 324 (39 + 4 * a) = ua
  generalize R 324 (39 + 4 * b) = ub
  generalize R 324 (38 + 4 * a) = sa
  generalize R 324 (38 + 4 * b) = sb
  by_cases c1 : ua = ub
  · rw [if_pos c1]
    by_cases c2 : sa = sb
    · rw [if_pos c2]
      by_cases c3 : (b : Int) ≤ (a : Int)
      · rw [if_pos c3, decide_eq_false (by omega)]
      · rw [if_neg c3, decide_eq_true (by omega)]
    · rw [if_neg c2]
      by_cases c3 : sb ≤ sa
      · rw [if_pos c3, decide_eq_false (by omega)]
      · rw [if_neg c3, decide_eq_true (by omega)]
  · rw [if_neg c1]
    by_cases c3 : ua ≤ ub
    · rw [if_pos c3, decide_eq_false (by omega)]
    · rw [if_neg c3, decide_eq_true (by omega)]
/-- o lists the first m notes in order -/
def srt (s : Nat → Int) (o : Nat → Nat) (m : Nat) : Prop := (∀ i j, i < j → j < m → bf s (o i) (o j) = true) ∧ (∀ i, i < m → o i < m) ∧ ∀ a, a < m → ∃ i, i < m ∧ o i = a
def put (o : Nat → Nat) (z m : Nat) : Nat → Nat := fun j => if j < z then o j else if j = z then m else o (j - 1)
theorem put_lt {o : Nat → Nat} {z m j : Nat} (h : j < z) : put o z m j = o j := by unfold put; rw [if_pos h]
theorem put_eq {o : Nat → Nat} {z m : Nat} : put o z m z = m := by unfold put; rw [if_neg (Nat.lt_irrefl z), if_pos rfl]
theorem put_gt {o : Nat → Nat} {z m j : Nat} (h : z < j) : put o z m j = o (j - 1) := by unfold put; rw [if_neg (by omega), if_neg (by omega)]
theorem srt_put {s : Nat → Int} {o : Nat → Nat} {z m : Nat} (h : srt s o m) (hz : z ≤ m) (h1 : ∀ i, z ≤ i → i < m → bf s m (o i) = true) (h2 : z = 0 ∨ ¬ bf s m (o (z - 1)) = true) : srt s (put o z m) (m + 1) := by
  obtain ⟨a1, a2, a3⟩ := h
  have hlow : ∀ i, i < z → bf s (o i) m = true := fun i hi => by
    rcases h2 with h2 | h2
    · omega
    · have hl := a2 (z - 1) (by omega)
      have ht := bf_tot (s := s) (a := m) (b := o (z - 1)) (by omega) h2
      by_cases hiz : i = z - 1
      · rw [hiz]; exact ht
      · exact bf_trans (a1 i (z - 1) (by omega) (by omega)) ht
  refine ⟨fun i j hij hj => ?_, fun i hi => ?_, fun a ha => ?_⟩
  · by_cases c1 : j < z
    · rw [put_lt c1, put_lt (by omega)]; exact a1 i j hij (by omega)
    · by_cases c2 : j = z
      · subst c2; rw [put_eq, put_lt hij]; exact hlow i hij
      · rw [put_gt (show z < j by omega)]
        by_cases c3 : i < z
        · rw [put_lt c3]; exact a1 i (j - 1) (by omega) (by omega)
        · by_cases c4 : i = z
          · subst c4; rw [put_eq]; exact h1 (j - 1) (by omega) (by omega)
          · rw [put_gt (show z < i by omega)]; exact a1 (i - 1) (j - 1) (by omega) (by omega)
  · by_cases c1 : i < z
    · rw [put_lt c1]; have := a2 i (by omega); omega
    · by_cases c2 : i = z
      · subst c2; rw [put_eq]; omega
      · rw [put_gt (show z < i by omega)]; have := a2 (i - 1) (by omega); omega
  · by_cases c1 : a = m
    · exact ⟨z, by omega, by rw [put_eq, c1]⟩
    · obtain ⟨i, i1, i2⟩ := a3 a (by omega)
      by_cases c2 : i < z
      · exact ⟨i, by omega, by rw [put_lt c2]; exact i2⟩
      · exact ⟨i + 1, by omega, by rw [put_gt (show z < i + 1 by omega)]; exact i2⟩
theorem ins_lp {s : Nat → Int} {N m : Nat} {o : Nat → Nat} (hm : m < N) (ho : ∀ i, i < m → o i < m) : ∀ (n y : Nat) (R : xN), y < n → y ≤ m → NB R s N → (∀ i, i < y → R 315 i = (o i : Int)) → ∃ (R' : xN) (z : Nat), z ≤ y ∧ (∀ X : Int → xN → Option xN, lp_X2_sort_18 314 13 (m : Int) n (y : Int) R X = X (z : Int) R') ∧ (∀ i, z ≤ i → i < y → bf s m (o i) = true) ∧ (z = 0 ∨ ¬ bf s m (o (z - 1)) = true) ∧ (∀ j, z < j → j ≤ y → R' 315 j = (o (j - 1) : Int)) ∧ ∀ q j : Nat, ¬ (q = 315 ∧ z < j ∧ j ≤ y) → R' q j = R q j := by
  intro n
  induction n with
  | zero => intro y R h; omega
  | succ n ih =>
    intro y R h1 h2 hB h3
    have hN := hB.2.1
    cases y with
    | zero =>
      refine ⟨R, 0, Nat.le_refl 0, fun X => ?_, fun i g1 g2 => by omega, Or.inl rfl, fun j g1 g2 => by omega, fun q j _ => rfl⟩
      rw [lp_X2_sort_18, if_pos (by omega)]
    | succ k =>
      have e5 : Qe (w4 (((k + 1 : Nat) : Int) - 1)) (k : Int) := by unfold Qe; rw [w4_of (by omega)]; omega
      have e6 : Qe (w4 (((k + 1 : Nat) : Int) + (-1))) (k : Int) := by unfold Qe; rw [w4_of (by omega)]; omega
      have g1 : (0 : Int) ≤ (k : Int) ∧ (k : Int) < 12 := by omega
      have g2 : (0 : Int) ≤ ((k + 1 : Nat) : Int) ∧ ((k + 1 : Nat) : Int) < 12 := by omega
      have hc := cb9 hB hm (show o k < N by have := ho k (by omega); omega)
      have hstart : ∀ X : Int → xN → Option xN, lp_X2_sort_18 314 13 (m : Int) (n + 1) ((k + 1 : Nat) : Int) R X = if bf s m (o k) = true then lp_X2_sort_18 314 13 (m : Int) n (k : Int) (xup R 315 (k + 1) (o k : Int)) X else X ((k + 1 : Nat) : Int) R := fun X => by
        rw [lp_X2_sort_18, if_neg (by omega), e5.eq, if_pos g1, tnc, show 314 + 1 = 315 from rfl, h3 k (by omega), hc, Option.bind_some, if_pos g1, if_pos g2, xlet_eq, xlet_eq, e6.eq, tnc]
      by_cases hb : bf s m (o k) = true
      · obtain ⟨R', z, b1, b2, b3, b4, b5, b6⟩ := ih k (xup R 315 (k + 1) (o k : Int)) (by omega) (by omega) (hB.k (fun q j hq => xup_nn (by omega))) (fun i hi => by rw [xup_nn (by omega)]; exact h3 i (by omega))
        refine ⟨R', z, by omega, fun X => ?_, fun i g3 g4 => ?_, b4, fun j g3 g4 => ?_, fun q j hq => by rw [b6 q j (by omega), xup_nn (by omega)]⟩
        · rw [hstart, if_pos hb]; exact b2 X
        · by_cases hi : i = k
          · rw [hi]; exact hb
          · exact b3 i g3 (by omega)
        · by_cases hj : j = k + 1
          · subst hj; rw [b6 315 (k + 1) (by omega), xup_eq]; rfl
          · exact b5 j g3 (by omega)
      · refine ⟨R, k + 1, Nat.le_refl _, fun X => ?_, fun i g3 g4 => by omega, Or.inr hb, fun j g3 g4 => by omega, fun q j _ => rfl⟩
        rw [hstart, if_neg hb]
theorem srt_lp {s : Nat → Int} {N : Nat} : ∀ (n c m : Nat) (R : xN) (o : Nat → Nat), c < n → m + c = N → NB R s N → srt s o m → (∀ i, i < m → R 315 i = (o i : Int)) → ∃ (R' : xN) (o' : Nat → Nat), (∀ X : Int → xN → Option xN, lp_X2_sort_2 314 13 n (m : Int) R X = X (N : Int) R') ∧ srt s o' N ∧ (∀ i, i < N → R' 315 i = (o' i : Int)) ∧ ∀ q j : Nat, q ≠ 315 → R' q j = R q j := by
  intro n
  induction n with
  | zero => intro c m R o h; omega
  | succ n ih =>
    intro c m R o h1 h2 hB hs h3
    have hN := hB.2.1
    cases c with
    | zero =>
      refine ⟨R, o, fun X => ?_, ?_, fun i hi => h3 i (by omega), fun q j _ => rfl⟩
      · rw [lp_X2_sort_2, hB.2.2.1, if_pos (by omega), show m = N by omega]
      · rw [← show m = N by omega]; exact hs
    | succ c =>
      have e5 : Qe (w4 ((m : Int) + 1)) ((m + 1 : Nat) : Int) := by unfold Qe; rw [w4_of (by omega)]; omega
      obtain ⟨R1, z, b1, b2, b3, b4, b5, b6⟩ := ins_lp (s := s) (o := o) (show m < N by omega) hs.2.1 6000 m R (by omega) (Nat.le_refl m) hB h3
      have g1 : (0 : Int) ≤ (z : Int) ∧ (z : Int) < 12 := by omega
      obtain ⟨R', o', c1, c2, c3, c4⟩ := ih c (m + 1) (xup R1 315 z (m : Int)) (put o z m) (by omega) (by omega) ((hB.k (fun q j hq => b6 q j (by omega))).k (fun q j hq => xup_nn (by omega))) (srt_put hs b1 b3 b4) (fun i hi => by
        by_cases q1 : i < z
        · rw [xup_nn (by omega), b6 315 i (by omega), put_lt q1]; exact h3 i (by omega)
        · by_cases q2 : i = z
          · subst q2; rw [xup_eq, put_eq]
          · rw [xup_nn (by omega), put_gt (show z < i by omega)]; exact b5 i (by omega) (by omega))
      refine ⟨R', o', fun X => ?_, c2, c3, fun q j hq => by rw [c4 q j hq, xup_nn (by omega), b6 q j (by omega)]⟩
      rw [lp_X2_sort_2, hB.2.2.1, if_neg (by omega), if_neg (by omega), b2, if_pos g1, xlet_eq, xlet_eq, tnc, show 314 + 1 = 315 from rfl, e5.eq]
      exact c1 X
theorem sort9 {R : xN} {s : Nat → Int} {N : Nat} (hB : NB R s N) : ∃ (R' : xN) (o : Nat → Nat), f_X2_sort 314 13 R = some R' ∧ srt s o N ∧ (∀ i, i < N → R' 315 i = (o i : Int)) ∧ ∀ q j : Nat, q ≠ 315 → R' q j = R q j := by
  have hN := hB.2.1
  obtain ⟨R', o, b1, b2, b3, b4⟩ := srt_lp (s := s) (N := N) 6000 N 0 R (fun _ => 0) (by omega) (by omega) hB ⟨fun i j _ h => absurd h (Nat.not_lt_zero j), fun i h => absurd h (Nat.not_lt_zero i), fun i h => absurd h (Nat.not_lt_zero i)⟩ (fun i h => absurd h (Nat.not_lt_zero i))
  rw [z0] at b1
  refine ⟨R', o, ?_, b2, b3, b4⟩
  unfold f_X2_sort
  rw [b1]
theorem hs10 {v i : Nat} {R : xN} (hv : v < 65536) (hi : i < 16) : f_X10_has (v : Int) (i : Int) R = some (v.testBit i) := by
  unfold f_X10_has
  by_cases h : v.testBit i = true
  · rw [if_pos ((bHas hv hi).mpr h), h]
  · rw [if_neg (fun g => h ((bHas hv hi).mp g)), Bool.eq_false_iff.mpr h]
/-- the model takes the notes in the same order -/
theorem sel_lp {R : xN} {N k dn : Nat} {o : Nat → Nat} {p2 p3 : Int} (hN : N ≤ 12) (h37 : R 324 37 = (N : Int)) (ho : srt (R 324) o N) (hk : k < N) (hd : dn < 65536) (hdn : ∀ a, a < N → (dn.testBit a = true ↔ ∃ i, i < k ∧ o i = a)) : ∀ (n c a : Nat) (b : Int), c < n → a + c = N → ((b = -1 ∧ ∀ a', a' < a → dn.testBit a' = true) ∨ ∃ b' : Nat, b = (b' : Int) ∧ b' < a ∧ ¬ dn.testBit b' = true ∧ ∀ a', a' < a → ¬ dn.testBit a' = true → a' = b' ∨ bf (R 324) b' a' = true) → ∀ X : Int → Int → Option xN, lp_X10_layNotes_74 323 (dn : Int) p2 p3 R n b (a : Int) X = X (o k : Int) (N : Int) := by
  intro n
  induction n with
  | zero => intro c a b h; omega
  | succ n ih =>
    intro c a b h1 h2 h3 X
    have hok := ho.2.1 k hk
    have hkd : ¬ dn.testBit (o k) = true := fun h => by
      obtain ⟨i, i1, i2⟩ := (hdn (o k) hok).mp h
      have h3 := ho.1 i k i1 hk
      rw [i2] at h3
      exact bf_asy h3 h3
    cases c with
    | zero =>
      rw [lp_X10_layNotes_74, show 323 + 1 = 324 from rfl, h37, if_pos (by omega)]
      rcases h3 with ⟨h3, h4⟩ | ⟨b', h3, h4, h5, h6⟩
      · exact absurd (h4 (o k) (by omega)) hkd
      · have : b' = o k := by
          rcases h6 (o k) (by omega) hkd with h | h
          · exact h.symm
          · obtain ⟨i, i1, i2⟩ := ho.2.2 b' (by omega)
            by_cases c1 : i < k
            · exact absurd ((hdn b' (by omega)).mpr ⟨i, c1, i2⟩) h5
            · by_cases c2 : i = k
              · rw [← i2, c2]
              · have := ho.1 k i (by omega) i1
                rw [i2] at this
                exact absurd h (bf_asy this)
        rw [h3, this, show a = N by omega]
    | succ c =>
      have e5 : Qe (w4 ((a : Int) + 1)) ((a + 1 : Nat) : Int) := by unfold Qe; rw [w4_of (by omega)]; omega
      rw [lp_X10_layNotes_74, show 323 + 1 = 324 from rfl, h37, if_neg (by omega), hs10 hd (by omega), Option.bind_some]
      by_cases hda : dn.testBit a = true
      · rw [if_pos hda, xlet_eq, e5.eq]
        refine ih c (a + 1) b (by omega) (by omega) ?_ X
        rcases h3 with ⟨h3, h4⟩ | ⟨b', h3, h4, h5, h6⟩
        · refine Or.inl ⟨h3, fun a' ha => ?_⟩
          by_cases q : a' = a
          · rw [q]; exact hda
          · exact h4 a' (by omega)
        · refine Or.inr ⟨b', h3, by omega, h5, fun a' ha hna => ?_⟩
          by_cases q : a' = a
          · rw [q] at hna; exact absurd hda hna
          · exact h6 a' (by omega) hna
      · rw [if_neg hda]
        rcases h3 with ⟨h3, h4⟩ | ⟨b', h3, h4, h5, h6⟩
        · rw [if_pos (by omega), xlet_eq, e5.eq]
          refine ih c (a + 1) (a : Int) (by omega) (by omega) (Or.inr ⟨a, rfl, by omega, hda, fun a' ha hna => ?_⟩) X
          by_cases q : a' = a
          · exact Or.inl q
          · exact absurd (h4 a' (by omega)) hna
        · subst h3
          rw [if_neg (by omega), ca10 (by omega) (by omega), Option.bind_some, xlet_eq, xlet_eq, e5.eq]
          by_cases hb : bf (R 324) a b' = true
          · rw [if_pos hb]
            refine ih c (a + 1) (a : Int) (by omega) (by omega) (Or.inr ⟨a, rfl, by omega, hda, fun a' ha hna => ?_⟩) X
            by_cases q : a' = a
            · exact Or.inl q
            · rcases h6 a' (by omega) hna with h | h
              · rw [h]; exact Or.inr hb
              · exact Or.inr (bf_trans hb h)
          · rw [if_neg hb]
            refine ih c (a + 1) (b' : Int) (by omega) (by omega) (Or.inr ⟨b', rfl, by omega, h5, fun a' ha hna => ?_⟩) X
            by_cases q : a' = a
            · rw [q]; exact Or.inr (bf_tot (by omega) hb)
            · exact h6 a' (by omega) hna
