/-! Notes laid out: their first lines. -/
def lnN (s : Nat → Int) (a : Nat) : Nat := (s (40 + 4 * a)).toNat
/-- the first line of a note, -1 if it has no room -/
def fsW (s : Nat → Int) (S : Nat → Nat) (D nx a : Nat) : Int := if s (41 + 4 * a) = 1 then rmW S nx (lnN s a) (D + 1) 0 else if S (D + 1) < nx + lnN s a then -1 else (nx : Int)
def nxF (s : Nat → Int) (S : Nat → Nat) (D : Nat) (o : Nat → Nat) : Nat → Nat
  | 0 => 0
  | k + 1 => if fsW s S D (nxF s S D o k) (o k) < 0 then nxF s S D o k else (fsW s S D (nxF s S D o k) (o k)).toNat + lnN s (o k)
def fF (s : Nat → Int) (S : Nat → Nat) (D : Nat) (o : Nat → Nat) (k : Nat) : Int := fsW s S D (nxF s S D o k) (o k)
theorem nxF_s {s : Nat → Int} {S : Nat → Nat} {D k : Nat} {o : Nat → Nat} : nxF s S D o (k + 1) = if fF s S D o k < 0 then nxF s S D o k else (fF s S D o k).toNat + lnN s (o k) := rfl
def NS (s : Nat → Int) (N : Nat) : Prop := ∀ a : Nat, a < N → (1 ≤ s (40 + 4 * a) ∧ s (40 + 4 * a) ≤ 20) ∧ (s (41 + 4 * a) = 0 ∨ s (41 + 4 * a) = 1)
def SM (S : Nat → Nat) (D : Nat) : Prop := (∀ a b, a ≤ b → b ≤ D + 1 → S a ≤ S b) ∧ S (D + 1) ≤ 288
theorem fsW_ok {s : Nat → Int} {S : Nat → Nat} {D nx a N : Nat} (hM : SM S D) (hs : NS s N) (ha : a < N) : -1 ≤ fsW s S D nx a ∧ (0 ≤ fsW s S D nx a → (nx : Int) ≤ fsW s S D nx a ∧ fsW s S D nx a + (lnN s a : Int) ≤ (S (D + 1) : Int)) := by
  obtain ⟨h1, h2⟩ := hs a ha
  have hl : 1 ≤ lnN s a := by unfold lnN; omega
  unfold fsW
  by_cases c : s (41 + 4 * a) = 1
  · rw [if_pos c]
    refine ⟨rmW_ge _ _, fun hp => ?_⟩
    rcases rmW_lst (nx := nx) hM.1 hl with ⟨g1, g2⟩ | ⟨n, g1, ⟨g2, o, g3, g4, g5⟩, g6⟩
    · omega
    · have := hM.1 (o + 1) (D + 1) (by omega) (Nat.le_refl _)
      rw [g1]
      omega
  · rw [if_neg c]
    by_cases c2 : S (D + 1) < nx + lnN s a
    · rw [if_pos c2]; exact ⟨by omega, fun h => by omega⟩
    · rw [if_neg c2]; exact ⟨by omega, fun h => by omega⟩
theorem nxF_le {s : Nat → Int} {S : Nat → Nat} {D N : Nat} {o : Nat → Nat} (hM : SM S D) (hs : NS s N) (ho : ∀ i, i < N → o i < N) : ∀ k, k ≤ N → nxF s S D o k ≤ S (D + 1) := by
  intro k
  induction k with
  | zero => intro _; exact Nat.zero_le _
  | succ k ih =>
    intro hk
    have h1 := ih (by omega)
    obtain ⟨h2, h3⟩ := fsW_ok (nx := nxF s S D o k) hM hs (ho k (by omega))
    have h4 : fF s S D o k = fsW s S D (nxF s S D o k) (o k) := rfl
    rw [nxF_s]
    by_cases c : fF s S D o k < 0
    · rw [if_pos c]; exact h1
    · rw [if_neg c]
      rw [h4] at c ⊢
      have := h3 (by omega)
      omega
theorem nxF_up {s : Nat → Int} {S : Nat → Nat} {D N : Nat} {o : Nat → Nat} (hM : SM S D) (hs : NS s N) (ho : ∀ i, i < N → o i < N) {j : Nat} : ∀ k, j ≤ k → k ≤ N → nxF s S D o j ≤ nxF s S D o k := by
  intro k
  induction k with
  | zero => intro h _; rw [show j = 0 by omega]; exact Nat.le_refl _
  | succ k ih =>
    intro h hk
    by_cases hj : j = k + 1
    · rw [hj]; exact Nat.le_refl _
    · have h1 := ih (by omega) (by omega)
      obtain ⟨h2, h3⟩ := fsW_ok (nx := nxF s S D o k) hM hs (ho k (by omega))
      have h4 : fF s S D o k = fsW s S D (nxF s S D o k) (o k) := rfl
      rw [nxF_s]
      by_cases c : fF s S D o k < 0
      · rw [if_pos c]; exact h1
      · rw [if_neg c]
        rw [h4] at c ⊢
        have := h3 (by omega)
        omega
theorem srt_inj {s : Nat → Int} {o : Nat → Nat} {N i j : Nat} (h : srt s o N) (hi : i < N) (hj : j < N) (he : o i = o j) : i = j := by
  by_cases c1 : i < j
  · have := h.1 i j c1 hj
    rw [he] at this
    exact absurd this (bf_asy this)
  · by_cases c2 : j < i
    · have := h.1 j i c2 hi
      rw [he] at this
      exact absurd this (bf_asy this)
    · omega
/-- places of notes don't meet -/
theorem fF_apart {s : Nat → Int} {S : Nat → Nat} {D N i j y : Nat} {o : Nat → Nat} (hM : SM S D) (hs : NS s N) (ho : ∀ i, i < N → o i < N) (hij : i < j) (hj : j < N) (h1 : 0 ≤ fF s S D o i) (h2 : 0 ≤ fF s S D o j) (h3 : (y : Int) < fF s S D o i + (lnN s (o i) : Int)) : (y : Int) < fF s S D o j := by
  have h4 := nxF_up (D := D) (S := S) hM hs ho (j := i + 1) j (by omega) (by omega)
  rw [nxF_s, if_neg (by omega)] at h4
  have h5 := (fsW_ok (nx := nxF s S D o j) hM hs (ho j hj)).2 h2
  have h6 : fF s S D o j = fsW s S D (nxF s S D o j) (o j) := rfl
  omega
/-- what the class's arrangement stands on -/
def AC (R : xN) (s : Nat → Int) (S : Nat → Nat) (D N : Nat) (o : Nat → Nat) : Prop := NB R s N ∧ D ≤ 16 ∧ R 314 5 = ((D + 1 : Nat) : Int) ∧ (∀ k : Nat, k ≤ D + 1 → R 318 k = (S k : Int) ∧ S k ≤ 288) ∧ ∀ i, i < N → R 315 i = (o i : Int)
theorem AC.k {R R' : xN} {s : Nat → Int} {S : Nat → Nat} {D N : Nat} {o : Nat → Nat} (h : AC R s S D N o) (k : ∀ q j : Nat, q ≠ 316 → R' q j = R q j) : AC R' s S D N o := by
  obtain ⟨h1, h2, h3, h4, h5⟩ := h
  exact ⟨h1.k (fun q j hq => k q j (by omega)), h2, by rw [k 314 5 (by omega)]; exact h3, fun i hi => by rw [k 318 i (by omega)]; exact h4 i hi, fun i hi => by rw [k 315 i (by omega)]; exact h5 i hi⟩
theorem arr_lp {s : Nat → Int} {S : Nat → Nat} {D N : Nat} {o : Nat → Nat} (hM : SM S D) (hs : NS s N) (ho : srt s o N) : ∀ (n c k : Nat) (R : xN), c < n → k + c = N → AC R s S D N o → ∃ R', (∀ X : Int → Int → xN → Option xN, lp_X2_arrange_30 314 2 n (nxF s S D o k : Int) (k : Int) R X = X (nxF s S D o N : Int) (N : Int) R') ∧ (∀ i, k ≤ i → i < N → R' 316 (o i) = nine (fF s S D o i)) ∧ (∀ q j : Nat, q ≠ 316 → R' q j = R q j) ∧ ∀ j, (∀ i, k ≤ i → i < N → o i ≠ j) → R' 316 j = R 316 j := by
  intro n
  induction n with
  | zero => intro c k R h; omega
  | succ n ih =>
    intro c k R h1 h2 hA
    obtain ⟨hB, hD, h5, h8, h15⟩ := id hA
    have hN := hB.2.1
    cases c with
    | zero =>
      refine ⟨R, fun X => ?_, fun i g1 g2 => by omega, fun q j _ => rfl, fun j _ => rfl⟩
      rw [lp_X2_arrange_30, show 2 + 11 = 13 from rfl, hB.2.2.1, if_pos (by omega), show k = N by omega]
    | succ c =>
      have hk : k < N := by omega
      have hok := ho.2.1 k hk
      have e5 : Qe (w4 ((k : Int) + 1)) ((k + 1 : Nat) : Int) := by unfold Qe; rw [w4_of (by omega)]; omega
      have gk : (0 : Int) ≤ (k : Int) ∧ (k : Int) < 12 := by omega
      have gD : (0 : Int) ≤ ((D + 1 : Nat) : Int) ∧ ((D + 1 : Nat) : Int) < 18 := by omega
      have gok : (0 : Int) ≤ (o k : Int) ∧ (o k : Int) < 12 := by omega
      obtain ⟨l1, l2⟩ := hs (o k) hok
      have hlen : s (40 + 4 * o k) = (lnN s (o k) : Int) := by unfold lnN; omega
      have hl20 : 1 ≤ lnN s (o k) ∧ lnN s (o k) ≤ 20 := by omega
      have hln : f_X4_linesOf 13 (o k : Int) R = some (lnN s (o k) : Int) := by
        unfold f_X4_linesOf
        rw [nf9 (f := 2) (m := 2) hB hok rfl (by omega), Option.bind_some, show 38 + 2 = 40 from rfl, hlen]
      have hnx := nxF_le (D := D) (S := S) hM hs ho.2.1 k (by omega)
      have hT := hM.2
      obtain ⟨w1, w2⟩ := fsW_ok (nx := nxF s S D o k) hM hs hok
      have hf : fF s S D o k = fsW s S D (nxF s S D o k) (o k) := rfl
      have kf : ∀ v : Int, f_X2_keepFirstLine 314 (o k : Int) v R = some (xup R 316 (o k) v) := fun v => by
        unfold f_X2_keepFirstLine
        rw [in9, Option.bind_some, if_pos (decide_eq_true (by omega)), if_pos gok, xlet_eq, tnc]
      obtain ⟨R', b1, b2, b3, b4⟩ := ih c (k + 1) (xup R 316 (o k) (nine (fF s S D o k))) (by omega) (by omega) (hA.k (fun q j hq => xup_nn (by omega)))
      have e7 : (if nine (fF s S D o k) = (-9) then (nxF s S D o k : Int) else w4 (nine (fF s S D o k) + (lnN s (o k) : Int))) = (nxF s S D o (k + 1) : Int) := by
        rw [nxF_s, hf]
        by_cases c1 : fsW s S D (nxF s S D o k) (o k) < 0
        · rw [if_pos c1]; unfold nine; rw [if_pos c1, if_pos rfl]
        · have := w2 (by omega)
          rw [if_neg c1]; unfold nine; rw [if_neg c1, if_neg (by omega), w4_of (by omega)]; omega
      refine ⟨R', fun X => ?_, fun i g1 g2 => ?_, fun q j hq => by rw [b3 q j hq, xup_nn (by omega)], fun j hj => ?_⟩
      · rw [lp_X2_arrange_30, show 2 + 11 = 13 from rfl, hB.2.2.1, if_neg (by omega), if_neg (by omega), if_pos gk, tnc, show 314 + 1 = 315 from rfl, h15 k hk, xlet_eq, hln, Option.bind_some]
        unfold f_X4_isWhole
        rw [nf9 (f := 3) (m := 3) hB hok rfl (by omega), Option.bind_some, show 38 + 3 = 41 from rfl]
        by_cases cw : s (41 + 4 * o k) = 1
        · have hr : f_X2_roomForWhole 314 (nxF s S D o k : Int) (lnN s (o k) : Int) R = some (nine (fF s S D o k)) := by
            have := rfw_lp (R := R) (S := S) (nx := nxF s S D o k) (len := lnN s (o k)) hD h5 h8 (by omega) hl20.2 6000 (D + 1) 0 (by omega) (by omega)
            rw [z0] at this
            unfold f_X2_roomForWhole
            rw [this, hf]
            unfold fsW
            rw [if_pos cw]
          rw [if_pos cw, Option.bind_some, if_pos rfl, hr, Option.bind_some, kf, Option.bind_some, xlet_eq, xlet_eq, e7, e5.eq]
          exact b1 X
        · have e6 : Qe (w4 ((nxF s S D o k : Int) + (lnN s (o k) : Int))) ((nxF s S D o k + lnN s (o k) : Nat) : Int) := by unfold Qe; rw [w4_of (by omega)]; omega
          have hr : f_X2_roomFor 314 (nxF s S D o k : Int) (lnN s (o k) : Int) R = some (nine (fF s S D o k)) := by
            unfold f_X2_roomFor
            rw [h5, if_pos gD, tnc, show 314 + 4 = 318 from rfl, (h8 (D + 1) (Nat.le_refl _)).1, e6.eq, xlet_eq, hf]
            unfold fsW
            rw [if_neg cw]
            by_cases c2 : S (D + 1) < nxF s S D o k + lnN s (o k)
            · rw [if_pos (by omega), if_pos c2]; rfl
            · rw [if_neg (by omega), if_neg c2]; unfold nine; rw [if_neg (by omega)]
          rw [if_neg cw, Option.bind_some, if_neg Bool.false_ne_true, hr, Option.bind_some, kf, Option.bind_some, xlet_eq, xlet_eq, e7, e5.eq]
          exact b1 X
      · by_cases hi : i = k
        · subst hi
          rw [b4 (o i) (fun i' g3 g4 he => by have := srt_inj ho g4 hk he; omega), xup_eq]
        · exact b2 i (by omega) g2
      · rw [b4 j (fun i g3 g4 => hj i (by omega) g4), xup_nn (fun h => hj k (Nat.le_refl k) hk h.2.symm)]
/-- the class's layout stands -/
def LyC (R : xN) (s : Nat → Int) (L D N : Nat) (t o : Nat → Nat) : Prop := R 314 6 = (L : Int) ∧ R 314 3 = (cV (zO s t D) (2 * D) : Int) ∧ Pg R 317 (zO s t D) (2 * D) ∧ srt s o N ∧ ∀ i, i < N → R 316 (o i) = nine (fF s (sT (zO s t D) L D) D o i)
theorem sm_of {z : Nat → Nat} {L D : Nat} (hL : 1 ≤ L ∧ L ≤ 9) (hD : 1 ≤ D ∧ D ≤ 16) : SM (sT z L D) D := ⟨fun _ b h1 h2 => sT_mono hD.1 b h1 h2, sT_le hL.2 hD.2⟩
theorem arr9 {R : xN} {s : Nat → Int} {L D N : Nat} {t : Nat → Nat} (hC : CB R s L D t) (hB : NB R s N) (hs : NS s N) : ∃ (R' : xN) (o : Nat → Nat), f_X2_arrange 314 2 R = some R' ∧ LyC R' s L D N t o ∧ ∀ q j : Nat, ¬ (314 ≤ q ∧ q < 319) → R' q j = R q j := by
  have hD := hC.1.1
  have hL := hC.2.2.2.2.2.1
  have hD1 := hC.2.2.2.2.2.2
  have hM := sm_of (z := zO s t D) hL ⟨hD1, hD⟩
  have k1 : ∀ q j : Nat, q < 311 → xup R 314 6 (L : Int) q j = R q j := fun q j hq => xup_nn (by omega)
  obtain ⟨R2, a1, a2, a3⟩ := cln9 (hC.k k1) xup_eq
  have k2 : ∀ q j : Nat, q < 311 → R2 q j = xup R 314 6 (L : Int) q j := fun q j hq => a3 q j (by omega)
  obtain ⟨R3, b1, b2, b3, b4, b5⟩ := lst9 ((hC.k k1).k k2) a2
  have k3 : ∀ q j : Nat, q < 311 → R3 q j = R2 q j := fun q j hq => b5 q j (by omega)
  obtain ⟨R4, o, c1, c2, c3, c4⟩ := sort9 (((hB.k k1).k k2).k k3)
  have k4 : ∀ q j : Nat, q < 311 → R4 q j = R3 q j := fun q j hq => c4 q j (by omega)
  have b2' := b2.k (fun q j hq => c4 q j (by omega))
  obtain ⟨R5, d1, d2, d3, d4⟩ := arr_lp (s := s) (S := sT (zO s t D) L D) (D := D) (N := N) (o := o) hM hs c2 6000 N 0 R4 (by have := hB.2.1; omega) (by omega) ⟨(((hB.k k1).k k2).k k3).k k4, hD, b2'.2.1, fun k hk => ⟨b2'.2.2 k hk, sT_le hL.2 hD⟩, c3⟩
  rw [z0] at d1
  have d1' : ∀ X : Int → Int → xN → Option xN, lp_X2_arrange_30 314 2 6000 0 0 R4 X = X (nxF s (sT (zO s t D) L D) D o N : Int) (N : Int) R5 := d1
  refine ⟨R5, o, ?_, ⟨?_, ?_, ?_, c2, fun i hi => d2 i (Nat.zero_le i) hi⟩, fun q j hq => ?_⟩
  · unfold f_X2_arrange
    rw [hC.2.2.2.2.1, xlet_eq, a1, Option.bind_some, b1, Option.bind_some, show 2 + 11 = 13 from rfl, c1, Option.bind_some, d1']
  · rw [d3 314 6 (by omega)]; exact b2'.1
  · rw [d3 314 3 (by omega), c4 314 3 (by omega)]; exact b3
  · exact (b4.k (fun j => c4 317 j (by omega))).k (fun j => d3 317 j (by omega))
  · rw [d3 q j (by omega), c4 q j (by omega), b5 q j (by omega), a3 q j (by omega), xup_nn (by omega)]
theorem fwd {α : Type} {p : Prop} (h : p) (d : Decidable p) {a b : α} : (@ite α p d a b) = a := if_pos h
/-- the model's notes -/
theorem mln_lp {s : Nat → Int} {S : Nat → Nat} {L D N K : Nat} {o : Nat → Nat} (hM : SM S D) (hs : NS s N) (ho : srt s o N) (hN : N ≤ 12) (h37 : s 37 = (N : Int)) (h11 : s 11 = (L : Int)) (hK : L * K = S (D + 1)) : ∀ (n c k dn : Nat) (R : xN), c < n → k + c = N → R 324 = s → R 323 28 = (K : Int) → OM R S D → dn < 65536 → (∀ a, a < N → (dn.testBit a = true ↔ ∃ i, i < k ∧ o i = a)) → ∃ (R' : xN) (z : Int), (∀ X : Int → Int → Int → xN → Option xN, lp_X10_layNotes_57 323 n (dn : Int) (nxF s S D o k : Int) (k : Int) R X = X z (nxF s S D o N : Int) (N : Int) R') ∧ (∀ i, k ≤ i → i < N → R' 339 (o i) = fF s S D o i) ∧ (∀ q j : Nat, q ≠ 339 → R' q j = R q j) ∧ ∀ j, (∀ i, k ≤ i → i < N → o i ≠ j) → R' 339 j = R 339 j := by
  intro n
  induction n with
  | zero => intro c k dn R h; omega
  | succ n ih =>
    intro c k dn R h1 h2 hr h28 hO hd hdn
    have r37 : R 324 37 = (N : Int) := by rw [hr]; exact h37
    have r11 : R 324 11 = (L : Int) := by rw [hr]; exact h11
    cases c with
    | zero =>
      refine ⟨R, (dn : Int), fun X => ?_, fun i g1 g2 => by omega, fun q j _ => rfl, fun j _ => rfl⟩
      rw [lp_X10_layNotes_57, show 323 + 1 = 324 from rfl, r37, if_pos (by omega), show k = N by omega]
    | succ c =>
      have hk : k < N := by omega
      have hok := ho.2.1 k hk
      have e5 : Qe (w4 ((k : Int) + 1)) ((k + 1 : Nat) : Int) := by unfold Qe; rw [w4_of (by omega)]; omega
      obtain ⟨l1, l2⟩ := hs (o k) hok
      have hlen : s (40 + 4 * o k) = (lnN s (o k) : Int) := by unfold lnN; omega
      have hl20 : 1 ≤ lnN s (o k) ∧ lnN s (o k) ≤ 20 := by omega
      have hnx := nxF_le (D := D) (S := S) hM hs ho.2.1 k (by omega)
      have hT := hM.2
      obtain ⟨w1, w2⟩ := fsW_ok (nx := nxF s S D o k) hM hs hok
      have hf : fF s S D o k = fsW s S D (nxF s S D o k) (o k) := rfl
      have e4 : Qe (w4 ((K : Int) * (L : Int))) (S (D + 1) : Int) := by
        have : (K : Int) * (L : Int) = (S (D + 1) : Int) := by rw [← hK, Int.mul_comm]; rfl
        unfold Qe
        rw [this, w4_of (by omega)]
      have e6 : Qe (w4 ((nxF s S D o k : Int) + (lnN s (o k) : Int))) ((nxF s S D o k + lnN s (o k) : Nat) : Int) := by unfold Qe; rw [w4_of (by omega)]; omega
      have e40 : Qe (w4 (((38 + 4 * o k : Nat) : Int) + 2)) ((40 + 4 * o k : Nat) : Int) := by unfold Qe; rw [w4_of (by omega)]; omega
      have e41 : Qe (w4 (((38 + 4 * o k : Nat) : Int) + 3)) ((41 + 4 * o k : Nat) : Int) := by unfold Qe; rw [w4_of (by omega)]; omega
      have g40 : (0 : Int) ≤ ((40 + 4 * o k : Nat) : Int) ∧ ((40 + 4 * o k : Nat) : Int) < 464 := by omega
      have g41 : (0 : Int) ≤ ((41 + 4 * o k : Nat) : Int) ∧ ((41 + 4 * o k : Nat) : Int) < 464 := by omega
      have gok : (0 : Int) ≤ (o k : Int) ∧ (o k : Int) < 12 := by omega
      have eor : Qe (b4or (dn : Int) (b4shl 1 (o k : Int))) ((dn ||| 2 ^ o k : Nat) : Int) := by
        unfold Qe
        rw [(sh_num (o k) (by omega)).2.1, (bOr hd (sh_num (o k) (by omega)).2.2).1]
      have hdn' : ∀ a, a < N → ((dn ||| 2 ^ o k).testBit a = true ↔ ∃ i, i < k + 1 ∧ o i = a) := fun a ha => by
        rw [Nat.testBit_or, Nat.testBit_two_pow, Bool.or_eq_true_iff, hdn a ha, decide_eq_true_iff]
        constructor
        · rintro (⟨i, i1, i2⟩ | h)
          · exact ⟨i, by omega, i2⟩
          · exact ⟨k, by omega, h⟩
        · rintro ⟨i, i1, i2⟩
          by_cases q : i = k
          · subst q; exact Or.inr i2
          · exact Or.inl ⟨i, by omega, i2⟩
      have hr1 : xup R 339 (o k) (fF s S D o k) 324 = s := by rw [xup_ro (by omega), hr]
      have hO1 : OM (xup R 339 (o k) (fF s S D o k)) S D := fun y hy => by
        obtain ⟨o1, p1, p2, p3⟩ := hO y hy
        refine ⟨o1, p1, ?_, p3⟩
        have hx : f_X10_openingOf 323 (y : Int) (xup R 339 (o k) (fF s S D o k)) = f_X10_openingOf 323 (y : Int) R := by
          unfold f_X10_openingOf
          rw [show 323 + 1 = 324 from rfl, show 323 + 15 = 338 from rfl, xup_ro (show 324 ≠ 339 by omega), xup_ro (show 338 ≠ 339 by omega)]
        rw [hx]; exact p2
      obtain ⟨R', z, b1, b2, b3, b4⟩ := ih c (k + 1) (dn ||| 2 ^ o k) (xup R 339 (o k) (fF s S D o k)) (by omega) (by omega) hr1 (by rw [xup_nn (by omega)]; exact h28) hO1 (bOr hd (sh_num (o k) (by omega)).2.2).2 hdn'
      refine ⟨R', z, fun X => ?_, fun i g1 g2 => ?_, fun q j hq => by rw [b3 q j hq, xup_nn (by omega)], fun j hj => ?_⟩
      · have hsel := sel_lp (R := R) (N := N) (k := k) (dn := dn) (o := o) (p2 := (nxF s S D o k : Int)) (p3 := (k : Int)) hN r37 (by rw [hr]; exact ho) hk hd hdn 6000 N 0 (-1) (by omega) (by omega) (Or.inl ⟨rfl, fun a h => absurd h (Nat.not_lt_zero a)⟩)
        rw [z0] at hsel
        have hwf : f_X10_wholeFrom 323 (nxF s S D o k : Int) (lnN s (o k) : Int) R = some (rmW S (nxF s S D o k) (lnN s (o k)) (D + 1) 0) := wf10 hM.1 hT hO hl20 hnx h28 r11 hK
        -- what follows when the first line is known
        have T : ∀ v : Int, v = fF s S D o k → (if 0 ≤ (o k : Int) ∧ (o k : Int) < 12 then xlet (xup R 339 (o k) v) (fun R32 => if 0 ≤ (o k : Int) ∧ (o k : Int) < 12 then (if 0 ≤ R32 339 (o k) then (if 0 ≤ (o k : Int) ∧ (o k : Int) < 12 then xlet (w4 (R32 339 (o k) + (lnN s (o k) : Int))) (fun x36 => xlet ((k + 1 : Nat) : Int) (fun x37 => lp_X10_layNotes_57 323 n ((dn ||| 2 ^ o k : Nat) : Int) x36 x37 R32 X)) else none) else xlet ((k + 1 : Nat) : Int) (fun x38 => lp_X10_layNotes_57 323 n ((dn ||| 2 ^ o k : Nat) : Int) (nxF s S D o k : Int) x38 R32 X)) else none) else none) = X z (nxF s S D o N : Int) (N : Int) R' := fun v hv => by
          subst hv
          rw [if_pos gok, xlet_eq, if_pos gok, xup_eq]
          have hb := b1 X
          rw [nxF_s] at hb
          by_cases c1 : fF s S D o k < 0
          · rw [if_pos c1] at hb
            rw [if_neg (by omega), xlet_eq]
            exact hb
          · rw [if_neg c1] at hb
            have := w2 (by omega)
            have e9 : Qe (w4 (fF s S D o k + (lnN s (o k) : Int))) (((fF s S D o k).toNat + lnN s (o k) : Nat) : Int) := by
              unfold Qe
              rw [w4_of (by omega)]; omega
            rw [if_pos (by omega), if_pos gok, xlet_eq, xlet_eq, e9.eq]
            exact hb
        rw [lp_X10_layNotes_57, show 323 + 1 = 324 from rfl, r37, if_neg (by omega), hsel, xlet_eq, eor.eq, (nx0 (show o k < 12 by omega)).eq, e40.eq, e41.eq, if_pos g40, tnc, tnc, hr, hlen, xlet_eq, h28, h11, e4.eq, e6.eq, tnc, show 323 + 16 = 339 from rfl]
        by_cases c1 : S (D + 1) < nxF s S D o k + lnN s (o k)
        · rw [if_pos (by omega), if_pos g41]
          by_cases cw : s (41 + 4 * o k) = 1
          · rw [if_pos cw, hwf, Option.bind_some, e5.eq]
            refine T _ ?_
            rw [hf]; unfold fsW; rw [if_pos cw]
          · rw [if_neg cw, e5.eq]
            refine T _ ?_
            rw [hf]; unfold fsW; rw [if_neg cw, if_pos c1]
        · rw [if_neg (by omega), if_pos g41]
          by_cases cw : s (41 + 4 * o k) = 1
          · rw [if_pos cw, hwf, Option.bind_some, e5.eq]
            refine T _ ?_
            rw [hf]; unfold fsW; rw [if_pos cw]
          · rw [if_neg cw, e5.eq]
            refine T _ ?_
            rw [hf]; unfold fsW; rw [if_neg cw, if_neg c1]
      · by_cases hi : i = k
        · subst hi
          rw [b4 (o i) (fun i' g3 g4 he => by have := srt_inj ho g4 hk he; omega), xup_eq]
        · exact b2 i (by omega) g2
      · rw [b4 j (fun i g3 g4 => hj i (by omega) g4), xup_nn (fun h => hj k (Nat.le_refl k) hk h.2.symm)]
