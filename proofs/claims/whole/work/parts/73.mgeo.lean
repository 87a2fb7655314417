/-! Geometry: the model's fold. -/
/-- what a layer's four numbers become: of the rows 332 to 335 -/
def hv (R : xN) (e fr tn : Nat) : Int := if e = 0 then R 332 fr else if e = 1 then (if tn = 0 then R 333 fr else w4 (1 - R 333 fr)) else if e = 2 then (if tn = 1 then w4 (1 - R 334 fr) else R 334 fr) else (if tn = 2 then w4 (1 - R 335 fr) else R 335 fr)
theorem take_eq {to fr tn : Nat} {R : xN} (h1 : to < 16) (h2 : fr < 16) : ∃ R', f_X10_takeLayer 323 (to : Int) (fr : Int) (tn : Int) R = some R' ∧ (∀ e : Nat, e < 4 → R' (328 + e) to = hv R e fr tn) ∧ ∀ q j : Nat, ¬ (328 ≤ q ∧ q < 332 ∧ j = to) → R' q j = R q j := by
  refine ⟨xup (xup (xup (xup R 328 to (hv R 0 fr tn)) 329 to (hv R 1 fr tn)) 330 to (hv R 2 fr tn)) 331 to (hv R 3 fr tn), ?_, fun e he => ?_, fun q j hq => ?_⟩
  · unfold f_X10_takeLayer
    have c1 : (0 : Int) ≤ (fr : Int) ∧ (fr : Int) < 16 := by omega
    have c2 : (0 : Int) ≤ (to : Int) ∧ (to : Int) < 16 := by omega
    simp only [xlet, if_pos c1, if_pos c2, Int.toNat_natCast, xup_get, Nat.reduceAdd, Nat.reduceEqDiff, if_false]
    by_cases t0 : tn = 0
    · subst t0; simp [hv]
    · by_cases t1 : tn = 1
      · subst t1; simp [hv]
      · by_cases t2 : tn = 2
        · subst t2; simp [hv]
        · have z0 : ¬ ((tn : Int) = 0) := by omega
          have z1 : ¬ ((tn : Int) = 1) := by omega
          have z2 : ¬ ((tn : Int) = 2) := by omega
          simp [hv, z0, z1, z2, t0, t1, t2]
  · have : e = 0 ∨ e = 1 ∨ e = 2 ∨ e = 3 := by omega
    rcases this with rfl | rfl | rfl | rfl <;> simp [xup_get]
  · simp only [xup_get]
    have : ¬ (q = 331 ∧ j = to) ∧ ¬ (q = 330 ∧ j = to) ∧ ¬ (q = 329 ∧ j = to) ∧ ¬ (q = 328 ∧ j = to) := by omega
    obtain ⟨k1, k2, k3, k4⟩ := this
    by_cases a1 : q = 331
    · rw [if_pos a1, if_neg (fun h => k1 ⟨a1, h⟩), if_neg (by omega), if_neg (by omega), if_neg (by omega)]
    · rw [if_neg a1]
      by_cases a2 : q = 330
      · rw [if_pos a2, if_neg (fun h => k2 ⟨a2, h⟩), if_neg (by omega), if_neg (by omega)]
      · rw [if_neg a2]
        by_cases a3 : q = 329
        · rw [if_pos a3, if_neg (fun h => k3 ⟨a3, h⟩), if_neg (by omega)]
        · rw [if_neg a3]
          by_cases a4 : q = 328
          · rw [if_pos a4, if_neg (fun h => k4 ⟨a4, h⟩)]
          · rw [if_neg a4]
/-- the layers that were -/
theorem had_lp {p1 : Int} : ∀ (n i : Nat) (R : xN), i ≤ 16 → 16 - i < n → ∃ R', (∀ X : Int → xN → Option xN, lp_X10_foldBy_2 323 p1 n (i : Int) R X = X 16 R') ∧ (∀ e k : Nat, e < 4 → i ≤ k → k < 16 → R' (332 + e) k = R (328 + e) k) ∧ ∀ q j : Nat, ¬ (332 ≤ q ∧ q < 336 ∧ i ≤ j) → R' q j = R q j := by
  intro n
  induction n with
  | zero => intro i R hi1 hi2; omega
  | succ n ih =>
    intro i R hi1 hi2
    by_cases hie : (i : Int) = 16
    · refine ⟨R, fun X => ?_, fun e k _ _ _ => by omega, fun q j _ => rfl⟩
      rw [lp_X10_foldBy_2, if_pos (by omega), hie]
    have c1 : (0 : Int) ≤ (i : Int) ∧ (i : Int) < 16 := by omega
    have e5 : Qe (w4 ((i : Int) + 1)) ((i + 1 : Nat) : Int) := by unfold Qe; rw [w4_of (by omega)]; omega
    have key : ∀ R1 : xN, R1 = xup (xup (xup (xup R 332 i (R 328 i)) 333 i (R 329 i)) 334 i (R 330 i)) 335 i (R 331 i) → ∃ R', (∀ X : Int → xN → Option xN, lp_X10_foldBy_2 323 p1 n ((i + 1 : Nat) : Int) R1 X = X 16 R') ∧ (∀ e k : Nat, e < 4 → i ≤ k → k < 16 → R' (332 + e) k = R (328 + e) k) ∧ ∀ q j : Nat, ¬ (332 ≤ q ∧ q < 336 ∧ i ≤ j) → R' q j = R q j := by
      intro R1 hR1
      have o1 : ∀ q j : Nat, ¬ (332 ≤ q ∧ q < 336 ∧ j = i) → R1 q j = R q j := fun q j hq => by
        rw [hR1]
        simp only [xup_get]
        by_cases hj : j = i
        · rw [if_neg (by omega), if_neg (by omega), if_neg (by omega), if_neg (by omega)]
        · simp [hj]
      obtain ⟨R', b1, b2, b3⟩ := ih (i + 1) R1 (by omega) (by omega)
      refine ⟨R', b1, fun e k he hk hk2 => ?_, fun q j hq => by rw [b3 q j (by omega), o1 q j (by omega)]⟩
      by_cases hki : k = i
      · subst hki
        rw [b3 (332 + e) k (by omega), hR1]
        have : e = 0 ∨ e = 1 ∨ e = 2 ∨ e = 3 := by omega
        rcases this with rfl | rfl | rfl | rfl <;> simp [xup_get]
      · rw [b2 e k he (by omega) hk2, o1 _ _ (by omega)]
    obtain ⟨R', k1, k2, k3⟩ := key _ rfl
    refine ⟨R', fun X => ?_, k2, k3⟩
    rw [lp_X10_foldBy_2, if_neg (by omega)]
    simp only [xlet, if_pos c1, Int.toNat_natCast, xup_get, Nat.reduceAdd, Nat.reduceEqDiff, if_false, e5.eq]
    exact k1 X
theorem hv_of {R R1 : xN} (h : ∀ q j : Nat, 332 ≤ q → q < 336 → R1 q j = R q j) {e fr tn : Nat} : hv R1 e fr tn = hv R e fr tn := by
  unfold hv
  rw [h 332 _ (by omega) (by omega), h 333 _ (by omega) (by omega), h 334 _ (by omega) (by omega), h 335 _ (by omega) (by omega)]
theorem in234_lp {p1 p2 p3 p4 p11 p12 : Int} {B M S d tn : Nat} (htn : Qe (if 3 ≤ p1 then (2 : Int) else 1) (tn : Int)) (hB : Qe (w4 ((w4 (2 * (d : Int))) * p4)) (B : Int)) (hM : Qe (w4 ((w4 (p12 + (d : Int))) - 1)) (M : Int)) (hS : Qe p11 (S : Int)) (h1 : B + 2 * d ≤ 16) (h2 : M < 16) (h3 : d ≤ M + 1) (h4 : S + d ≤ 16) :
    ∀ (n i : Nat) (R : xN), i ≤ d → d - i < n → R 323 9 = (d : Int) → ∃ R', (∀ X : Int → xN → Option xN, lp_X10_foldBy_234 323 p1 p2 p3 p4 p11 p12 n (i : Int) R X = X (d : Int) R') ∧ (∀ e k : Nat, e < 4 → i ≤ k → k < d → R' (328 + e) (B + k) = hv R e (M - k) tn ∧ R' (328 + e) (B + d + k) = hv R e (S + k) 0) ∧ ∀ q j : Nat, ¬ (328 ≤ q ∧ q < 332 ∧ B + i ≤ j ∧ j < B + 2 * d ∧ ¬ (B + d ≤ j ∧ j < B + d + i)) → R' q j = R q j := by
  intro n
  induction n with
  | zero => intro i R hi1 hi2 _; omega
  | succ n ih =>
    intro i R hi1 hi2 h9
    by_cases hie : (i : Int) = (d : Int)
    · refine ⟨R, fun X => ?_, fun e k _ _ _ => by omega, fun q j _ => rfl⟩
      rw [lp_X10_foldBy_234, if_pos (by omega), hie]
    have e1 : Qe (w4 ((B : Int) + (i : Int))) ((B + i : Nat) : Int) := by unfold Qe; rw [w4_of (by omega)]; omega
    have e2 : Qe (w4 (w4 ((B : Int) + (d : Int)) + (i : Int))) ((B + d + i : Nat) : Int) := by unfold Qe; rw [w4_of (x := (B : Int) + (d : Int)) (by omega), w4_of (by omega)]; omega
    have e3 : Qe (w4 ((M : Int) - (i : Int))) ((M - i : Nat) : Int) := by unfold Qe; rw [w4_of (by omega)]; omega
    have e4 : Qe (w4 ((S : Int) + (i : Int))) ((S + i : Nat) : Int) := by unfold Qe; rw [w4_of (by omega)]; omega
    have e5 : Qe (w4 ((i : Int) + 1)) ((i + 1 : Nat) : Int) := by unfold Qe; rw [w4_of (by omega)]; omega
    obtain ⟨R1, a1, a2, a3⟩ := take_eq (to := B + i) (fr := M - i) (tn := tn) (R := R) (by omega) (by omega)
    obtain ⟨R2, b1, b2, b3⟩ := take_eq (to := B + d + i) (fr := S + i) (tn := 0) (R := R1) (by omega) (by omega)
    have h91 : R1 323 9 = (d : Int) := by rw [a3 323 9 (by omega), h9]
    have h92 : R2 323 9 = (d : Int) := by rw [b3 323 9 (by omega), h91]
    obtain ⟨R', c1, c2, c3⟩ := ih (i + 1) R2 (by omega) (by omega) h92
    have hv1 : ∀ e fr tn : Nat, hv R1 e fr tn = hv R e fr tn := fun e fr tn => hv_of (fun q j q1 q2 => a3 q j (by omega))
    have hv2 : ∀ e fr tn : Nat, hv R2 e fr tn = hv R e fr tn := fun e fr tn => by rw [hv_of (R := R1) (fun q j q1 q2 => b3 q j (by omega)), hv1]
    refine ⟨R', fun X => ?_, fun e k he hk1 hk2 => ?_, fun q j hq => ?_⟩
    · rw [lp_X10_foldBy_234, h9, if_neg (by omega)]
      simp only [xlet]
      rw [htn.eq, hB.eq, hM.eq, hS.eq, e1.eq, e3.eq, a1, Option.bind_some, h91, hB.eq, e2.eq, e4.eq]
      have b1' : f_X10_takeLayer 323 ((B + d + i : Nat) : Int) ((S + i : Nat) : Int) 0 R1 = some R2 := b1
      rw [b1', Option.bind_some, e5.eq]
      have c1' := c1 X
      rw [hS.eq] at c1'
      exact c1'
    · by_cases hk : k = i
      · subst hk
        rw [c3 _ _ (by omega), c3 _ _ (by omega), b3 (328 + e) (B + k) (by omega), a2 e he, b2 e he, hv1]
        exact ⟨rfl, rfl⟩
      · have := c2 e k he (by omega) hk2
        rw [hv2, hv2] at this
        exact this
    · rw [c3 q j (by omega), b3 q j (by omega), a3 q j (by omega)]
def gr (f r : Nat) : Nat := if f ≤ 2 then r else r / 2
def gc (f c : Nat) : Nat := if f ≤ 2 then c / 2 else c
def gcan (f r c : Nat) : Bool := if f ≤ 2 then decide (1 < c) else decide (1 < r)
theorem mf_facts : ∀ f ∈ ([1, 2, 3, 4] : List Nat), ∀ r ∈ ([1, 2, 4] : List Nat), ∀ c ∈ ([1, 2, 4] : List Nat), gcan f r c = true → (gc f c : Nat) ≠ 0 ∧ gr f r * gc f c * 2 = r * c ∧ (if 3 ≤ (f : Int) then w4 (Int.tdiv (r : Int) 2) else (r : Int)) = (gr f r : Int) ∧ (if 3 ≤ (f : Int) then (c : Int) else w4 (Int.tdiv (c : Int) 2)) = (gc f c : Int) ∧ w4 ((gr f r : Int) * (gc f c : Int)) = ((gr f r * gc f c : Nat) : Int) ∧
    ∀ p : Nat, p < 8 → p < gr f r * gc f c → 
    w4 (w4 ((c : Int) * (if (f : Int) = 3 then w4 (w4 (Int.tdiv (p : Int) (gc f c : Int)) + (gr f r : Int)) else w4 (Int.tdiv (p : Int) (gc f c : Int)))) + (if (f : Int) = 1 then w4 (Int.tmod (p : Int) (gc f c : Int) + (gc f c : Int)) else Int.tmod (p : Int) (gc f c : Int))) = (gst f r c p : Int) ∧
    w4 (w4 ((c : Int) * (if 3 ≤ (f : Int) then w4 (w4 ((r : Int) - 1) - (if (f : Int) = 3 then w4 (w4 (Int.tdiv (p : Int) (gc f c : Int)) + (gr f r : Int)) else w4 (Int.tdiv (p : Int) (gc f c : Int)))) else w4 (Int.tdiv (p : Int) (gc f c : Int)))) + (if 3 ≤ (f : Int) then Int.tmod (p : Int) (gc f c : Int) else w4 (w4 ((c : Int) - 1) - (if (f : Int) = 1 then w4 (Int.tmod (p : Int) (gc f c : Int) + (gc f c : Int)) else Int.tmod (p : Int) (gc f c : Int))))) = (gmv f r c p : Int) ∧ gmv f r c p < r * c ∧ gst f r c p < r * c := by decide +kernel
theorem mf_factsq : ∀ f ∈ ([1, 2, 3, 4] : List Nat), ∀ r ∈ ([1, 2, 4] : List Nat), ∀ c ∈ ([1, 2, 4] : List Nat), gcan f r c = true → (gc f c : Nat) ≠ 0 ∧ gr f r * gc f c * 2 = r * c ∧ Qe (if 3 ≤ (f : Int) then w4 (Int.tdiv (r : Int) 2) else (r : Int)) (gr f r : Int) ∧ Qe (if 3 ≤ (f : Int) then (c : Int) else w4 (Int.tdiv (c : Int) 2)) (gc f c : Int) ∧ Qe (w4 ((gr f r : Int) * (gc f c : Int))) ((gr f r * gc f c : Nat) : Int) ∧
    ∀ p : Nat, p < 8 → p < gr f r * gc f c → 
    Qe (w4 (w4 ((c : Int) * (if (f : Int) = 3 then w4 (w4 (Int.tdiv (p : Int) (gc f c : Int)) + (gr f r : Int)) else w4 (Int.tdiv (p : Int) (gc f c : Int)))) + (if (f : Int) = 1 then w4 (Int.tmod (p : Int) (gc f c : Int) + (gc f c : Int)) else Int.tmod (p : Int) (gc f c : Int)))) (gst f r c p : Int) ∧
    Qe (w4 (w4 ((c : Int) * (if 3 ≤ (f : Int) then w4 (w4 ((r : Int) - 1) - (if (f : Int) = 3 then w4 (w4 (Int.tdiv (p : Int) (gc f c : Int)) + (gr f r : Int)) else w4 (Int.tdiv (p : Int) (gc f c : Int)))) else w4 (Int.tdiv (p : Int) (gc f c : Int)))) + (if 3 ≤ (f : Int) then Int.tmod (p : Int) (gc f c : Int) else w4 (w4 ((c : Int) - 1) - (if (f : Int) = 1 then w4 (Int.tmod (p : Int) (gc f c : Int) + (gc f c : Int)) else Int.tmod (p : Int) (gc f c : Int)))))) (gmv f r c p : Int) ∧ gmv f r c p < r * c ∧ gst f r c p < r * c := mf_facts
theorem in_num {np d p mv st rc : Nat} (hd : d = 1 ∨ d = 2 ∨ d = 4 ∨ d = 8) (hN : np * 2 = rc) (hrc : rc * d ≤ 16) (hp : p < np) (hm : mv < rc) (hs : st < rc) :
    Qe (w4 ((w4 (2 * (d : Int))) * (p : Int))) ((2 * d * p : Nat) : Int) ∧ Qe (w4 ((w4 (w4 ((d : Int) * (mv : Int)) + (d : Int))) - 1)) (((mv + 1) * d - 1 : Nat) : Int) ∧ Qe (w4 ((d : Int) * (st : Int))) ((st * d : Nat) : Int) ∧ 2 * d * p + 2 * d ≤ 16 ∧ (mv + 1) * d - 1 < 16 ∧ d ≤ (mv + 1) * d - 1 + 1 ∧ st * d + d ≤ 16 ∧ 2 * d * p + 2 * d ≤ 2 * d * np := by
  rcases hd with rfl | rfl | rfl | rfl
  all_goals
    refine ⟨?_, ?_, ?_, ?_, ?_, ?_, ?_, ?_⟩
    · unfold Qe; rw [w4_of (x := 2 * _) (by omega), w4_of (by omega)]; omega
    · unfold Qe; rw [w4_of (x := _ * (mv : Int)) (by omega), w4_of (x := _ + _) (by omega), w4_of (by omega)]; omega
    · unfold Qe; rw [w4_of (by omega)]; omega
    all_goals omega
set_option maxRecDepth 100000 in
theorem in103_lp {f r c d tn : Nat} (hr : r ∈ [1, 2, 4]) (hc : c ∈ [1, 2, 4]) (hf : f ∈ [1, 2, 3, 4]) (hg : gcan f r c = true) (hd : d = 1 ∨ d = 2 ∨ d = 4 ∨ d = 8) (hN2 : r * c * d ≤ 16) (htn : Qe (if 3 ≤ (f : Int) then (2 : Int) else 1) (tn : Int)) :
    ∀ (n p : Nat) (R : xN), p ≤ gr f r * gc f c → gr f r * gc f c - p < n → R 323 7 = (r : Int) → R 323 8 = (c : Int) → R 323 9 = (d : Int) → ∃ R', (∀ X : Int → xN → Option xN, lp_X10_foldBy_103 323 (f : Int) (gr f r : Int) (gc f c : Int) n (p : Int) R X = X ((gr f r * gc f c : Nat) : Int) R') ∧ (∀ e p' k' : Nat, e < 4 → p ≤ p' → p' < gr f r * gc f c → k' < d → R' (328 + e) (2 * d * p' + k') = hv R e ((gmv f r c p' + 1) * d - 1 - k') tn ∧ R' (328 + e) (2 * d * p' + d + k') = hv R e (gst f r c p' * d + k') 0) ∧ ∀ q j : Nat, ¬ (328 ≤ q ∧ q < 332 ∧ 2 * d * p ≤ j) → R' q j = R q j := by
  obtain ⟨g0, gN, -, -, gnp, gf⟩ := mf_factsq f hf r hr c hc hg
  intro n
  induction n with
  | zero => intro p R hi1 hi2 _ _ _; omega
  | succ n ih =>
    intro p R hi1 hi2 h7 h8 h9
    by_cases hie : (p : Int) = ((gr f r * gc f c : Nat) : Int)
    · refine ⟨R, fun X => ?_, fun e p' k' _ _ _ => by omega, fun q j _ => rfl⟩
      rw [lp_X10_foldBy_103, gnp.eq, if_pos (by omega), hie]
    have hp8 : p < 8 := by rcases hd with rfl | rfl | rfl | rfl <;> omega
    obtain ⟨hs, hm, hm1, hs1⟩ := gf p hp8 (by omega)
    obtain ⟨n1, n2, n3, n4, n5, n6, n7, n8⟩ := in_num hd gN hN2 (show p < gr f r * gc f c by omega) hm1 hs1
    obtain ⟨R1, a1, a2, a3⟩ := in234_lp (p1 := (f : Int)) (p2 := (gr f r : Int)) (p3 := (gc f c : Int)) htn n1 n2 n3 n4 n5 n6 n7 6000 0 R (by omega) (by omega) h9
    have hpp : ∀ q j : Nat, ¬ (328 ≤ q ∧ q < 332) → R1 q j = R q j := fun q j hq => a3 q j (by omega)
    obtain ⟨R', b1, b2, b3⟩ := ih (p + 1) R1 (by omega) (by omega) (by rw [hpp 323 7 (by omega)]; exact h7) (by rw [hpp 323 8 (by omega)]; exact h8) (by rw [hpp 323 9 (by omega)]; exact h9)
    have e5 : Qe (w4 ((p : Int) + 1)) ((p + 1 : Nat) : Int) := by unfold Qe; rw [w4_of (by omega)]; omega
    refine ⟨R', fun X => ?_, fun e p' k' he h1 h2 hk' => ?_, fun q j hq => ?_⟩
    · rw [lp_X10_foldBy_103, gnp.eq, if_neg (by omega), if_pos (by omega)]
      simp only [xlet]
      rw [if_pos (by omega), h7, h8, h9, hs.eq, hm.eq, e5.eq]
      rw [show ((0 : Nat) : Int) = 0 from rfl] at a1
      rw [a1]
      exact b1 X
    · by_cases hpe : p' = p
      · subst hpe
        have c1 := b3 (328 + e) (2 * d * p' + k') (by rcases hd with rfl | rfl | rfl | rfl <;> omega)
        have c2 := b3 (328 + e) (2 * d * p' + d + k') (by rcases hd with rfl | rfl | rfl | rfl <;> omega)
        rw [c1, c2]
        exact a2 e k' he (by omega) hk'
      · have := b2 e p' k' he (by omega) h2 hk'
        rw [hv_of (R := R) (fun q j q1 q2 => hpp q j (by omega)), hv_of (R := R) (fun q j q1 q2 => hpp q j (by omega))] at this
        exact this
    · rw [b3 q j (by rcases hd with rfl | rfl | rfl | rfl <;> omega), a3 q j (by rcases hd with rfl | rfl | rfl | rfl <;> omega)]
