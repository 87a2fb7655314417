/-! Printing: the model; all sides. -/
/-- all sides are printed: how many change, and the row -/
def prA (s0 : Nat → Int) (W : Nat) (t : Nat → Nat) : Nat → Nat → Int → (Nat → Int) → Int × (Nat → Int)
  | _, 0, n, s => (n, s)
  | p, c + 1, n, s => prA s0 W t (p + 1) c (n + chg s (kS W (t (p / 2)) p) (p : Int) (tU s0 (t (p / 2)) p : Int)) (st1 s (kS W (t (p / 2)) p) (p : Int) (tU s0 (t (p / 2)) p : Int))
theorem chg_01 {s : Nat → Int} {k : Nat} {n t : Int} : 0 ≤ chg s k n t ∧ chg s k n t ≤ 1 := by unfold chg; split <;> omega
theorem tU_lt {s : Nat → Int} {n p : Nat} : tU s n p < 2 := Nat.mod_lt _ (by decide)
theorem prA_inv {s0 : Nat → Int} {W : Nat} {t : Nat → Nat} (hk : ∀ p : Nat, p < 32 → kS W (t (p / 2)) p < 32) : ∀ (c p : Nat) (n : Int) (s : Nat → Int), p + c ≤ 32 → (∀ i : Nat, i < 32 → (-1 ≤ s (90 + i) ∧ s (90 + i) ≤ 31) ∧ (s (122 + i) = 0 ∨ s (122 + i) = 1)) → (∀ j : Nat, j < 90 ∨ 154 ≤ j → (prA s0 W t p c n s).2 j = s j) ∧ (∀ i : Nat, i < 32 → (-1 ≤ (prA s0 W t p c n s).2 (90 + i) ∧ (prA s0 W t p c n s).2 (90 + i) ≤ 31) ∧ ((prA s0 W t p c n s).2 (122 + i) = 0 ∨ (prA s0 W t p c n s).2 (122 + i) = 1)) ∧ n ≤ (prA s0 W t p c n s).1 ∧ (prA s0 W t p c n s).1 ≤ n + c := by
  intro c
  induction c with
  | zero => intro p n s _ h; exact ⟨fun _ _ => rfl, h, Int.le_refl _, by show n ≤ n + 0; omega⟩
  | succ c ih =>
    intro p n s hp h
    have hkp := hk p (by omega)
    have ht := tU_lt (s := s0) (n := t (p / 2)) (p := p)
    obtain ⟨a1, a2, a3, a4⟩ := ih (p + 1) (n + chg s (kS W (t (p / 2)) p) (p : Int) (tU s0 (t (p / 2)) p : Int)) (st1 s (kS W (t (p / 2)) p) (p : Int) (tU s0 (t (p / 2)) p : Int)) (by omega) (fun i hi => by
      obtain ⟨e1, e2⟩ := st1_p (s := s) (n := (p : Int)) (t := (tU s0 (t (p / 2)) p : Int)) hkp hi
      rw [e1, e2]
      by_cases hik : i = kS W (t (p / 2)) p
      · rw [if_pos hik, if_pos hik]
        refine ⟨by omega, ?_⟩
        omega
      · rw [if_neg hik, if_neg hik]; exact h i hi)
    have hc := chg_01 (s := s) (k := kS W (t (p / 2)) p) (n := (p : Int)) (t := (tU s0 (t (p / 2)) p : Int))
    refine ⟨fun j hj => ?_, a2, ?_, ?_⟩
    · show (prA s0 W t (p + 1) c _ _).2 j = s j
      rw [a1 j hj, st1_ne (by omega) (by omega)]
    · show n ≤ (prA s0 W t (p + 1) c _ _).1
      omega
    · show (prA s0 W t (p + 1) c _ _).1 ≤ n + (c + 1 : Nat)
      omega
theorem pa9_lp {s0 : Nat → Int} {H W b : Nat} {t : Nat → Nat} (hb : 16 ≤ b) : ∀ (n c p : Nat) (m : Int) (s : Nat → Int) (R : xN), c < n → p + c = 2 * (H * W) → 0 ≤ m → m ≤ (p : Int) → s 7 = s0 7 → PR R s H W → LB R b H W t → ∃ R', (∀ X : Int → Int → xN → Option (Int × xN), lp_X0_printSheet_39 2 b n m (p : Int) R X = X (prA s0 W t p c m s).1 (2 * ((H * W : Nat) : Int)) R') ∧ PR R' (prA s0 W t p c m s).2 H W ∧ ∀ q j : Nat, q ≠ 4 → q ≠ 5 → R' q j = R q j := by
  intro n
  induction n with
  | zero => intro c p m s R h; omega
  | succ n ih =>
    intro c p m s R h1 h2 m0 m1 h7 hP hL
    have hD := hL.1.1
    cases c with
    | zero =>
      refine ⟨R, fun X => ?_, hP, fun _ _ _ _ => rfl⟩
      rw [lp_X0_printSheet_39, lastp hL.1, Option.bind_some, if_pos (by omega), show (p : Int) = 2 * ((H * W : Nat) : Int) by omega]
      rfl
    | succ c =>
      have hp : p < 2 * (H * W) := by omega
      obtain ⟨e1, e2⟩ := kS_pl hP hL hp
      have hn9 : nine (p : Int) = (p : Int) := by unfold nine; rw [if_neg (by omega)]
      have htu : tU s (t (p / 2)) p = tU s0 (t (p / 2)) p := by unfold tU; rw [h7]
      obtain ⟨R1, b1, b2, b3⟩ := stamp9 (n := (p : Int)) (t := (tU s0 (t (p / 2)) p : Int)) hP e2 (by omega)
      rw [hn9] at b1
      have hL1 : LB R1 b H W t := by
        obtain ⟨⟨l1, l2, l3⟩, l4⟩ := hL
        refine ⟨⟨l1, fun i hi => ⟨(l2 i hi).1, (b3 (b + 1) i (by omega) (by omega)).trans (l2 i hi).2⟩, ?_⟩, l4⟩
        unfold f_X3_depth at l3 ⊢
        rw [b3 b 5 (by omega) (by omega)]
        exact l3
      have hc := chg_01 (s := s) (k := kS W (t (p / 2)) p) (n := (p : Int)) (t := (tU s0 (t (p / 2)) p : Int))
      have e5 : Qe (w4 ((p : Int) + 1)) ((p + 1 : Nat) : Int) := by unfold Qe; rw [w4_of (by omega)]; omega
      have e6 : Qe (w4 (m + chg s (kS W (t (p / 2)) p) (p : Int) (tU s0 (t (p / 2)) p : Int))) (m + chg s (kS W (t (p / 2)) p) (p : Int) (tU s0 (t (p / 2)) p : Int)) := by unfold Qe; rw [w4_of (by omega)]
      obtain ⟨R', c1, c2, c3⟩ := ih c (p + 1) (m + chg s (kS W (t (p / 2)) p) (p : Int) (tU s0 (t (p / 2)) p : Int)) (st1 s (kS W (t (p / 2)) p) (p : Int) (tU s0 (t (p / 2)) p : Int)) R1 (by omega) (by omega) (by omega) (by omega) (by rw [st1_ne (by omega) (by omega)]; exact h7) b2 hL1
      refine ⟨R', fun X => ?_, c2, fun q j h4 h5 => by rw [c3 q j h4 h5, b3 q j h4 h5]⟩
      have hturn := turn9 hP.2.2.1 hL.1 hp
      rw [htu] at hturn
      rw [lp_X0_printSheet_39, lastp hL.1, Option.bind_some, if_neg (by omega), pp9 hL.1 hp, Option.bind_some, hturn, Option.bind_some, e1, show 2 + 1 = 3 from rfl, b1, Option.bind_some, xlet_eq, xlet_eq, e6.eq, e5.eq]
      exact c1 X
def spAll (v : Int) : sSp := fun s => match gbk (s 0).toNat (s 1).toNat v with
  | none => (-1, s)
  | some g => if s 2 = 0 ∧ s 8 = 0 ∧ s 9 = 0 then ((prA s (s 1).toNat g.2.2.2 0 (2 * ((s 0).toNat * (s 1).toNat)) 0 s).1, u1 (prA s (s 1).toNat g.2.2.2 0 (2 * ((s 0).toNat * (s 1).toNat)) 0 s).2 87 (w4 (s 87 + (prA s (s 1).toNat g.2.2.2 0 (2 * ((s 0).toNat * (s 1).toNat)) 0 s).1))) else (-2, s)
theorem spAll_eq {s : Nat → Int} {H W : Nat} {v : Int} (h0 : s 0 = (H : Int)) (h1 : s 1 = (W : Int)) : spAll v s = match gbk H W v with
  | none => (-1, s)
  | some g => if s 2 = 0 ∧ s 8 = 0 ∧ s 9 = 0 then ((prA s W g.2.2.2 0 (2 * (H * W)) 0 s).1, u1 (prA s W g.2.2.2 0 (2 * (H * W)) 0 s).2 87 (w4 (s 87 + (prA s W g.2.2.2 0 (2 * (H * W)) 0 s).1))) else (-2, s) := by
  unfold spAll
  rw [h0, h1, Int.toNat_natCast, Int.toNat_natCast]
/-- an error behind a trial -/
theorem dErr2 {f : xN → Option (Int × xN)} {sp : sSp} {R R' : xN} {s : Nat → Int} {H W : Nat} {g : gG} {v : Int} (w : SW s H W g) (r : DR R 2 s H W g) (k : kTri R R') (hs : sp s = (v, s)) (hf : f R = some (v, R')) : (∀ j : Nat, 154 ≤ j → (sp s).2 j = s j) ∧ (err (sp s).1 → (sp s).2 = s) ∧ ∃ R', f R = some ((sp s).1, R') ∧ (∀ q j : Nat, ¬ (2 ≤ q ∧ q < 16) → ¬ (311 ≤ q ∧ q < 314) → R' q j = R q j) ∧ SD R' 2 (sp s).2 := by
  rw [hs]
  exact ⟨fun _ _ => rfl, fun _ => rfl, R', hf, fun q j _ h => k q j h, H, W, g, w, r.fr w (fun q j _ _ => k q j (by omega))⟩
theorem kS_lt2 {H W p : Nat} {g : gG} (hw : GWg H W g) (hp : p < 2 * (H * W)) : kS W (g.2.2.2 (p / 2)) p < 32 := by
  obtain ⟨t1, t2, t3⟩ := hw.2.2.2.2.2.2 (p / 2) (by omega)
  have h1 := cel_lt hw.1 hw.2.1 t2 t3
  have h2 : sdN (g.2.2.2 (p / 2)) p < 2 := sdN_lt
  have h3 := area_le hw.1 hw.2.1
  unfold kS
  omega

