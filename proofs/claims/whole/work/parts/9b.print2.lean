/-! Printing: the model; all sides. -/
set_option maxHeartbeats 1000000 in
theorem w_print {a b c n t : Int} : wSpec (f_X10_print 323 a b c n t) (spPrint a b c n t) := by
  intro R H W g w
  obtain ⟨k1, k2, k3, k4, k5, k6, k7, k8, k9, k10, k11, k12, k13, k14, k15, k16, k17⟩ := id w
  have hH4 : H ≤ 4 := by rcases k1 with rfl | rfl | rfl <;> omega
  have hW4 : W ≤ 4 := by rcases k2 with rfl | rfl | rfl <;> omega
  have e1 : Qe (w4 ((H : Int) - 1)) ((H : Int) - 1) := by unfold Qe; rw [w4_of (by omega)]
  have e2 : Qe (w4 ((W : Int) - 1)) ((W : Int) - 1) := by unfold Qe; rw [w4_of (by omega)]
  have hE : ∀ v : Int, err v → (spPrint a b c n t (R 324) = (v, R 324)) → f_X10_print 323 a b c n t R = some (v, R) → mRes R (f_X10_print 323 a b c n t R) (spPrint a b c n t (R 324)).1 (spPrint a b c n t (R 324)).2 := fun v h0 h1 h2 => wErr h1 h0 h2 kLay.refl
  have hO : ∀ (v : Int) (s' : Nat → Int), spPrint a b c n t (R 324) = (v, s') → ¬ err v → (∀ Rb, f_X10_act 323 R = some Rb → Rb 324 = R 324 → (∀ q j : Nat, q ≠ 325 → ¬ (q = 323 ∧ j = 3) → Rb q j = R q j) → ∃ R', f_X10_print 323 a b c n t R = some (v, R') ∧ R' 324 = s' ∧ ∀ q j : Nat, q ≠ 324 → R' q j = Rb q j) → mRes R (f_X10_print 323 a b c n t R) (spPrint a b c n t (R 324)).1 (spPrint a b c n t (R 324)).2 := fun v s' h1 h2 h3 => wOk h1 h2 kLay.refl h3
  unfold f_X10_print f_X10_isCell at hE hO ⊢
  unfold spPrint at hE hO ⊢
  rw [show 323 + 1 = 324 from rfl, k3, k4, e1.eq, e2.eq, in10, Option.bind_some] at hE hO ⊢
  by_cases ha : 0 ≤ a ∧ a ≤ (H : Int) - 1
  · rw [if_pos (decide_eq_true ha), in10, Option.bind_some, if_pos ha] at hE hO ⊢
    by_cases hb : 0 ≤ b ∧ b ≤ (W : Int) - 1
    · rw [if_pos (decide_eq_true hb), Option.bind_some, if_pos rfl, in10, Option.bind_some, if_pos hb] at hE hO ⊢
      by_cases hc : 0 ≤ c ∧ c ≤ 1
      · rw [if_pos (decide_eq_true hc), in10, Option.bind_some, if_pos hc] at hE hO ⊢
        by_cases hn : -1 ≤ n ∧ n ≤ 31
        · rw [if_pos (decide_eq_true hn), in10, Option.bind_some, if_pos hn] at hE hO ⊢
          by_cases ht : 0 ≤ t ∧ t ≤ 1
          · rw [if_pos (decide_eq_true ht), if_pos ht] at hE hO ⊢
            by_cases hf : R 324 2 = 0 ∧ R 324 8 = 0 ∧ R 324 9 = 0
            · clear hE
              obtain ⟨a', rfl⟩ := Int.eq_ofNat_of_zero_le ha.1
              obtain ⟨b', rfl⟩ := Int.eq_ofNat_of_zero_le hb.1
              obtain ⟨c', rfl⟩ := Int.eq_ofNat_of_zero_le hc.1
              obtain ⟨-, s2⟩ := sd_num (r := a') (c := b') (b := c') k1 k2 (by omega) (by omega) (by omega)
              obtain ⟨p1, p2⟩ := pl_rc (r := a') (c := b') (b := c') k1 k2 (by omega) (by omega) (by omega)
              have hk0 : prK (R 324) ((a' : Nat) : Int) ((b' : Nat) : Int) ((c' : Nat) : Int) = 2 * (W * a' + b') + c' := prK_eq k4
              rw [if_pos hf, hk0] at hO ⊢
              generalize hk : 2 * (W * a' + b') + c' = k at *
              have hA := area_le k1 k2
              have hk32 : k < 32 := by omega
              refine hO _ _ rfl nnine (fun Rb a1 a2 a3 => ?_)
              obtain ⟨R', b1, b2, b3⟩ := on10 (R := Rb) (k := k) (n := n) (t := t) hk32
              rw [a2] at b1 b2
              have e3 : Qe (w4 (90 + (k : Int))) ((90 + k : Nat) : Int) := by unfold Qe; rw [w4_of (by omega)]; omega
              refine ⟨R', ?_, b2, fun q j hq => b3 q j hq⟩
              rw [if_neg (show ¬ 0 < R 324 2 by omega), ish10, Option.bind_some, decide_eq_true hf.2, if_neg (show ¬ (!true) = true by decide), a1, Option.bind_some, a2, xlet_eq, k4, s2.eq, e3.eq, if_pos (by omega), tnc, xlet_eq, b1, Option.bind_some, xlet_eq]
              unfold nine
              by_cases h0 : 0 ≤ R 324 (90 + k)
              · rw [if_pos h0, if_neg (show ¬ R 324 (90 + k) < 0 by omega)]
              · rw [if_neg h0, if_pos (show R 324 (90 + k) < 0 by omega)]
            · rw [if_neg hf] at hE ⊢
              refine hE (-2) err2 rfl ?_
              by_cases h2 : 0 < R 324 2
              · rw [if_pos h2]
              · rw [if_neg h2, ish10, Option.bind_some, decide_eq_false (fun h => hf ⟨by omega, h.1, h.2⟩), if_pos (show (!false) = true from rfl)]
          · rw [decide_eq_false ht, if_neg Bool.false_ne_true, if_neg ht] at hE ⊢
            exact hE (-1) err1 rfl rfl
        · rw [decide_eq_false hn, if_neg Bool.false_ne_true, if_neg hn] at hE ⊢
          exact hE (-1) err1 rfl rfl
      · rw [decide_eq_false hc, if_neg Bool.false_ne_true, if_neg hc] at hE ⊢
        exact hE (-1) err1 rfl rfl
    · rw [decide_eq_false hb, if_neg Bool.false_ne_true, Option.bind_some, if_neg Bool.false_ne_true, if_neg hb] at hE ⊢
      exact hE (-1) err1 rfl rfl
  · rw [decide_eq_false ha, if_neg Bool.false_ne_true, Option.bind_some, if_neg Bool.false_ne_true, if_neg ha] at hE ⊢
    exact hE (-1) err1 rfl rfl
theorem o_print {a b c n t : Int} : opM Inv (f_X9_print 0 a b c n t) (f_X10_print 323 a b c n t) := desk_row d_print w_print (fun _ => rfl)
/-- all sides are printed: how many change, and the row -/
def prA (s0 : Nat → Int) (W : Nat) (t : Nat → Nat) : Nat → Nat → Int → (Nat → Int) → Int × (Nat → Int)
  | _, 0, n, s => (n, s)
  | p, c + 1, n, s => prA s0 W t (p + 1) c (n + chg s (kS W (t (p / 2)) p) (p : Int) (tU s0 (t (p / 2)) p : Int)) (st1 s (kS W (t (p / 2)) p) (p : Int) (tU s0 (t (p / 2)) p : Int))
theorem chg_01 {s : Nat → Int} {k : Nat} {n t : Int} : 0 ≤ chg s k n t ∧ chg s k n t ≤ 1 := by unfold chg; split <;> omega
theorem tU_lt {s : Nat → Int} {n p : Nat} : tU s n p < 2 := Nat.mod_lt _ (by decide)
theorem prA_inv {s0 : Nat → Int} {W : Nat} {t : Nat → Nat} (hk : ∀ p : Nat, p < 32 → kS W (t (p / 2)) p < 32) : ∀ (c p : Nat) (n : Int) (s : Nat → Int), p + c ≤ 32 → (∀ i : Nat, i < 32 → (-1 ≤ s (90 + i) ∧ s (90 + i) ≤ 31) ∧ (s (122 + i) = 0 ∨ s (122 + i) = 1)) → (∀ j : Nat, j < 90 ∨ 154 ≤ j → (prA s0 W t p c n s).2 j = s j) ∧ (∀ i : Nat, i < 32 → (-1 ≤ (prA s0 W t p c n s).2 (90 + i) ∧ (prA s0 W t p c n s).2 (90 + i) ≤ 31) ∧ ((prA s0 W t p c n s).2 (122 + i) = 0 ∨ (prA s0 W t p c n s).2 (122 + i) = 1)) ∧ n ≤ (prA s0 W t p c n s).1 ∧ (prA s0 W t p c n s).1 ≤ n + c := by
  intro c
  induction c with
  | zero => intro p n s _ h; exact ⟨fun _ _ => rfl, h, Int.le_refl _, by show n ≤ n + 0; omega⟩
  | succ c ih =>
    intro p n s hp h
    have hkp := hk p (by omega)
    have ht := tU_lt (s := s0) (n := t (p / 2)) (p := p)
    obtain ⟨a1, a2, a3, a4⟩ := ih (p + 1) (n + chg s (kS W (t (p / 2)) p) (p : Int) (tU s0 (t (p / 2)) p : Int)) (st1 s (kS W (t (p / 2)) p) (p : Int) (tU s0 (t (p / 2)) p : Int)) (by omega) (fun i hi => by
      obtain ⟨e1, e2⟩ := st1_p (s := s) (n := (p : Int)) (t := (tU s0 (t (p / 2)) p : Int)) hkp hi
      rw [e1, e2]
      by_cases hik : i = kS W (t (p / 2)) p
      · rw [if_pos hik, if_pos hik]
        refine ⟨by omega, ?_⟩
        omega
      · rw [if_neg hik, if_neg hik]; exact h i hi)
    have hc := chg_01 (s := s) (k := kS W (t (p / 2)) p) (n := (p : Int)) (t := (tU s0 (t (p / 2)) p : Int))
    refine ⟨fun j hj => ?_, a2, ?_, ?_⟩
    · show (prA s0 W t (p + 1) c _ _).2 j = s j
      rw [a1 j hj, st1_ne (by omega) (by omega)]
    · show n ≤ (prA s0 W t (p + 1) c _ _).1
      omega
    · show (prA s0 W t (p + 1) c _ _).1 ≤ n + (c + 1 : Nat)
      omega
theorem pa9_lp {s0 : Nat → Int} {H W b : Nat} {t : Nat → Nat} (hb : 16 ≤ b) : ∀ (n c p : Nat) (m : Int) (s : Nat → Int) (R : xN), c < n → p + c = 2 * (H * W) → 0 ≤ m → m ≤ (p : Int) → s 7 = s0 7 → PR R s H W → LB R b H W t → ∃ R', (∀ X : Int → Int → xN → Option (Int × xN), lp_X0_printSheet_39 2 b n m (p : Int) R X = X (prA s0 W t p c m s).1 (2 * ((H * W : Nat) : Int)) R') ∧ PR R' (prA s0 W t p c m s).2 H W ∧ ∀ q j : Nat, q ≠ 4 → q ≠ 5 → R' q j = R q j := by
  intro n
  induction n with
  | zero => intro c p m s R h; omega
  | succ n ih =>
    intro c p m s R h1 h2 m0 m1 h7 hP hL
    have hD := hL.1.1
    cases c with
    | zero =>
      refine ⟨R, fun X => ?_, hP, fun _ _ _ _ => rfl⟩
      rw [lp_X0_printSheet_39, lastp hL.1, Option.bind_some, if_pos (by omega), show (p : Int) = 2 * ((H * W : Nat) : Int) by omega]
      rfl
    | succ c =>
      have hp : p < 2 * (H * W) := by omega
      obtain ⟨e1, e2⟩ := kS_pl hP hL hp
      have hn9 : nine (p : Int) = (p : Int) := by unfold nine; rw [if_neg (by omega)]
      have htu : tU s (t (p / 2)) p = tU s0 (t (p / 2)) p := by unfold tU; rw [h7]
      obtain ⟨R1, b1, b2, b3⟩ := stamp9 (n := (p : Int)) (t := (tU s0 (t (p / 2)) p : Int)) hP e2 (by omega)
      rw [hn9] at b1
      have hL1 : LB R1 b H W t := by
        obtain ⟨⟨l1, l2, l3⟩, l4⟩ := hL
        refine ⟨⟨l1, fun i hi => ⟨(l2 i hi).1, (b3 (b + 1) i (by omega) (by omega)).trans (l2 i hi).2⟩, ?_⟩, l4⟩
        unfold f_X3_depth at l3 ⊢
        rw [b3 b 5 (by omega) (by omega)]
        exact l3
      have hc := chg_01 (s := s) (k := kS W (t (p / 2)) p) (n := (p : Int)) (t := (tU s0 (t (p / 2)) p : Int))
      have e5 : Qe (w4 ((p : Int) + 1)) ((p + 1 : Nat) : Int) := by unfold Qe; rw [w4_of (by omega)]; omega
      have e6 : Qe (w4 (m + chg s (kS W (t (p / 2)) p) (p : Int) (tU s0 (t (p / 2)) p : Int))) (m + chg s (kS W (t (p / 2)) p) (p : Int) (tU s0 (t (p / 2)) p : Int)) := by unfold Qe; rw [w4_of (by omega)]
      obtain ⟨R', c1, c2, c3⟩ := ih c (p + 1) (m + chg s (kS W (t (p / 2)) p) (p : Int) (tU s0 (t (p / 2)) p : Int)) (st1 s (kS W (t (p / 2)) p) (p : Int) (tU s0 (t (p / 2)) p : Int)) R1 (by omega) (by omega) (by omega) (by omega) (by rw [st1_ne (by omega) (by omega)]; exact h7) b2 hL1
      refine ⟨R', fun X => ?_, c2, fun q j h4 h5 => by rw [c3 q j h4 h5, b3 q j h4 h5]⟩
      have hturn := turn9 hP.2.2.1 hL.1 hp
      rw [htu] at hturn
      rw [lp_X0_printSheet_39, lastp hL.1, Option.bind_some, if_neg (by omega), pp9 hL.1 hp, Option.bind_some, hturn, Option.bind_some, e1, show 2 + 1 = 3 from rfl, b1, Option.bind_some, xlet_eq, xlet_eq, e6.eq, e5.eq]
      exact c1 X
theorem pa10_lp {s0 : Nat → Int} {W D : Nat} {t : Nat → Nat} (s7 : s0 7 = 0 ∨ s0 7 = 1) : ∀ (n c p : Nat) (m : Int) (s : Nat → Int) (R : xN), c < n → p + c = 2 * D → 0 ≤ m → m ≤ (p : Int) → (∀ j : Nat, j ≠ 87 → R 324 j = s j) → s 7 = s0 7 → ((p = 0 ∧ m = 0 ∧ R 324 87 = s0 87) ∨ R 324 87 = w4 (s0 87 + m)) → LM R W D t → 1 ≤ p + c → ∃ R', (∀ X : Int → Int → xN → Option (Int × xN), lp_X10_printAll_37 323 n m (p : Int) R X = X (prA s0 W t p c m s).1 (2 * (D : Int)) R') ∧ R' 324 = u1 (prA s0 W t p c m s).2 87 (w4 (s0 87 + (prA s0 W t p c m s).1)) ∧ ∀ q j : Nat, q ≠ 324 → R' q j = R q j := by
  intro n
  induction n with
  | zero => intro c p m s R h; omega
  | succ n ih =>
    intro c p m s R h1 h2 m0 m1 hs h7 h87 hL hpc
    have hD := hL.1
    have e0 : Qe (w4 (2 * (D : Int))) (2 * (D : Int)) := by unfold Qe; rw [w4_of (by omega)]
    cases c with
    | zero =>
      refine ⟨R, fun X => ?_, ?_, fun _ _ _ => rfl⟩
      · rw [lp_X10_printAll_37, hL.2.2.2.1, e0.eq, if_pos (by omega), show (p : Int) = 2 * (D : Int) by omega]
        rfl
      · show R 324 = u1 s 87 (w4 (s0 87 + m))
        funext j
        by_cases hj : j = 87
        · rw [hj, u1_eq]
          rcases h87 with ⟨h, _⟩ | h
          · omega
          · exact h
        · rw [u1_ne hj, hs j hj]
    | succ c =>
      have hp : p < 2 * D := by omega
      have hk := kS_lt hL hp
      have htu : tU (R 324) (t (p / 2)) p = tU s0 (t (p / 2)) p := by unfold tU; rw [hs 7 (by omega), h7]
      obtain ⟨R1, b1, b2, b3⟩ := on10 (R := R) (k := kS W (t (p / 2)) p) (n := (p : Int)) (t := (tU s0 (t (p / 2)) p : Int)) hk
      rw [if_pos (Int.natCast_nonneg p)] at b1 b2
      have hch : chg (R 324) (kS W (t (p / 2)) p) (p : Int) (tU s0 (t (p / 2)) p : Int) = chg s (kS W (t (p / 2)) p) (p : Int) (tU s0 (t (p / 2)) p : Int) := by
        unfold chg
        rw [hs _ (by omega), hs (122 + _) (by omega)]
      rw [hch] at b1 b2
      have hc := chg_01 (s := s) (k := kS W (t (p / 2)) p) (n := (p : Int)) (t := (tU s0 (t (p / 2)) p : Int))
      have e5 : Qe (w4 ((p : Int) + 1)) ((p + 1 : Nat) : Int) := by unfold Qe; rw [w4_of (by omega)]; omega
      have e6 : Qe (w4 (m + chg s (kS W (t (p / 2)) p) (p : Int) (tU s0 (t (p / 2)) p : Int))) (m + chg s (kS W (t (p / 2)) p) (p : Int) (tU s0 (t (p / 2)) p : Int)) := by unfold Qe; rw [w4_of (by omega)]
      have h87' : R1 324 87 = w4 (s0 87 + (m + chg s (kS W (t (p / 2)) p) (p : Int) (tU s0 (t (p / 2)) p : Int))) := by
        rw [b2, u1_eq]
        rcases h87 with ⟨_, hm, h⟩ | h
        · rw [h, hm, Int.zero_add]
        · rw [h, w4_add, Int.add_assoc]
      obtain ⟨R', c1, c2, c3⟩ := ih c (p + 1) (m + chg s (kS W (t (p / 2)) p) (p : Int) (tU s0 (t (p / 2)) p : Int)) (st1 s (kS W (t (p / 2)) p) (p : Int) (tU s0 (t (p / 2)) p : Int)) R1 (by omega) (by omega) (by omega) (by omega) (fun j hj => by
        rw [b2, u1_ne hj]
        unfold st1 u1
        by_cases q1 : j = 122 + kS W (t (p / 2)) p
        · rw [if_pos q1, if_pos q1]
        · rw [if_neg q1, if_neg q1, hs j hj]) (by rw [st1_ne (by omega) (by omega)]; exact h7) (Or.inr h87') (hL.fr (by rw [b2, u1_ne (by omega), st1_ne (by omega) (by omega)]) (b3 323 9 (by omega)) (fun q j h1 h2 => b3 q j (by omega))) (by omega)
      refine ⟨R', fun X => ?_, c2, fun q j hq => by rw [c3 q j hq, b3 q j hq]⟩
      have htn := tn10 hL hp
      rw [htu] at htn
      rw [lp_X10_printAll_37, hL.2.2.2.1, e0.eq, if_neg (by omega), so10 hL hp, Option.bind_some, htn, Option.bind_some, b1, Option.bind_some, xlet_eq, xlet_eq, e6.eq, e5.eq]
      exact c1 X
def spAll (v : Int) : sSp := fun s => match gbk (s 0).toNat (s 1).toNat v with
  | none => (-1, s)
  | some g => if s 2 = 0 ∧ s 8 = 0 ∧ s 9 = 0 then ((prA s (s 1).toNat g.2.2.2 0 (2 * ((s 0).toNat * (s 1).toNat)) 0 s).1, u1 (prA s (s 1).toNat g.2.2.2 0 (2 * ((s 0).toNat * (s 1).toNat)) 0 s).2 87 (w4 (s 87 + (prA s (s 1).toNat g.2.2.2 0 (2 * ((s 0).toNat * (s 1).toNat)) 0 s).1))) else (-2, s)
theorem spAll_eq {s : Nat → Int} {H W : Nat} {v : Int} (h0 : s 0 = (H : Int)) (h1 : s 1 = (W : Int)) : spAll v s = match gbk H W v with
  | none => (-1, s)
  | some g => if s 2 = 0 ∧ s 8 = 0 ∧ s 9 = 0 then ((prA s W g.2.2.2 0 (2 * (H * W)) 0 s).1, u1 (prA s W g.2.2.2 0 (2 * (H * W)) 0 s).2 87 (w4 (s 87 + (prA s W g.2.2.2 0 (2 * (H * W)) 0 s).1))) else (-2, s) := by
  unfold spAll
  rw [h0, h1, Int.toNat_natCast, Int.toNat_natCast]
/-- an error behind a trial -/
theorem dErr2 {f : xN → Option (Int × xN)} {sp : sSp} {R R' : xN} {s : Nat → Int} {H W : Nat} {g : gG} {v : Int} (w : SW s H W g) (r : DR R 2 s H W g) (k : kTri R R') (hs : sp s = (v, s)) (hf : f R = some (v, R')) : (∀ j : Nat, 154 ≤ j → (sp s).2 j = s j) ∧ (err (sp s).1 → (sp s).2 = s) ∧ ∃ R', f R = some ((sp s).1, R') ∧ (∀ q j : Nat, ¬ (2 ≤ q ∧ q < 16) → ¬ (311 ≤ q ∧ q < 314) → R' q j = R q j) ∧ SD R' 2 (sp s).2 := by
  rw [hs]
  exact ⟨fun _ _ => rfl, fun _ => rfl, R', hf, fun q j _ h => k q j h, H, W, g, w, r.fr w (fun q j _ _ => k q j (by omega))⟩
theorem kS_lt2 {H W p : Nat} {g : gG} (hw : GWg H W g) (hp : p < 2 * (H * W)) : kS W (g.2.2.2 (p / 2)) p < 32 := by
  obtain ⟨t1, t2, t3⟩ := hw.2.2.2.2.2.2 (p / 2) (by omega)
  have h1 := cel_lt hw.1 hw.2.1 t2 t3
  have h2 : sdN (g.2.2.2 (p / 2)) p < 2 := sdN_lt
  have h3 := area_le hw.1 hw.2.1
  unfold kS
  omega
