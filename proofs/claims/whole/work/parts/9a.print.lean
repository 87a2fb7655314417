/-! Printing. -/
theorem w4_add (a b : Int) : w4 (w4 a + b) = w4 (a + b) := by unfold w4; omega
def st1 (s : Nat → Int) (k : Nat) (n t : Int) : Nat → Int := u1 (u1 s (90 + k) n) (122 + k) t
def chg (s : Nat → Int) (k : Nat) (n t : Int) : Int := if s (90 + k) = n ∧ s (122 + k) = t then 0 else 1
theorem st1_ne {s : Nat → Int} {k j : Nat} {n t : Int} (h1 : j ≠ 90 + k) (h2 : j ≠ 122 + k) : st1 s k n t j = s j := by unfold st1; rw [u1_ne h2, u1_ne h1]
theorem st1_p {s : Nat → Int} {k i : Nat} {n t : Int} (hk : k < 32) (hi : i < 32) : st1 s k n t (90 + i) = (if i = k then n else s (90 + i)) ∧ st1 s k n t (122 + i) = (if i = k then t else s (122 + i)) := by
  unfold st1 u1
  by_cases h : i = k
  · rw [if_pos h, if_pos h, if_neg (by omega), if_pos (by omega), if_pos (by omega)]
    exact ⟨rfl, rfl⟩
  · rw [if_neg h, if_neg h, if_neg (by omega), if_neg (by omega), if_neg (by omega), if_neg (by omega)]
    exact ⟨rfl, rfl⟩
theorem pl_inj {H W i k : Nat} (hH : len H) (hW : len W) (hi : i < 2 * (H * W)) (hk : k < 2 * (H * W)) : pl W i = pl W k ↔ i = k := by
  unfold pl
  refine ⟨fun h => ?_, fun h => by rw [h]⟩
  rcases hH with rfl | rfl | rfl <;> rcases hW with rfl | rfl | rfl <;> omega
theorem nine_i {a b : Int} (ha : -1 ≤ a) (hb : -1 ≤ b) : nine a = nine b ↔ a = b := by unfold nine; split <;> split <;> omega
theorem stamp9 {R : xN} {s : Nat → Int} {H W k : Nat} {n t : Int} (hP : PR R s H W) (hk : k < 2 * (H * W)) (hn : -1 ≤ n ∧ n ≤ 31) : ∃ R', f_X5_stamp 3 ((pl W k : Nat) : Int) (nine n) t R = some (chg s k n t, R') ∧ PR R' (st1 s k n t) H W ∧ ∀ q j : Nat, q ≠ 4 → q ≠ 5 → R' q j = R q j := by
  obtain ⟨hH, hW, h5, hp⟩ := id hP
  have hl := pl_lt hH hW hk
  have hA := area_le hH hW
  obtain ⟨⟨q1, q2⟩, q3⟩ := hp k hk
  have c1 : (0 : Int) ≤ ((pl W k : Nat) : Int) ∧ ((pl W k : Nat) : Int) ≤ 31 := by omega
  have c2 : (0 : Int) ≤ ((pl W k : Nat) : Int) ∧ ((pl W k : Nat) : Int) < 32 := by omega
  -- what holds once both are written
  have fin : ∀ R' : xN, (∀ q j : Nat, R' q j = if q = 5 ∧ j = pl W k then t else if q = 4 ∧ j = pl W k then nine n else R q j) → PR R' (st1 s k n t) H W ∧ ∀ q j : Nat, q ≠ 4 → q ≠ 5 → R' q j = R q j := fun R' hR => by
    refine ⟨⟨hH, hW, ?_, fun i hi => ?_⟩, fun q j a b => by rw [hR, if_neg (by omega), if_neg (by omega)]⟩
    · rw [hR, if_neg (by omega), if_neg (by omega), st1_ne (by omega) (by omega)]; exact h5
    · obtain ⟨e1, e2⟩ := st1_p (s := s) (n := n) (t := t) (show k < 32 by omega) (show i < 32 by omega)
      rw [e1, e2, hR, hR]
      have hin := pl_inj hH hW hi hk
      obtain ⟨⟨p1, p2⟩, p3⟩ := hp i hi
      by_cases hik : i = k
      · rw [if_pos hik, if_pos hik, if_neg (by omega), if_pos ⟨rfl, hin.mpr hik⟩, if_pos ⟨rfl, hin.mpr hik⟩]
        exact ⟨⟨rfl, rfl⟩, hn⟩
      · have hne : ¬ pl W i = pl W k := fun h => hik (hin.mp h)
        rw [if_neg hik, if_neg hik, if_neg (by omega), if_neg (fun h => hne h.2), if_neg (fun h => hne h.2), if_neg (by omega)]
        exact ⟨⟨p1, p2⟩, p3⟩
  unfold f_X5_stamp chg
  rw [in9, Option.bind_some, if_pos (decide_eq_true c1), if_pos c2, tnc, show R (3 + 1) (pl W k) = _ from q1]
  by_cases a1 : s (90 + k) = n
  · rw [if_pos ((nine_i q3.1 hn.1).mpr a1), if_pos c2, show R (3 + 2) (pl W k) = _ from q2]
    by_cases a2 : s (122 + k) = t
    · rw [if_pos a2, if_pos ⟨a1, a2⟩]
      refine ⟨R, rfl, fin R (fun q j => ?_)⟩
      by_cases b1 : q = 5 ∧ j = pl W k
      · rw [if_pos b1, b1.1, b1.2, q2, a2]
      · rw [if_neg b1]
        by_cases b2 : q = 4 ∧ j = pl W k
        · rw [if_pos b2, b2.1, b2.2, q1, a1]
        · rw [if_neg b2]
    · rw [if_neg a2, if_pos c2, xlet_eq, if_pos c2, xlet_eq, if_neg (fun h => a2 h.2)]
      refine ⟨_, rfl, fin _ (fun q j => ?_)⟩
      by_cases b1 : q = 5 ∧ j = pl W k
      · rw [if_pos b1, b1.1, b1.2, xup_eq]
      · rw [if_neg b1, xup_nn b1]
        by_cases b2 : q = 4 ∧ j = pl W k
        · rw [if_pos b2, b2.1, b2.2, xup_eq]
        · rw [if_neg b2, xup_nn b2]
  · rw [if_neg (fun h => a1 ((nine_i q3.1 hn.1).mp h)), if_pos c2, xlet_eq, if_pos c2, xlet_eq, if_neg (fun h => a1 h.1)]
    refine ⟨_, rfl, fin _ (fun q j => ?_)⟩
    by_cases b1 : q = 5 ∧ j = pl W k
    · rw [if_pos b1, b1.1, b1.2, xup_eq]
    · rw [if_neg b1, xup_nn b1]
      by_cases b2 : q = 4 ∧ j = pl W k
      · rw [if_pos b2, b2.1, b2.2, xup_eq]
      · rw [if_neg b2, xup_nn b2]
theorem on10 {R : xN} {k : Nat} {n t : Int} (hk : k < 32) : ∃ R', f_X10_printOn 323 (k : Int) n t R = some (chg (R 324) k n (if 0 ≤ n then t else 0), R') ∧ R' 324 = u1 (st1 (R 324) k n (if 0 ≤ n then t else 0)) 87 (w4 (R 324 87 + chg (R 324) k n (if 0 ≤ n then t else 0))) ∧ ∀ q j : Nat, q ≠ 324 → R' q j = R q j := by
  have e1 : Qe (w4 (90 + (k : Int))) ((90 + k : Nat) : Int) := by unfold Qe; rw [w4_of (by omega)]; omega
  have e2 : Qe (w4 (122 + (k : Int))) ((122 + k : Nat) : Int) := by unfold Qe; rw [w4_of (by omega)]; omega
  have c1 : (0 : Int) ≤ ((90 + k : Nat) : Int) ∧ ((90 + k : Nat) : Int) < 464 := by omega
  have c2 : (0 : Int) ≤ ((122 + k : Nat) : Int) ∧ ((122 + k : Nat) : Int) < 464 := by omega
  unfold f_X10_printOn
  rw [xlet_eq, e1.eq, if_pos c1, tnc, show 323 + 1 = 324 from rfl]
  generalize (if 0 ≤ n then t else 0) = u
  have fin : ∀ z : Int, ∃ R', some (z, xup (xup (xup R 324 (90 + k) n) 324 (122 + k) u) 324 87 (w4 ((xup (xup R 324 (90 + k) n) 324 (122 + k) u) 324 87 + z))) = some (z, R') ∧ R' 324 = u1 (st1 (R 324) k n u) 87 (w4 (R 324 87 + z)) ∧ ∀ q j : Nat, q ≠ 324 → R' q j = R q j := fun z => by
    refine ⟨_, rfl, ?_, fun q j hq => by rw [xup_nn (by omega), xup_nn (by omega), xup_nn (by omega)]⟩
    rw [xup_rf, xup_rf, xup_rf, u1_ne (by omega), u1_ne (by omega)]
    rfl
  unfold chg
  by_cases a1 : R 324 (90 + k) = n
  · rw [if_pos a1, e2.eq, if_pos c2, tnc]
    by_cases a2 : R 324 (122 + k) = u
    · rw [if_pos a2, if_pos c1, xlet_eq, if_pos c2, xlet_eq, xlet_eq, if_pos ⟨a1, a2⟩]
      exact fin 0
    · rw [if_neg a2, if_pos c1, xlet_eq, if_pos c2, xlet_eq, xlet_eq, if_neg (fun h => a2 h.2)]
      exact fin 1
  · rw [if_neg a1, if_pos c1, xlet_eq, e2.eq, if_pos c2, xlet_eq, xlet_eq, tnc, if_neg (fun h => a1 h.1)]
    exact fin 1
theorem oaf9 {R : xN} {s : Nat → Int} {H W : Nat} {g : gG} (w : SW s H W g) (r : DR R 2 s H W g) : f_X0_isOpenAndFree 2 R = some (decide (s 2 = 0 ∧ s 8 = 0 ∧ s 9 = 0)) := by
  have hc := w.cnt
  have h65 : R (2 + 4) 5 = s 2 := by rw [hc]; exact r.2.2.2.1.2.2.2.2.2.1
  unfold f_X0_isOpenAndFree
  rw [h65, isf9 r.2.2.2.2.2.1 r.2.2.2.2.2.2.1, Option.bind_some]
  by_cases h1 : s 2 = 0
  · rw [if_pos h1]
    by_cases h2 : s 8 = 0 ∧ s 9 = 0
    · rw [decide_eq_true h2, decide_eq_true ⟨h1, h2⟩]; rfl
    · rw [decide_eq_false h2, decide_eq_false (fun h => h2 h.2)]; rfl
  · rw [if_neg h1, decide_eq_false (fun h => h1 h.1)]
def prK (s : Nat → Int) (a b c : Int) : Nat := (2 * (s 1 * a + b) + c).toNat
def spPrint (a b c n t : Int) : sSp := fun s => if 0 ≤ a ∧ a ≤ s 0 - 1 then (if 0 ≤ b ∧ b ≤ s 1 - 1 then (if 0 ≤ c ∧ c ≤ 1 then (if -1 ≤ n ∧ n ≤ 31 then (if 0 ≤ t ∧ t ≤ 1 then (if s 2 = 0 ∧ s 8 = 0 ∧ s 9 = 0 then (nine (s (90 + prK s a b c)), u1 (st1 s (prK s a b c) n (if 0 ≤ n then t else 0)) 87 (w4 (s 87 + chg s (prK s a b c) n (if 0 ≤ n then t else 0)))) else (-2, s)) else (-1, s)) else (-1, s)) else (-1, s)) else (-1, s)) else (-1, s)
theorem prK_eq {s : Nat → Int} {W a b c : Nat} (h1 : s 1 = (W : Int)) : prK s a b c = 2 * (W * a + b) + c := by
  unfold prK
  rw [h1, ← Int.natCast_mul]
  omega
theorem nnine {v : Int} : ¬ err (nine v) := fun h => by unfold err nine at h; split at h <;> omega
theorem pr_sw {s : Nat → Int} {H W k : Nat} {g : gG} {n t e : Int} (w : SW s H W g) (hk : k < 32) (hn : -1 ≤ n ∧ n ≤ 31) (ht : t = 0 ∨ t = 1) : SW (u1 (st1 s k n t) 87 e) H W g := by
  refine w.pr (fun j hj => by rw [u1_ne (by omega), st1_ne (by omega) (by omega)]) (fun i hi => ?_)
  obtain ⟨e1, e2⟩ := st1_p (s := s) (n := n) (t := t) hk hi
  have k17 := w.2.2.2.2.2.2.2.2.2.2.2.2.2.2.2.2 i hi
  rw [u1_ne (by omega), u1_ne (by omega), e1, e2]
  by_cases h : i = k
  · rw [if_pos h, if_pos h]; exact ⟨hn, ht⟩
  · rw [if_neg h, if_neg h]; exact k17
set_option maxHeartbeats 1000000 in
theorem d_print {a b c n t : Int} : dSpec (f_X0_printSide 2 a b c n t) (spPrint a b c n t) := by
  intro R s H W g w r
  obtain ⟨k1, k2, k3, k4, k5, k6, k7, k8, k9, k10, k11, k12, k13, k14, k15, k16, k17⟩ := id w
  have hP := pr_of w r
  have r1 : R (2 + 1) 0 = (H : Int) := r.1
  have r2 : R (2 + 1) 1 = (W : Int) := r.2.1
  have hH4 : H ≤ 4 := by rcases k1 with rfl | rfl | rfl <;> omega
  have hW4 : W ≤ 4 := by rcases k2 with rfl | rfl | rfl <;> omega
  have e1 : Qe (w4 ((H : Int) - 1)) ((H : Int) - 1) := by unfold Qe; rw [w4_of (by omega)]
  have e2 : Qe (w4 ((W : Int) - 1)) ((W : Int) - 1) := by unfold Qe; rw [w4_of (by omega)]
  have hE : ∀ v : Int, (spPrint a b c n t s = (v, s)) → f_X0_printSide 2 a b c n t R = some (v, R) → (∀ j : Nat, 154 ≤ j → (spPrint a b c n t s).2 j = s j) ∧ (err (spPrint a b c n t s).1 → (spPrint a b c n t s).2 = s) ∧ ∃ R', f_X0_printSide 2 a b c n t R = some ((spPrint a b c n t s).1, R') ∧ (∀ q j : Nat, ¬ (2 ≤ q ∧ q < 16) → ¬ (311 ≤ q ∧ q < 314) → R' q j = R q j) ∧ SD R' 2 (spPrint a b c n t s).2 := fun v h1 h2 => dErr w r h1 h2
  unfold f_X0_printSide f_X5_hasSide at hE ⊢
  unfold spPrint at hE ⊢
  rw [r1, r2, e1.eq, e2.eq, in9, Option.bind_some, k3, k4] at hE ⊢
  by_cases ha : 0 ≤ a ∧ a ≤ (H : Int) - 1
  · rw [if_pos (decide_eq_true ha), in9, Option.bind_some, if_pos ha] at hE ⊢
    by_cases hb : 0 ≤ b ∧ b ≤ (W : Int) - 1
    · rw [if_pos (decide_eq_true hb), in9, Option.bind_some, if_pos hb] at hE ⊢
      by_cases hc : 0 ≤ c ∧ c ≤ 1
      · rw [if_pos (decide_eq_true hc), Option.bind_some, if_pos rfl, in9, Option.bind_some, if_pos hc] at hE ⊢
        by_cases hn : -1 ≤ n ∧ n ≤ 31
        · rw [if_pos (decide_eq_true hn), in9, Option.bind_some, if_pos hn] at hE ⊢
          by_cases ht : 0 ≤ t ∧ t ≤ 1
          · rw [if_pos (decide_eq_true ht), if_pos ht, oaf9 w r, Option.bind_some] at hE ⊢
            by_cases hf : s 2 = 0 ∧ s 8 = 0 ∧ s 9 = 0
            · clear hE
              obtain ⟨a', rfl⟩ := Int.eq_ofNat_of_zero_le ha.1
              obtain ⟨b', rfl⟩ := Int.eq_ofNat_of_zero_le hb.1
              obtain ⟨c', rfl⟩ := Int.eq_ofNat_of_zero_le hc.1
              obtain ⟨s1, s2⟩ := sd_num (r := a') (c := b') (b := c') k1 k2 (by omega) (by omega) (by omega)
              obtain ⟨p1, p2⟩ := pl_rc (r := a') (c := b') (b := c') k1 k2 (by omega) (by omega) (by omega)
              have hk0 : prK s ((a' : Nat) : Int) ((b' : Nat) : Int) ((c' : Nat) : Int) = 2 * (W * a' + b') + c' := prK_eq k4
              have hk0' : prK s (Int.ofNat a') (Int.ofNat b') (Int.ofNat c') = 2 * (W * a' + b') + c' := hk0
              rw [if_pos (decide_eq_true hf), if_pos hf]
              first | rw [hk0] | rw [hk0']
              generalize hk : 2 * (W * a' + b') + c' = k at *
              have hA := area_le k1 k2
              have hk32 : k < 32 := by omega
              have hl := pl_lt k1 k2 p2
              have q1 : R (3 + 1) (pl W k) = nine (s (90 + k)) := (hP.2.2.2 k p2).1.1
              have e15 : R (2 + 13) 1 = s 87 := r.2.2.2.2.2.2.2.2.2.2.2.2.2 1 (by omega)
              have hnum : f_X5_numberAt (2 + 1) ((pl W k : Nat) : Int) R = some (nine (s (90 + k))) := by
                unfold f_X5_numberAt
                rw [in9, Option.bind_some, if_pos (decide_eq_true (by omega)), if_pos (by omega), tnc, show R (2 + 1 + 1) (pl W k) = _ from q1]
              -- the two ways of stamping are one
              have st : ∃ R', (if n = (-1) then (f_X5_stamp (2 + 1) ((pl W k : Nat) : Int) (-9) 0 R).bind (fun v13 => xlet (xup v13.2 (2 + 13) 1 (w4 ((R (2 + 13) 1) + v13.1))) (fun R14 => some (nine (s (90 + k)), R14))) else (f_X5_stamp (2 + 1) ((pl W k : Nat) : Int) n t R).bind (fun v15 => xlet (xup v15.2 (2 + 13) 1 (w4 ((R (2 + 13) 1) + v15.1))) (fun R16 => some (nine (s (90 + k)), R16)))) = some (nine (s (90 + k)), xup R' 15 1 (w4 (s 87 + chg s k n (if 0 ≤ n then t else 0)))) ∧ PR R' (st1 s k n (if 0 ≤ n then t else 0)) H W ∧ ∀ q j : Nat, q ≠ 4 → q ≠ 5 → R' q j = R q j := by
                by_cases hn1 : n = -1
                · obtain ⟨R', b1, b2, b3⟩ := stamp9 (n := n) (t := 0) hP p2 hn
                  have b1' : f_X5_stamp (2 + 1) ((pl W k : Nat) : Int) (-9) 0 R = some (chg s k n 0, R') := by
                    rw [hn1] at b1 ⊢
                    exact b1
                  rw [if_neg (show ¬ 0 ≤ n by omega)]
                  refine ⟨R', ?_, b2, b3⟩
                  rw [if_pos hn1, b1', Option.bind_some, e15]
                  rfl
                · obtain ⟨R', b1, b2, b3⟩ := stamp9 (n := n) (t := t) hP p2 hn
                  have b1' : f_X5_stamp (2 + 1) ((pl W k : Nat) : Int) n t R = some (chg s k n t, R') := by
                    have : nine n = n := by unfold nine; rw [if_neg (by omega)]
                    rw [this] at b1
                    exact b1
                  rw [if_pos (show 0 ≤ n by omega)]
                  refine ⟨R', ?_, b2, b3⟩
                  rw [if_neg hn1, b1', Option.bind_some, e15]
                  rfl
              obtain ⟨R', st1', st2, st3⟩ := st
              have ht' : (if 0 ≤ n then t else 0) = 0 ∨ (if 0 ≤ n then t else 0) = 1 := by split <;> omega
              generalize (if 0 ≤ n then t else 0) = u at *
              have w' := pr_sw (e := w4 (s 87 + chg s k n u)) w hk32 hn ht'
              refine ⟨fun j hj => by
                show u1 (st1 s k n u) 87 _ j = s j
                rw [u1_ne (by omega), st1_ne (by omega) (by omega)], fun h => absurd h nnine, xup R' 15 1 (w4 (s 87 + chg s k n u)), ?_, fun q j h _ => by rw [xup_nn (by omega), st3 q j (by omega) (by omega)], H, W, g, w', ?_⟩
              · unfold f_X9_cellAt f_X9_placeOfSide
                rw [Option.bind_some, Option.bind_some]
                have s1' : w4 (w4 (w4 (w4 (Int.ofNat a' * 4) + Int.ofNat b') * 2) + Int.ofNat c') = ((pl W k : Nat) : Int) := s1
                first | rw [s1.eq] | rw [s1']
                rw [hnum, Option.bind_some]
                exact st1'
              · refine r.pr w (fun j hj => by
                  show u1 (st1 s k n u) 87 _ j = s j
                  rw [u1_ne (by omega), st1_ne (by omega) (by omega)]) (fun q j h1 h2 h3 h4 => by rw [xup_nn (by omega), st3 q j h3 h4]) (fun i hi => ?_) (fun i hi => ?_)
                · have := (st2.2.2.2 i hi).1
                  rw [xup_nn (by omega), xup_nn (by omega)]
                  show _ = nine (u1 (st1 s k n u) 87 _ (90 + i)) ∧ _ = u1 (st1 s k n u) 87 _ (122 + i)
                  rw [u1_ne (by omega), u1_ne (by omega)]
                  exact this
                · show _ = u1 (st1 s k n u) 87 _ (86 + i)
                  by_cases hi1 : i = 1
                  · subst hi1; rw [xup_eq, u1_eq]
                  · rw [xup_nn (by omega), st3 15 i (by omega) (by omega), u1_ne (by omega), st1_ne (by omega) (by omega)]
                    exact r.2.2.2.2.2.2.2.2.2.2.2.2.2 i hi
            · rw [decide_eq_false hf, if_neg Bool.false_ne_true, if_neg hf] at hE ⊢
              exact hE (-2) rfl rfl
          · rw [decide_eq_false ht, if_neg Bool.false_ne_true, if_neg ht] at hE ⊢
            exact hE (-1) rfl rfl
        · rw [decide_eq_false hn, if_neg Bool.false_ne_true, if_neg hn] at hE ⊢
          exact hE (-1) rfl rfl
      · rw [decide_eq_false hc, if_neg Bool.false_ne_true, Option.bind_some, if_neg Bool.false_ne_true, if_neg hc] at hE ⊢
        exact hE (-1) rfl rfl
    · rw [decide_eq_false hb, if_neg Bool.false_ne_true, Option.bind_some, if_neg Bool.false_ne_true, if_neg hb] at hE ⊢
      exact hE (-1) rfl rfl
  · rw [decide_eq_false ha, if_neg Bool.false_ne_true, Option.bind_some, if_neg Bool.false_ne_true, if_neg ha] at hE ⊢
    exact hE (-1) rfl rfl
