/-! A page asked about. -/
theorem sdx_num : ∀ n : Nat, n < 64 → ∀ p : Nat, p < 32 → b4xor (sid n : Int) (b4and (p : Int) 1) = (sdN n p : Int) := by decide +kernel
theorem kS_num : ∀ W ∈ ([1, 2, 4] : List Nat), ∀ n : Nat, n < 64 → n % 4 < W → ∀ p : Nat, p < 2 → w4 (Int.tdiv (kS W n p : Int) 2) = (cel W n : Int) ∧ Int.tmod (kS W n p : Int) 2 = (sdN n p : Int) := by decide +kernel
theorem kS_mod {W n p : Nat} : kS W n p = kS W n (p % 2) ∧ sdN n p = sdN n (p % 2) := by
  have e : sdN n p = sdN n (p % 2) := by
    unfold sdN
    rw [Nat.mod_mod]
  exact ⟨by unfold kS; rw [e], e⟩
/-- what the model answers about a page, apart from its lines -/
theorem pgw {R Ra : xN} {s : Nat → Int} {H W p : Nat} {t : Nat → Nat} {b : Int} (h5 : R 2 5 = s 7) (h6 : R 2 6 = s 8) (h8 : 0 ≤ s 8 ∧ s 8 ≤ 15) (h7 : s 7 = 0 ∨ s 7 = 1) (hP : PR R s H W) (hLB : LB R 6 H W t) (hM : LM Ra W (H * W) t) (hr : Ra 324 = s) (hp : p < 2 * (H * W)) (hb : 0 ≤ b ∧ b ≤ 6) : ∃ v : Int, (if b = 0 then (f_X3_rowAt 6 (w4 (Int.tdiv (p : Int) 2)) R).bind (fun v7 => some (v7, R)) else if b = 1 then (f_X3_columnAt 6 (w4 (Int.tdiv (p : Int) 2)) R).bind (fun v9 => some (v9, R)) else if b = 2 then (f_X3_sideOfPage 6 (p : Int) R).bind (fun v11 => some (v11, R)) else if b = 3 then (f_X0_numberOn 2 6 (p : Int) R).bind (fun v13 => some (v13, R)) else if b = 4 then (f_X9_uprightOn 2 (p : Int) R).bind (fun v15 => some (v15, R)) else if b = 5 then (f_X0_isHidden 2 (p : Int) R).bind (fun v17 => (f_X9_asNumber v17 R).bind (fun v18 => some (v18, R))) else (f_X0_whyNotRead 2 (p : Int) R).bind (fun v20 => if v20 = 0 then (f_X9_asNumber true R).bind (fun v22 => some (v22, R)) else (f_X9_asNumber false R).bind (fun v23 => some (v23, R)))) = some (v, R) ∧ (if 0 ≤ Ra 324 (90 + kS W (t (p / 2)) p) then (if b = 0 then (if Ra 324 1 ≠ 0 then some ((w4 (Int.tdiv (w4 (Int.tdiv (kS W (t (p / 2)) p : Int) 2)) (Ra 324 1))), Ra) else none) else if b = 1 then (if Ra 324 1 ≠ 0 then some ((Int.tmod (w4 (Int.tdiv (kS W (t (p / 2)) p : Int) 2)) (Ra 324 1)), Ra) else none) else if b = 2 then some ((Int.tmod (kS W (t (p / 2)) p : Int) 2), Ra) else if b = 3 then some (Ra 324 (90 + kS W (t (p / 2)) p), Ra) else if b = 4 then (f_X10_isUpright 323 (p : Int) Ra).bind (fun v18 => if v18 = true then some (1, Ra) else some (0, Ra)) else if b = 5 then (f_X10_isHidden 323 (p : Int) Ra).bind (fun v21 => if v21 = true then some (1, Ra) else some (0, Ra)) else (f_X10_isHidden 323 (p : Int) Ra).bind (fun v24 => if v24 = true then some (0, Ra) else (f_X10_isItsOwn 323 (p : Int) Ra).bind (fun v26 => if v26 = true then some (1, Ra) else some (0, Ra)))) else (if b = 0 then (if Ra 324 1 ≠ 0 then some ((w4 (Int.tdiv (w4 (Int.tdiv (kS W (t (p / 2)) p : Int) 2)) (Ra 324 1))), Ra) else none) else if b = 1 then (if Ra 324 1 ≠ 0 then some ((Int.tmod (w4 (Int.tdiv (kS W (t (p / 2)) p : Int) 2)) (Ra 324 1)), Ra) else none) else if b = 2 then some ((Int.tmod (kS W (t (p / 2)) p : Int) 2), Ra) else if b = 3 then some ((-9), Ra) else if b = 4 then some ((-9), Ra) else if b = 5 then (f_X10_isHidden 323 (p : Int) Ra).bind (fun v37 => if v37 = true then some (1, Ra) else some (0, Ra)) else (f_X10_isHidden 323 (p : Int) Ra).bind (fun v40 => if v40 = true then some (0, Ra) else (f_X10_isItsOwn 323 (p : Int) Ra).bind (fun v42 => if v42 = true then some (1, Ra) else some (0, Ra))))) = some (v, Ra) := by
  subst hr
  have hA := hM.1
  have hp2 : p / 2 < H * W := by omega
  obtain ⟨hn, hnR⟩ := hLB.1.2.1 (p / 2) hp2
  have hn4 := (hM.2.2.2.2 (p / 2) hp2).2.1
  have hc := cel_num W hM.2.1 (t (p / 2)) hn hn4
  have hk := kS_num W hM.2.1 (t (p / 2)) hn hn4 (p % 2) (by omega)
  rw [← (kS_mod (W := W)).1, ← (kS_mod (W := W)).2] at hk
  have k1 : Qe _ _ := hk.1
  have k2 : Qe _ _ := hk.2
  have c1 := hc.1
  have c2 : Qe _ _ := hc.2.1
  have c3 : Qe _ _ := hc.2.2
  clear hk hc
  have hw1 : Ra 324 1 = (W : Int) := hM.2.2.1
  have e2 := half (p := p) (by omega)
  have hi16 : p / 2 < 16 := by omega
  have hnum := num9 hP hLB hp
  have hupr := upr9 hP hLB hp
  have hupr10 := upr10 hM hp
  obtain ⟨d1, d2⟩ := hid9 hLB.1 hp h5 h6 h8
  obtain ⟨d3, d4⟩ := hid10 hM hp h7 h8
  obtain ⟨y1, y2⟩ := why9 hP hLB hp h6 h8
  obtain ⟨o1, o2⟩ := own10 hM hp
  have hv := hP.2.2.2 _ (kS_pl hP hLB hp).2
  have hsd := sdx_num (t (p / 2)) hn p (by omega)
  have hsd' : Qe _ _ := hsd
  clear hsd
  rw [e2.eq, hw1, k1.eq, k2.eq, c2.eq, c3.eq]
  by_cases b0 : b = 0
  · refine ⟨(cr (t (p / 2)) : Int), ?_, ?_⟩
    · rw [if_pos b0, row9 hi16 hnR hn, Option.bind_some]
    · rw [if_pos b0, if_pos c1, if_pos b0]
      split <;> rfl
  rw [if_neg b0, if_neg b0, if_neg b0]
  by_cases b1 : b = 1
  · refine ⟨((t (p / 2) % 4 : Nat) : Int), ?_, ?_⟩
    · rw [if_pos b1, col9 hi16 hnR hn, Option.bind_some]
    · rw [if_pos b1, if_pos c1, if_pos b1]
      split <;> rfl
  rw [if_neg b1, if_neg b1, if_neg b1]
  by_cases b2 : b = 2
  · refine ⟨(sdN (t (p / 2)) p : Int), ?_, ?_⟩
    · unfold f_X3_sideOfPage f_X3_sideUpAt
      rw [if_pos b2, e2.eq, at3 hi16, Option.bind_some, hnR, suI_eq, su_num _ hn, Option.bind_some, Option.bind_some, hsd'.eq, Option.bind_some]
    · rw [if_pos b2, if_pos b2]
      split <;> rfl
  rw [if_neg b2, if_neg b2, if_neg b2]
  by_cases b3 : b = 3
  · refine ⟨nine (Ra 324 (90 + kS W (t (p / 2)) p)), ?_, ?_⟩
    · rw [if_pos b3, hnum, Option.bind_some]
    · rw [if_pos b3, if_pos b3]
      unfold nine
      by_cases c : 0 ≤ Ra 324 (90 + kS W (t (p / 2)) p)
      · rw [if_pos c, if_neg (by omega)]
      · rw [if_neg c, if_pos (by omega)]
  rw [if_neg b3, if_neg b3, if_neg b3]
  by_cases b4 : b = 4
  · rw [if_pos b4, if_pos b4, if_pos b4]
    unfold f_X9_uprightOn
    rw [show 2 + 4 = 6 from rfl, hnum, Option.bind_some, hupr, hupr10, Option.bind_some, Option.bind_some]
    by_cases c : 0 ≤ Ra 324 (90 + kS W (t (p / 2)) p)
    · rw [if_neg (fun h => absurd ((nine_9 hv.2.1).mp h) (by omega)), if_pos c]
      by_cases u : Ra 324 (122 + kS W (t (p / 2)) p) = (tU (Ra 324) (t (p / 2)) p : Int)
      · rw [decide_eq_true u, asn9.1, Option.bind_some, Option.bind_some, if_pos rfl]
        exact ⟨1, rfl, rfl⟩
      · rw [decide_eq_false u, asn9.2, Option.bind_some, Option.bind_some, if_neg Bool.false_ne_true]
        exact ⟨0, rfl, rfl⟩
    · rw [if_pos ((nine_9 hv.2.1).mpr (by omega)), if_neg c, Option.bind_some]
      exact ⟨-9, rfl, rfl⟩
  rw [if_neg b4, if_neg b4, if_neg b4]
  by_cases b5 : b = 5
  · rw [if_pos b5, if_pos b5]
    by_cases hh : hid (Ra 324) t (H * W) p
    · rw [d1 hh, d3 hh, Option.bind_some, Option.bind_some, asn9.1, Option.bind_some, if_pos rfl]
      exact ⟨1, rfl, by split <;> rfl⟩
    · rw [d2 hh, d4 hh, Option.bind_some, Option.bind_some, asn9.2, Option.bind_some, if_neg Bool.false_ne_true]
      exact ⟨0, rfl, by split <;> rfl⟩
  rw [if_neg b5, if_neg b5]
  by_cases hh : hid (Ra 324) t (H * W) p
  · rw [y1 hh, d3 hh, Option.bind_some, Option.bind_some, if_neg (by decide), asn9.2, Option.bind_some, if_pos rfl]
    exact ⟨0, rfl, by split <;> rfl⟩
  · rw [y2 hh, d4 hh, Option.bind_some, Option.bind_some, if_neg Bool.false_ne_true]
    have hwhy : why (Ra 324) W t p = 0 ↔ own (Ra 324) W t p := by
      unfold why own
      by_cases g1 : Ra 324 (90 + kS W (t (p / 2)) p) < 0
      · rw [if_pos g1]
        exact ⟨fun h => by omega, fun h => by omega⟩
      · rw [if_neg g1]
        by_cases g2 : Ra 324 (90 + kS W (t (p / 2)) p) = (p : Int)
        · rw [if_pos g2]
          by_cases g3 : Ra 324 (122 + kS W (t (p / 2)) p) = (tU (Ra 324) (t (p / 2)) p : Int)
          · rw [if_pos g3]; exact ⟨fun _ => ⟨g2, g3⟩, fun _ => rfl⟩
          · rw [if_neg g3]; exact ⟨fun h => by omega, fun h => absurd h.2 g3⟩
        · rw [if_neg g2]; exact ⟨fun h => by omega, fun h => absurd h.1 g2⟩
    by_cases ho : own (Ra 324) W t p
    · rw [if_pos (hwhy.mpr ho), asn9.1, o1 ho, Option.bind_some, Option.bind_some, if_pos rfl]
      exact ⟨1, rfl, by split <;> rfl⟩
    · rw [if_neg (fun h => ho (hwhy.mp h)), asn9.2, o2 ho, Option.bind_some, Option.bind_some, if_neg Bool.false_ne_true]
      exact ⟨0, rfl, by split <;> rfl⟩
theorem o_page {a b : Int} : opM Inv (f_X9_page 0 a b) (f_X10_page 323 a b) := by
  intro R hI
  obtain ⟨H, W, g, w, r⟩ := hI.1.1
  obtain ⟨hB, hs⟩ := nb_of w r
  have h11 := w.2.2.2.2.2.2.2.2.2.2.2.1
  have hL : 1 ≤ (R 324 11).toNat ∧ (R 324 11).toNat ≤ 9 := by omega
  have hLL : R 324 11 = (((R 324 11).toNat : Nat) : Int) := by omega
  have q9 : f_X3_isBooklet 6 R = some (decide (g.1 = 1 ∧ g.2.1 = 1)) := isb9 r.2.2.2.1
  unfold f_X9_page
  rw [show 0 + 6 = 6 from rfl, q9, Option.bind_some]
  by_cases hbk : g.1 = 1 ∧ g.2.1 = 1
  · have hLB := lb_of w.gw r.2.2.2.1 hbk
    have hD := hLB.1.1
    have e1 : Qe (w4 (w4 (((H * W : Nat) : Int) * 2) - 1)) (2 * ((H * W : Nat) : Int) - 1) := by unfold Qe; rw [w4_of (x := ((H * W : Nat) : Int) * 2) (by omega), w4_of (by omega)]; omega
    have e2 : Qe (w4 (w4 (2 * ((H * W : Nat) : Int)) - 1)) (2 * ((H * W : Nat) : Int) - 1) := by unfold Qe; rw [w4_of (x := 2 * ((H * W : Nat) : Int)) (by omega), w4_of (by omega)]
    have hlp : f_X3_lastPage 6 R = some (2 * ((H * W : Nat) : Int) - 1) := by
      unfold f_X3_lastPage
      rw [hLB.1.2.2, Option.bind_some, e1.eq]
    rw [if_pos (decide_eq_true hbk), hlp, Option.bind_some, in9, Option.bind_some]
    by_cases ha : 0 ≤ a ∧ a ≤ 2 * ((H * W : Nat) : Int) - 1
    · obtain ⟨p, rfl⟩ := Int.eq_ofNat_of_zero_le ha.1
      have hp : p < 2 * (H * W) := by omega
      rw [if_pos (decide_eq_true ha)]
      by_cases b7 : b = 7
      · obtain ⟨R1, a1, a2, a3, a4, v, Ra, R2, K, b1, b2, b3, b4, b5, b6, b8, b9, b10⟩ := lay_all w r hbk
        obtain ⟨x, x1, x2⟩ := taken_eq (pg := (p : Int)) b10 (hB.k a4) hs hL b8 hLL b6
        have hk := kS_lt b4 hp
        have e90 : Qe (w4 (90 + (kS W (g.2.2.2 (p / 2)) p : Int))) ((90 + kS W (g.2.2.2 (p / 2)) p : Nat) : Int) := by unfold Qe; rw [w4_of (by omega)]; omega
        have g90 : (0 : Int) ≤ ((90 + kS W (g.2.2.2 (p / 2)) p : Nat) : Int) ∧ ((90 + kS W (g.2.2.2 (p / 2)) p : Nat) : Int) < 464 := by omega
        refine ⟨x, R1, R2, ?_, ?_, hI.sc (a2.trans b9)⟩
        · rw [if_neg (by omega), if_neg (by omega), if_neg (by omega), if_neg (by omega), if_neg (by omega), if_neg (by omega), if_neg (by omega), if_pos b7, show 0 + 314 = 314 from rfl, show 0 + 2 = 2 from rfl, show 0 + 13 = 13 from rfl, a1, Option.bind_some, x1, Option.bind_some]
        · unfold f_X10_page
          rw [b1, Option.bind_some, if_pos (show v.1 = true by rw [b2]; exact decide_eq_true hbk), b3, b4.2.2.2.1, e2.eq, in10, Option.bind_some, if_pos (decide_eq_true ha), in10, Option.bind_some, if_pos (decide_eq_true (by omega)), so10 b4 hp, Option.bind_some, e90.eq, if_pos g90, tnc, x2, Option.bind_some]
          rw [if_neg (show ¬ b = 0 by omega), if_neg (show ¬ b = 1 by omega), if_neg (show ¬ b = 2 by omega), if_neg (show ¬ b = 3 by omega), if_neg (show ¬ b = 4 by omega), if_neg (show ¬ b = 5 by omega), if_neg (show ¬ b = 6 by omega)]
          rw [if_neg (show ¬ b = 0 by omega), if_neg (show ¬ b = 1 by omega), if_neg (show ¬ b = 2 by omega), if_neg (show ¬ b = 3 by omega), if_neg (show ¬ b = 4 by omega)]
          split <;> rfl
      · obtain ⟨v, Ra, b1, b2, b3, b4, b5, b6⟩ := bkM rfl w
        have hM := b6 hbk
        have hk := kS_lt hM hp
        have e90 : Qe (w4 (90 + (kS W (g.2.2.2 (p / 2)) p : Int))) ((90 + kS W (g.2.2.2 (p / 2)) p : Nat) : Int) := by unfold Qe; rw [w4_of (by omega)]; omega
        have g90 : (0 : Int) ≤ ((90 + kS W (g.2.2.2 (p / 2)) p : Nat) : Int) ∧ ((90 + kS W (g.2.2.2 (p / 2)) p : Nat) : Int) < 464 := by omega
        by_cases hb : 0 ≤ b ∧ b ≤ 6
        · obtain ⟨x, x1, x2⟩ := pgw (b := b) r.2.2.2.2.1 r.2.2.2.2.2.1 w.2.2.2.2.2.2.2.2.1 w.2.2.2.2.2.2.2.1 (pr_of w r) hLB hM b5 hp hb
          refine ⟨x, R, Ra, ?_, ?_, hI.sc b4.sc⟩
          · rw [← x1, show 0 + 2 = 2 from rfl]
            by_cases c6 : b = 6
            · rw [if_neg (show ¬ b = 0 by omega), if_neg (show ¬ b = 1 by omega), if_neg (show ¬ b = 2 by omega), if_neg (show ¬ b = 3 by omega), if_neg (show ¬ b = 4 by omega), if_neg (show ¬ b = 5 by omega), if_pos c6, if_neg (show ¬ b = 0 by omega), if_neg (show ¬ b = 1 by omega), if_neg (show ¬ b = 2 by omega), if_neg (show ¬ b = 3 by omega), if_neg (show ¬ b = 4 by omega), if_neg (show ¬ b = 5 by omega)]
            · by_cases q0 : b = 0
              · rw [if_pos q0, if_pos q0]
              rw [if_neg q0, if_neg q0]
              by_cases q1 : b = 1
              · rw [if_pos q1, if_pos q1]
              rw [if_neg q1, if_neg q1]
              by_cases q2 : b = 2
              · rw [if_pos q2, if_pos q2]
              rw [if_neg q2, if_neg q2]
              by_cases q3 : b = 3
              · rw [if_pos q3, if_pos q3]
              rw [if_neg q3, if_neg q3]
              by_cases q4 : b = 4
              · rw [if_pos q4, if_pos q4]
              rw [if_neg q4, if_neg q4]
              rw [if_pos (show b = 5 by omega), if_pos (show b = 5 by omega)]
          · unfold f_X10_page
            rw [b1, Option.bind_some, if_pos (show v.1 = true by rw [b2]; exact decide_eq_true hbk), b3, hM.2.2.2.1, e2.eq, in10, Option.bind_some, if_pos (decide_eq_true ha), in10, Option.bind_some, if_pos (decide_eq_true (by omega)), so10 hM hp, Option.bind_some, e90.eq, if_pos g90, tnc, ← x2]
            rw [if_pos g90, show 323 + 1 = 324 from rfl]
            by_cases q0 : b = 0
            · rw [if_pos q0, if_pos q0, if_pos q0, if_pos q0]
            rw [if_neg q0, if_neg q0, if_neg q0, if_neg q0]
            by_cases q1 : b = 1
            · rw [if_pos q1, if_pos q1, if_pos q1, if_pos q1]
            rw [if_neg q1, if_neg q1, if_neg q1, if_neg q1]
            by_cases q2 : b = 2
            · rw [if_pos q2, if_pos q2, if_pos q2, if_pos q2]
            rw [if_neg q2, if_neg q2, if_neg q2, if_neg q2]
            by_cases q3 : b = 3
            · rw [if_pos q3, if_pos q3, if_pos q3, if_pos q3]
            rw [if_neg q3, if_neg q3, if_neg q3, if_neg q3]
            by_cases q4 : b = 4
            · rw [if_pos q4, if_pos q4, if_pos q4, if_pos q4]
            rw [if_neg q4, if_neg q4, if_neg q4, if_neg q4]
            by_cases q5 : b = 5
            · rw [if_pos q5, if_pos q5]
            rw [if_neg q5, if_neg q5, if_pos (show b = 6 by omega)]
        · refine ⟨-1, R, Ra, ?_, ?_, hI.sc b4.sc⟩
          · rw [if_neg (by omega), if_neg (by omega), if_neg (by omega), if_neg (by omega), if_neg (by omega), if_neg (by omega), if_neg (by omega), if_neg b7]
          · unfold f_X10_page
            rw [b1, Option.bind_some, if_pos (show v.1 = true by rw [b2]; exact decide_eq_true hbk), b3, hM.2.2.2.1, e2.eq, in10, Option.bind_some, if_pos (decide_eq_true ha), in10, Option.bind_some, if_neg (by rw [decide_eq_false (by omega)]; decide)]
    · obtain ⟨v, Ra, b1, b2, b3, b4, b5, b6⟩ := bkM rfl w
      refine ⟨-1, R, Ra, ?_, ?_, hI.sc b4.sc⟩
      · rw [if_neg (by rw [decide_eq_false ha]; decide)]
      · unfold f_X10_page
        rw [b1, Option.bind_some, if_pos (show v.1 = true by rw [b2]; exact decide_eq_true hbk), b3, (b6 hbk).2.2.2.1, e2.eq, in10, Option.bind_some, if_neg (by rw [decide_eq_false ha]; decide)]
  · obtain ⟨v, Ra, b1, b2, b3, b4, b5, b6⟩ := bkM rfl w
    refine ⟨-2, R, Ra, by rw [if_neg (by rw [decide_eq_false hbk]; decide)], ?_, hI.sc b4.sc⟩
    unfold f_X10_page
    rw [b1, Option.bind_some, if_neg (by rw [b2, decide_eq_false hbk]; decide), b3]
