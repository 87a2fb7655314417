/-! Looking: hanging, together, reading, pageOf; a cut. -/
theorem bk_prs {H W e : Nat} {s : Nat → Int} {g : gG} (w : SW s H W g) (hb : g.1 = 1 ∧ g.2.1 = 1) (he : e < 4) : pcS H W g.2.2.2 e = pmI g.2.2.2 e (H * W) 0 (H * W) 0 := by
  have h := bk_all prP_all w.1 w.2.1 w.2.2.2.2.2.2.1 (by rw [gfs_len]; have := w.2.2.2.2.1; omega) hb
  unfold prP at h
  simp only [Bool.and_eq_true, List.all_eq_true, beq_iff_eq] at h
  exact h.1.1 e (List.mem_range.mpr he)
theorem o_hang {a : Int} : opN Inv (f_X9_hanging 0 a) (f_X10_hanging 323 a) := by
  intro R hI
  obtain ⟨H, W, g, Ra, w, r, hIa, hr, q9, q10, -, hbk⟩ := bk_look hI
  unfold f_X9_hanging f_X10_hanging
  obtain ⟨vb, hv, hv1, hv2⟩ := q10
  rw [show 0 + 6 = 6 from rfl, q9, hv, Option.bind_some, Option.bind_some, hv1, hv2]
  by_cases hb : g.1 = 1 ∧ g.2.1 = 1
  · obtain ⟨L9, L10, h1⟩ := hbk hb
    rw [if_pos (decide_eq_true hb), if_pos (decide_eq_true hb), in9, in10, Option.bind_some, Option.bind_some]
    by_cases ha : 0 ≤ a ∧ a ≤ 3
    · obtain ⟨e, rfl⟩ := Int.eq_ofNat_of_zero_le ha.1
      have he : e < 4 := by omega
      have r4 : LRg R 6 H W g (gfn 0 (gfs (R 324))) := r.2.2.2.1
      rw [if_pos (decide_eq_true ha), if_pos (decide_eq_true ha), show 323 + 1 = 324 from rfl, hr, show R (0 + 2) 6 = R 324 8 from r.2.2.2.2.2.1]
      by_cases hc : hasb (R 324 8) (e : Int)
      · rw [inset9 hc, has10 hc, Option.bind_some, Option.bind_some, if_pos rfl, if_pos rfl]
        exact ⟨0, Ra, rfl, rfl, hIa⟩
      · rw [inset9n hc, has10n hc, Option.bind_some, Option.bind_some, if_neg (by decide), if_neg (by decide), prs9 L9.1 r4.1 r4.2.1, prs10 L10, bk_prs w hb he]
        exact ⟨_, Ra, rfl, rfl, hIa⟩
    · rw [decide_eq_false ha, if_neg (by decide), if_neg (by decide)]
      exact ⟨_, Ra, rfl, rfl, hIa⟩
  · rw [decide_eq_false hb, if_neg (by decide), if_neg (by decide)]
    exact ⟨_, Ra, rfl, rfl, hIa⟩
theorem tog_num : ∀ e : Nat, e < 5 → ∀ cu : Nat, cu < 16 → b4and (bitOf e : Int) (b4xor (cu : Int) (-1)) = (if (e : Int) - 1 < 0 then 0 else if b4and (b4shr (cu : Int) ((e : Int) - 1)) 1 = 1 then 0 else b4shl 1 ((e : Int) - 1)) := by decide +kernel
theorem o_tog {a b : Int} : opN Inv (f_X9_together 0 a b) (f_X10_together 323 a b) := by
  intro R hI
  obtain ⟨H, W, g, Ra, w, r, hIa, hr, q9, q10, -, hbk⟩ := bk_look hI
  unfold f_X9_together f_X10_together
  obtain ⟨vb, hv, hv1, hv2⟩ := q10
  rw [show 0 + 6 = 6 from rfl, q9, hv, Option.bind_some, Option.bind_some, hv1, hv2]
  by_cases hb : g.1 = 1 ∧ g.2.1 = 1
  · obtain ⟨L9, L10, h1⟩ := hbk hb
    have hD := L10.1
    have h8 := w.2.2.2.2.2.2.2.2.1
    have e0 : Qe (w4 (((H * W : Nat) : Int) - 1)) (((H * W : Nat) : Int) - 1) := by unfold Qe; rw [w4_of (by omega)]
    rw [if_pos (decide_eq_true hb), if_pos (decide_eq_true hb), L9.1.2.2, Option.bind_some, xlet_eq, e0.eq, in9, Option.bind_some, L10.2.2.2.1, e0.eq, in10, Option.bind_some]
    by_cases ha : 0 ≤ a ∧ a ≤ ((H * W : Nat) : Int) - 1
    · rw [if_pos (decide_eq_true ha), if_pos (decide_eq_true ha), in9, Option.bind_some, in10, Option.bind_some]
      by_cases hc : 0 ≤ b ∧ b ≤ ((H * W : Nat) : Int) - 1
      · rw [if_pos (decide_eq_true hc), if_pos (decide_eq_true hc)]
        by_cases hab : a = b
        · rw [if_pos hab, if_pos hab]
          exact ⟨_, Ra, rfl, rfl, hIa⟩
        · obtain ⟨i, rfl⟩ := Int.eq_ofNat_of_zero_le ha.1
          obtain ⟨j, rfl⟩ := Int.eq_ofNat_of_zero_le hc.1
          obtain ⟨t1, t2⟩ := L9.1.2.1 i (by omega)
          obtain ⟨t3, t4⟩ := L9.1.2.1 j (by omega)
          have hcu : ((R 324 8).toNat : Int) = R 324 8 := by omega
          have hlt : (R 324 8).toNat < 16 := by omega
          rw [if_neg hab, if_neg hab, eb_eq (by omega) (by omega) t2 t4 t1 t3, Option.bind_some, eo_at L10 (by omega) (by omega), Option.bind_some, show 323 + 1 = 324 from rfl, hr, show R (0 + 2) 6 = R 324 8 from r.2.2.2.2.2.1]
          have hm := tog_num (eC (g.2.2.2 i) (g.2.2.2 j)) (eC_lt _ _) (R 324 8).toNat hlt
          rw [hcu] at hm
          rw [show eB (g.2.2.2 i) (g.2.2.2 j) = bitOf (eC (g.2.2.2 i) (g.2.2.2 j)) from rfl, hm]
          clear hm
          generalize eC (g.2.2.2 i) (g.2.2.2 j) = e
          by_cases c1 : (e : Int) - 1 < 0
          · rw [if_pos c1, if_pos c1]
            exact ⟨_, Ra, rfl, rfl, hIa⟩
          · rw [if_neg c1, if_neg c1]
            by_cases c2 : b4and (b4shr (R 324 8) ((e : Int) - 1)) 1 = 1
            · rw [if_pos c2, has10 c2, Option.bind_some, xlet_eq, if_pos rfl]
              exact ⟨_, Ra, rfl, rfl, hIa⟩
            · rw [if_neg c2, has10n c2, Option.bind_some, xlet_eq, if_neg (by decide)]
              exact ⟨_, Ra, rfl, rfl, hIa⟩
      · rw [decide_eq_false hc, if_neg (by decide), if_neg (by decide)]
        exact ⟨_, Ra, rfl, rfl, hIa⟩
    · rw [decide_eq_false ha, if_neg (by decide), if_neg (by decide)]
      exact ⟨_, Ra, rfl, rfl, hIa⟩
  · rw [decide_eq_false hb, if_neg (by decide), if_neg (by decide)]
    exact ⟨_, Ra, rfl, rfl, hIa⟩
theorem lastp {R : xN} {b D : Nat} {t : Nat → Nat} (h : LC R b D t) : f_X3_lastPage b R = some (2 * (D : Int) - 1) := by
  have hD := h.1
  unfold f_X3_lastPage
  rw [h.2.2, Option.bind_some, w4_of (x := (D : Int) * 2) (by omega), w4_of (by omega), Int.mul_comm]
theorem pof_lp {R Ra : xN} {D : Nat} {u : Int} {F : Nat → Int} (hD : D ≤ 16) (hu : 0 ≤ u) (h9 : ∀ p : Nat, p < 2 * D → f_X0_numberOn 2 6 (p : Int) R = some (nine (F p))) (h10 : ∀ p : Nat, p < 2 * D → f_X10_printedOn 323 (p : Int) Ra = some (F p)) (hd : Ra 323 9 = (D : Int)) : ∀ (n c p : Nat), c < n → p + c = 2 * D → ∃ v : Int, lp_X9_pageOf_44 0 u (2 * (D : Int) - 1) R n (p : Int) (fun z10 => some (-9)) = some v ∧ lp_X10_pageOf_26 323 u Ra n (p : Int) (fun z9 => some (-9, Ra)) = some (v, Ra) := by
  intro n
  induction n with
  | zero => intro c p h; omega
  | succ n ih =>
    intro c p h1 h2
    have e0 : Qe (w4 (2 * (D : Int))) (2 * (D : Int)) := by unfold Qe; rw [w4_of (by omega)]
    have e5 : Qe (w4 ((p : Int) + 1)) ((p + 1 : Nat) : Int) := by unfold Qe; rw [w4_of (by omega)]; omega
    rw [lp_X9_pageOf_44, lp_X10_pageOf_26, hd, e0.eq]
    cases c with
    | zero =>
      rw [if_pos (by omega), if_pos (by omega)]
      exact ⟨-9, rfl, rfl⟩
    | succ c =>
      rw [if_neg (by omega), if_neg (by omega), show 0 + 2 = 2 from rfl, show 0 + 6 = 6 from rfl, h9 p (by omega), h10 p (by omega), Option.bind_some, Option.bind_some]
      by_cases hv : F p = u
      · have : nine (F p) = u := by unfold nine; rw [if_neg (by omega), hv]
        rw [if_pos this, if_pos hv]
        exact ⟨_, rfl, rfl⟩
      · have : ¬ nine (F p) = u := by unfold nine; split <;> omega
        rw [if_neg this, if_neg hv, xlet_eq, xlet_eq, e5.eq]
        exact ih c (p + 1) (by omega) (by omega)
theorem o_pof {a : Int} : opN Inv (f_X9_pageOf 0 a) (f_X10_pageOf 323 a) := by
  intro R hI
  obtain ⟨H, W, g, Ra, w, r, hIa, hr, q9, q10, -, hbk⟩ := bk_look hI
  unfold f_X9_pageOf f_X10_pageOf
  obtain ⟨vb, hv, hv1, hv2⟩ := q10
  rw [show 0 + 6 = 6 from rfl, q9, hv, Option.bind_some, Option.bind_some, hv1, hv2]
  by_cases hb : g.1 = 1 ∧ g.2.1 = 1
  · obtain ⟨L9, L10, h1⟩ := hbk hb
    have hP := pr_of w r
    rw [if_pos (decide_eq_true hb), if_pos (decide_eq_true hb), in9, in10, Option.bind_some, Option.bind_some]
    by_cases ha : 0 ≤ a ∧ a ≤ 31
    · rw [if_pos (decide_eq_true ha), if_pos (decide_eq_true ha), lastp L9.1, Option.bind_some]
      have hD := L10.1
      obtain ⟨v, v1, v2⟩ := pof_lp (R := R) (Ra := Ra) (D := H * W) (u := a) (F := fun p => R 324 (90 + kS W (g.2.2.2 (p / 2)) p)) L10.1 ha.1 (fun p hp => num9 hP L9 hp) (fun p hp => by rw [pr10 L10 hp, hr]) L10.2.2.2.1 6000 (2 * (H * W)) 0 (by omega) (by omega)
      exact ⟨v, Ra, v1, v2, hIa⟩
    · rw [decide_eq_false ha, if_neg (by decide), if_neg (by decide)]
      exact ⟨_, Ra, rfl, rfl, hIa⟩
  · rw [decide_eq_false hb, if_neg (by decide), if_neg (by decide)]
    exact ⟨_, Ra, rfl, rfl, hIa⟩
/-- reading, class and model -/
theorem rdg_lp {R Ra : xN} {D : Nat} {u : Int} {G : Nat → Int} {hd : Nat → Prop} (hD : D ≤ 16)
    (h1 : ∀ p : Nat, p < 2 * D → (hd p → f_X0_whyNotRead 2 (p : Int) R = some 1) ∧ (¬ hd p → f_X0_whyNotRead 2 (p : Int) R = some (G p)))
    (h2 : ∀ p : Nat, p < 2 * D → (hd p → f_X10_isHidden 323 (p : Int) Ra = some true) ∧ (¬ hd p → f_X10_isHidden 323 (p : Int) Ra = some false))
    (h4 : ∀ p : Nat, p < 2 * D → (G p = 0 → f_X10_isItsOwn 323 (p : Int) Ra = some true) ∧ (¬ G p = 0 → f_X10_isItsOwn 323 (p : Int) Ra = some false)) (h9 : Ra 323 9 = (D : Int)) :
    ∀ (n c p : Nat), c < n → p + c = 2 * D → ∃ k : Nat, (∀ X : Int → Option (Int × xN), lp_X10_reading_26 323 u Ra n (p : Int) X = X (k : Int)) ∧ ((k = 2 * D ∧ ∀ X : Int → Option Int, lp_X9_reading_43 0 u (2 * (D : Int) - 1) R n (p : Int) X = X (k : Int)) ∨ (k < 2 * D ∧ hd k ∧ ∀ X : Int → Option Int, lp_X9_reading_43 0 u (2 * (D : Int) - 1) R n (p : Int) X = some (if u = 2 then 1 else (k : Int))) ∨ (k < 2 * D ∧ ¬ hd k ∧ ¬ G k = 0 ∧ ∀ X : Int → Option Int, lp_X9_reading_43 0 u (2 * (D : Int) - 1) R n (p : Int) X = some (if u = 2 then G k else (k : Int)))) := by
  have e0 : Qe (w4 (2 * (D : Int))) (2 * (D : Int)) := by unfold Qe; rw [w4_of (by omega)]
  intro n
  induction n with
  | zero => intro c p h; omega
  | succ n ih =>
    intro c p g1 g2
    have e5 : Qe (w4 ((p : Int) + 1)) ((p + 1 : Nat) : Int) := by unfold Qe; rw [w4_of (by omega)]; omega
    cases c with
    | zero =>
      refine ⟨p, fun X => ?_, Or.inl ⟨by omega, fun X => ?_⟩⟩
      · rw [lp_X10_reading_26, h9, e0.eq, if_pos (by omega)]
      · rw [lp_X9_reading_43, if_pos (by omega)]
    | succ c =>
      have hp : p < 2 * D := by omega
      by_cases hh : hd p
      · refine ⟨p, fun X => ?_, Or.inr (Or.inl ⟨hp, hh, fun X => ?_⟩)⟩
        · rw [lp_X10_reading_26, h9, e0.eq, if_neg (by omega), (h2 p hp).1 hh, Option.bind_some, if_pos rfl]
        · rw [lp_X9_reading_43, if_neg (by omega), show 0 + 2 = 2 from rfl, (h1 p hp).1 hh, Option.bind_some, if_neg (by decide), xlet_eq]
      · by_cases hG : G p = 0
        · obtain ⟨k, k1, k2⟩ := ih c (p + 1) (by omega) (by omega)
          have s9 : ∀ X : Int → Option Int, lp_X9_reading_43 0 u (2 * (D : Int) - 1) R (n + 1) (p : Int) X = lp_X9_reading_43 0 u (2 * (D : Int) - 1) R n ((p + 1 : Nat) : Int) X := fun X => by
            rw [lp_X9_reading_43, if_neg (by omega), show 0 + 2 = 2 from rfl, (h1 p hp).2 hh, Option.bind_some, if_pos hG, xlet_eq, e5.eq]
          refine ⟨k, fun X => ?_, ?_⟩
          · rw [lp_X10_reading_26, h9, e0.eq, if_neg (by omega), (h2 p hp).2 hh, Option.bind_some, if_neg (by decide), (h4 p hp).1 hG, Option.bind_some, if_pos rfl, xlet_eq, e5.eq]
            exact k1 X
          · rcases k2 with ⟨a, b⟩ | ⟨a, b, c⟩ | ⟨a, b, c, d⟩
            · exact Or.inl ⟨a, fun X => (s9 X).trans (b X)⟩
            · exact Or.inr (Or.inl ⟨a, b, fun X => (s9 X).trans (c X)⟩)
            · exact Or.inr (Or.inr ⟨a, b, c, fun X => (s9 X).trans (d X)⟩)
        · refine ⟨p, fun X => ?_, Or.inr (Or.inr ⟨hp, hh, hG, fun X => ?_⟩)⟩
          · rw [lp_X10_reading_26, h9, e0.eq, if_neg (by omega), (h2 p hp).2 hh, Option.bind_some, if_neg (by decide), (h4 p hp).2 hG, Option.bind_some, if_neg (by decide)]
          · rw [lp_X9_reading_43, if_neg (by omega), show 0 + 2 = 2 from rfl, (h1 p hp).2 hh, Option.bind_some, if_neg hG, xlet_eq]
theorem why_0 {s : Nat → Int} {W p : Nat} {t : Nat → Nat} : why s W t p = 0 ↔ own s W t p := by
  unfold why own
  by_cases c1 : s (90 + kS W (t (p / 2)) p) < 0
  · rw [if_pos c1]
    exact ⟨fun h => absurd h (by decide), fun h => by omega⟩
  · rw [if_neg c1]
    by_cases c2 : s (90 + kS W (t (p / 2)) p) = (p : Int)
    · rw [if_pos c2]
      by_cases c3 : s (122 + kS W (t (p / 2)) p) = (tU s (t (p / 2)) p : Int)
      · rw [if_pos c3]; exact ⟨fun _ => ⟨c2, c3⟩, fun _ => rfl⟩
      · rw [if_neg c3]; exact ⟨fun h => absurd h (by decide), fun h => absurd h.2 c3⟩
    · rw [if_neg c2]
      exact ⟨fun h => absurd h (by decide), fun h => absurd h.1 c2⟩
theorem why_sh {s : Nat → Int} {W p : Nat} {t : Nat → Nat} : why s W t p = if s (90 + kS W (t (p / 2)) p) < 0 then 2 else if s (90 + kS W (t (p / 2)) p) = (p : Int) then (if why s W t p = 0 then 0 else 4) else 3 := by
  by_cases c1 : s (90 + kS W (t (p / 2)) p) < 0
  · rw [if_pos c1]; unfold why; rw [if_pos c1]
  · rw [if_neg c1]
    by_cases c2 : s (90 + kS W (t (p / 2)) p) = (p : Int)
    · rw [if_pos c2]
      unfold why
      rw [if_neg c1, if_pos c2]
      by_cases c3 : s (122 + kS W (t (p / 2)) p) = (tU s (t (p / 2)) p : Int)
      · rw [if_pos c3]; rfl
      · rw [if_neg c3]; rfl
    · rw [if_neg c2]; unfold why; rw [if_neg c1, if_neg c2]
theorem o_rdg {a : Int} : opN Inv (f_X9_reading 0 a) (f_X10_reading 323 a) := by
  intro R hI
  obtain ⟨H, W, g, Ra, w, r, hIa, hr, q9, q10, -, hbk⟩ := bk_look hI
  unfold f_X9_reading f_X10_reading
  obtain ⟨vb, hv, hv1, hv2⟩ := q10
  rw [show 0 + 6 = 6 from rfl, q9, hv, Option.bind_some, Option.bind_some, hv1, hv2]
  by_cases hb : g.1 = 1 ∧ g.2.1 = 1
  · obtain ⟨L9, L10, h1⟩ := hbk hb
    have hP := pr_of w r
    have h8 := w.2.2.2.2.2.2.2.2.1
    have h7 := w.2.2.2.2.2.2.2.1
    rw [if_pos (decide_eq_true hb), if_pos (decide_eq_true hb), in9, in10, Option.bind_some, Option.bind_some]
    by_cases ha : 0 ≤ a ∧ a ≤ 2
    · rw [if_pos (decide_eq_true ha), if_pos (decide_eq_true ha), lastp L9.1, Option.bind_some]
      have hD := L10.1
      have H2 : ∀ p : Nat, p < 2 * (H * W) → (hid (R 324) g.2.2.2 (H * W) p → f_X10_isHidden 323 (p : Int) Ra = some true) ∧ (¬ hid (R 324) g.2.2.2 (H * W) p → f_X10_isHidden 323 (p : Int) Ra = some false) := fun p hp => by
        have := hid10 L10 hp (by rw [hr]; exact h7) (by rw [hr]; exact h8)
        rw [hr] at this
        exact this
      obtain ⟨k, v1, v2⟩ := rdg_lp (R := R) (Ra := Ra) (D := H * W) (u := a) (G := fun p => why (R 324) W g.2.2.2 p) (hd := fun p => hid (R 324) g.2.2.2 (H * W) p) L10.1 (fun p hp => why9 hP L9 hp r.2.2.2.2.2.1 h8) H2 (fun p hp => by
          have := own10 L10 hp
          rw [hr] at this
          exact ⟨fun h => this.1 (why_0.mp h), fun h => this.2 (fun h' => h (why_0.mpr h'))⟩) L10.2.2.2.1 6000 (2 * (H * W)) 0 (by omega) (by omega)
      rw [z0] at v1 v2
      have e0 : Qe (w4 (2 * ((H * W : Nat) : Int))) (2 * ((H * W : Nat) : Int)) := by unfold Qe; rw [w4_of (by omega)]
      have e1 : Qe (w4 (2 * ((H * W : Nat) : Int) - 1 + 1)) (2 * ((H * W : Nat) : Int)) := by unfold Qe; rw [w4_of (by omega)]; omega
      rw [v1, L10.2.2.2.1, e0.eq, e1.eq]
      rcases v2 with ⟨c1, c2⟩ | ⟨c1, c2, c3⟩ | ⟨c1, c2, c3, c4⟩
      · rw [c2, xlet_eq]
        by_cases u0 : a = 0
        · rw [if_pos u0, if_pos u0]
          exact ⟨_, Ra, rfl, by rw [c1]; rfl, hIa⟩
        · rw [if_neg u0, if_neg u0, if_pos (by omega)]
          exact ⟨_, Ra, rfl, rfl, hIa⟩
      · rw [c3, (H2 k c1).1 c2]
        by_cases u0 : a = 0
        · rw [if_pos u0, if_neg (show ¬ a = 2 by omega)]
          exact ⟨_, Ra, rfl, rfl, hIa⟩
        · rw [if_neg u0, if_neg (show ¬ (k : Int) = 2 * ((H * W : Nat) : Int) by omega)]
          by_cases u1 : a = 1
          · rw [if_pos u1, if_neg (show ¬ a = 2 by omega)]
            exact ⟨_, Ra, rfl, rfl, hIa⟩
          · rw [if_neg u1, if_pos (show a = 2 by omega), Option.bind_some, if_pos rfl]
            exact ⟨_, Ra, rfl, rfl, hIa⟩
      · have q := pr10 L10 c1
        rw [hr] at q
        rw [c4, (H2 k c1).2 c2, q]
        by_cases u0 : a = 0
        · rw [if_pos u0, if_neg (show ¬ a = 2 by omega)]
          exact ⟨_, Ra, rfl, rfl, hIa⟩
        · rw [if_neg u0, if_neg (show ¬ (k : Int) = 2 * ((H * W : Nat) : Int) by omega)]
          by_cases u1 : a = 1
          · rw [if_pos u1, if_neg (show ¬ a = 2 by omega)]
            exact ⟨_, Ra, rfl, rfl, hIa⟩
          · rw [if_neg u1, if_pos (show a = 2 by omega), Option.bind_some, if_neg (by decide), Option.bind_some, Option.bind_some, xlet_eq]
            have c3' : ¬ why (R 324) W g.2.2.2 k = 0 := c3
            have hs := why_sh (s := R 324) (W := W) (t := g.2.2.2) (p := k)
            rw [if_neg c3'] at hs
            rw [hs]
            by_cases f0 : R 324 (90 + kS W (g.2.2.2 (k / 2)) k) < 0
            · rw [if_pos f0, if_neg (by omega)]
              exact ⟨_, Ra, rfl, rfl, hIa⟩
            · rw [if_neg f0, if_pos (show 0 ≤ R 324 (90 + kS W (g.2.2.2 (k / 2)) k) by omega)]
              exact ⟨_, Ra, rfl, rfl, hIa⟩
    · rw [decide_eq_false ha, if_neg (by decide), if_neg (by decide)]
      exact ⟨_, Ra, rfl, rfl, hIa⟩
  · rw [decide_eq_false hb, if_neg (by decide), if_neg (by decide)]
    exact ⟨_, Ra, rfl, rfl, hIa⟩
