/-! Cuts: at the edges that are told; then at all. -/
/-- a printed and folded sheet, whatever is cut or stapled -/
def BK (s : Nat → Int) (H W : Nat) (g : gG) : Prop := s 0 = (H : Int) ∧ s 1 = (W : Int) ∧ gall (gfs s) (gg0 H W) = some g ∧ (0 ≤ s 2 ∧ s 2 ≤ 4) ∧ ∀ p : Nat, p < 2 * (H * W) → own s W g.2.2.2 p
theorem BK.mv {s s' : Nat → Int} {H W : Nat} {g : gG} (b : BK s H W g) (hw : GWg H W g) (e : ∀ j : Nat, j ≤ 7 ∨ (90 ≤ j ∧ j < 154) → s' j = s j) : BK s' H W g := by
  obtain ⟨b0, b1, b2, b3, b4⟩ := b
  refine ⟨by rw [e 0 (by omega)]; exact b0, by rw [e 1 (by omega)]; exact b1, ?_, by rw [e 2 (by omega)]; exact b3, fun p hp => ?_⟩
  · rw [gfs_sg (e 2 (by omega)) (fun i hi => e (3 + i) (by omega))]
    exact b2
  · have hk := kS_lt2 hw hp
    have h7 := e 7 (by omega)
    have := b4 p hp
    unfold own tU at this ⊢
    rw [e _ (by omega), e _ (by omega), h7]
    exact this
theorem BK.sw {R : xN} {s : Nat → Int} {hs : List (Nat → Int)} {H W : Nat} {g : gG} (b : BK s H W g) (ci : CI R s hs) : SW s H W g := ci.sw b.1 b.2.1 b.2.2.1
def cutS (s : Nat → Int) (e D : Nat) : Nat → Int := u1 (u1 s 8 (b4or (s 8) (b4shl 1 (e : Int)))) 88 (w4 (s 88 + (D : Int)))
theorem cutS_ne {s : Nat → Int} {e D j : Nat} (h8 : j ≠ 8) (h88 : j ≠ 88) : cutS s e D j = s j := by unfold cutS; rw [u1_ne h88, u1_ne h8]
theorem cutS_8 {s : Nat → Int} {e D : Nat} : cutS s e D 8 = b4or (s 8) (b4shl 1 (e : Int)) := by unfold cutS; rw [u1_ne (by decide), u1_eq]
theorem cutS_88 {s : Nat → Int} {e D : Nat} : cutS s e D 88 = w4 (s 88 + (D : Int)) := by unfold cutS; rw [u1_eq]
theorem dep_bk {H W : Nat} {g : gG} (hw : GWg H W g) (hb : g.1 = 1 ∧ g.2.1 = 1) : 2 ^ g.2.2.1 = H * W := (book_iff hw).mpr hb
theorem cut_n {R : xN} {s : Nat → Int} {H W e : Nat} {g : gG} (ci : CI R s []) (b : BK s H W g) (hb : g.1 = 1 ∧ g.2.1 = 1) (he : e < 4) (hc : hasb (s 8) (e : Int)) : ∃ R', f_X9_cut 0 (e : Int) R = some (-2, R') ∧ CI R' s [] := by
  have hgo := gOf_eq (b.sw ci)
  have hs : spCut (e : Int) s = (-2, s) := by
    unfold spCut
    rw [if_pos (by omega), hgo, if_pos hb]
    exact if_pos hc
  obtain ⟨R1, a1, a2, -⟩ := dact8 (f9 := f_X9_cut 0 (e : Int)) d_cut (fun _ => rfl) ci hs
  exact ⟨R1, a1, a2 err2⟩
theorem cut_y {R : xN} {s : Nat → Int} {H W e : Nat} {g : gG} (ci : CI R s []) (b : BK s H W g) (hw : GWg H W g) (hb : g.1 = 1 ∧ g.2.1 = 1) (he : e < 4) (hc : ¬ hasb (s 8) (e : Int)) : ∃ R', f_X9_cut 0 (e : Int) R = some ((pcS H W g.2.2.2 e : Int), R') ∧ CI R' (cutS s e (H * W)) [] := by
  have hgo := gOf_eq (b.sw ci)
  have hs : spCut (e : Int) s = ((pcS H W g.2.2.2 e : Int), cutS s e (H * W)) := by
    unfold spCut
    rw [if_pos (by omega), hgo, if_pos hb, b.1, b.2.1, Int.toNat_natCast, Int.toNat_natCast, Int.toNat_natCast, dep_bk hw hb]
    exact if_neg hc
  obtain ⟨R1, a1, -, a3⟩ := dact8 (f9 := f_X9_cut 0 (e : Int)) d_cut (fun _ => rfl) ci hs
  exact ⟨R1, a1, (a3 (nerr (Int.natCast_nonneg _)) (Nat.zero_le 4)).nil⟩
theorem BK.cut {s : Nat → Int} {H W e D : Nat} {g : gG} (b : BK s H W g) (hw : GWg H W g) : BK (cutS s e D) H W g := b.mv hw (fun j hj => cutS_ne (by omega) (by omega))
/-- pairs along the edges -/
def smE (f : Nat → Nat) : Nat → Nat → Nat → Nat
  | _, 0, acc => acc
  | e, c + 1, acc => smE f (e + 1) c (acc + f e)
theorem sumI_le {f : Nat → Nat} {b : Nat} (hf : ∀ i, f i ≤ b) : ∀ (c lo acc : Nat), sumI f lo c acc ≤ acc + b * c := by
  intro c
  induction c with
  | zero => intro lo acc; exact Nat.le_refl _
  | succ c ih =>
    intro lo acc
    have h1 := ih (lo + 1) (acc + f lo)
    have h2 := hf lo
    show sumI f (lo + 1) c (acc + f lo) ≤ _
    rw [Nat.mul_succ]
    omega
theorem pcS_le {H W e : Nat} {t : Nat → Nat} (hD : H * W ≤ 16) : pcS H W t e ≤ 32 := by
  have := sumI_le (f := pcI H W t e) (b := 2) (fun i => pcI_le) (H * W) 0 0
  unfold pcS
  omega
theorem hang_lp {R : xN} {s : Nat → Int} {H W : Nat} {g : gG} {p1 p2 p3 p4 : Int} (ci : CI R s []) (w : SW s H W g) (hb : g.1 = 1 ∧ g.2.1 = 1) (h8 : ∀ e : Nat, e < 4 → ¬ hasb (s 8) (e : Int)) : ∀ (n c e acc : Nat), c < n → e + c = 4 → acc ≤ 32 * e → ∀ X : Int → Int → Option (Bool × xN), lp_L_isCut_11 0 p1 p2 p3 p4 R n (acc : Int) (e : Int) X = X (smE (pcS H W g.2.2.2) e c acc : Int) 4 := by
  obtain ⟨q9, L9, hP, hD1, hD⟩ := bk9 ci w hb
  intro n
  induction n with
  | zero => intro c e acc h; omega
  | succ n ih =>
    intro c e acc h1 h2 h3 X
    rw [lp_L_isCut_11]
    cases c with
    | zero => rw [if_pos (by omega), show e = 4 from h2]; rfl
    | succ c =>
      have hp := pcS_le (H := H) (W := W) (e := e) (t := g.2.2.2) hD
      have e4 : Qe (w4 ((acc : Int) + (pcS H W g.2.2.2 e : Int))) ((acc + pcS H W g.2.2.2 e : Nat) : Int) := by unfold Qe; rw [w4_of (by omega)]; omega
      have e5 : Qe (w4 ((e : Int) + 1)) ((e + 1 : Nat) : Int) := by unfold Qe; rw [w4_of (by omega)]; omega
      rw [if_neg (by omega), (hang9 ci w hb (by omega)).2 (h8 e (by omega)), Option.bind_some, xlet_eq, xlet_eq, e4.eq, e5.eq]
      exact ih c (e + 1) _ (by omega) (by omega) (by omega) X
theorem cu_y1 : ∀ cu : Nat, cu < 16 → ∀ e : Nat, e < 4 → (¬ cu / 2 ^ e % 2 = 1 ∨ b4and (b4shr (cu : Int) (e : Int)) 1 = 1) := by decide +kernel
theorem cu_y2 : ∀ cu : Nat, cu < 16 → ∀ e : Nat, e < 4 → ¬ b4and (b4shr ((cu % 2 ^ e : Nat) : Int) (e : Int)) 1 = 1 := by decide +kernel
theorem cu_y3 : ∀ cu : Nat, cu < 16 → ∀ e : Nat, e < 4 → (¬ cu / 2 ^ e % 2 = 1 ∨ b4or ((cu % 2 ^ e : Nat) : Int) (b4shl 1 (e : Int)) = ((cu % 2 ^ (e + 1) : Nat) : Int)) := by decide +kernel
theorem cu_y4 : ∀ cu : Nat, cu < 16 → ∀ e : Nat, e < 4 → (¬ cu / 2 ^ e % 2 = 1 ∨ b4and (b4shr ((cu % 2 ^ (e + 1) : Nat) : Int) (e : Int)) 1 = 1) := by decide +kernel
theorem cu_y5 : ∀ cu : Nat, cu < 16 → ∀ e : Nat, e < 4 → (¬ cu / 2 ^ e % 2 = 1 ∨ ones (cu % 2 ^ (e + 1)) = ones (cu % 2 ^ e) + 1) := by decide +kernel
theorem cu_n1 : ∀ cu : Nat, cu < 16 → ∀ e : Nat, e < 4 → (cu / 2 ^ e % 2 = 1 ∨ ¬ b4and (b4shr (cu : Int) (e : Int)) 1 = 1) := by decide +kernel
theorem cu_n2 : ∀ cu : Nat, cu < 16 → ∀ e : Nat, e < 4 → (cu / 2 ^ e % 2 = 1 ∨ cu % 2 ^ (e + 1) = cu % 2 ^ e) := by decide +kernel
theorem cu_num (cu : Nat) (hc : cu < 16) (e : Nat) (he : e < 4) : (cu / 2 ^ e % 2 = 1 → b4and (b4shr (cu : Int) (e : Int)) 1 = 1 ∧ ¬ b4and (b4shr ((cu % 2 ^ e : Nat) : Int) (e : Int)) 1 = 1 ∧ b4or ((cu % 2 ^ e : Nat) : Int) (b4shl 1 (e : Int)) = ((cu % 2 ^ (e + 1) : Nat) : Int) ∧ b4and (b4shr ((cu % 2 ^ (e + 1) : Nat) : Int) (e : Int)) 1 = 1 ∧ ones (cu % 2 ^ (e + 1)) = ones (cu % 2 ^ e) + 1) ∧ (¬ cu / 2 ^ e % 2 = 1 → ¬ b4and (b4shr (cu : Int) (e : Int)) 1 = 1 ∧ cu % 2 ^ (e + 1) = cu % 2 ^ e) :=
  ⟨fun h => ⟨(cu_y1 cu hc e he).elim (fun q => absurd h q) id, cu_y2 cu hc e he, (cu_y3 cu hc e he).elim (fun q => absurd h q) id, (cu_y4 cu hc e he).elim (fun q => absurd h q) id, (cu_y5 cu hc e he).elim (fun q => absurd h q) id⟩, fun h => ⟨(cu_n1 cu hc e he).elim (fun q => absurd q h) id, (cu_n2 cu hc e he).elim (fun q => absurd q h) id⟩⟩
theorem ones4 : ∀ n : Nat, n < 16 → ones n ≤ 4 := by decide +kernel
theorem cut_lp {H W cu : Nat} {g : gG} {p1 p8 : Int} {s0 : Nat → Int} (hw : GWg H W g) (hb : g.1 = 1 ∧ g.2.1 = 1) (hD : H * W ≤ 16) (hcu : cu < 16) (hp : ∀ e, e < 4 → cu / 2 ^ e % 2 ≠ 0 → pcS H W g.2.2.2 e ≠ 0) (b0 : BK s0 H W g) : ∀ (n c e : Nat) (R : xN) (s : Nat → Int), c < n → e + c = 4 → CI R s [] → (∀ j : Nat, j ≠ 8 → j ≠ 88 → s j = s0 j) → s 8 = ((cu % 2 ^ e : Nat) : Int) → s 88 = ((H * W * ones (cu % 2 ^ e) : Nat) : Int) → ∃ (R' : xN) (s' : Nat → Int), (∀ X : Int → Int → xN → Option (Bool × xN), lp_L_isCut_82 0 p1 ((H * W : Nat) : Int) (cu : Int) p8 n 1 (e : Int) R X = X 1 4 R') ∧ CI R' s' [] ∧ (∀ j : Nat, j ≠ 8 → j ≠ 88 → s' j = s0 j) ∧ s' 8 = (cu : Int) ∧ s' 88 = ((H * W * ones cu : Nat) : Int) := by
  intro n
  induction n with
  | zero => intro c e R s h; omega
  | succ n ih =>
    intro c e R s h1 h2 ci hj h8 h88
    cases c with
    | zero =>
      have he : e = 4 := h2
      subst he
      have hc4 : cu % 2 ^ 4 = cu := Nat.mod_eq_of_lt hcu
      rw [hc4] at h8 h88
      refine ⟨R, s, fun X => ?_, ci, hj, h8, h88⟩
      rw [lp_L_isCut_82, if_pos (by decide)]
      rfl
    | succ c =>
      have he : e < 4 := by omega
      have bk : BK s H W g := b0.mv hw (fun j h => hj j (by omega) (by omega))
      have w := bk.sw ci
      obtain ⟨n1, n2⟩ := cu_num cu hcu e he
      have e5 : Qe (w4 ((e : Int) + 1)) ((e + 1 : Nat) : Int) := by unfold Qe; rw [w4_of (by omega)]; omega
      by_cases hbit : cu / 2 ^ e % 2 = 1
      · obtain ⟨m1, m2, m3, m4, m5⟩ := n1 hbit
        have hn8 : ¬ hasb (s 8) (e : Int) := by rw [h8]; exact m2
        obtain ⟨R1, a1, a2⟩ := cut_y ci bk hw hb he hn8
        have bk1 : BK (cutS s e (H * W)) H W g := bk.cut hw
        have w1 := bk1.sw a2
        have k8 : cutS s e (H * W) 8 = ((cu % 2 ^ (e + 1) : Nat) : Int) := by rw [cutS_8, h8, m3]
        have hy8 : hasb (cutS s e (H * W) 8) (e : Int) := by rw [k8]; exact m4
        have k88 : cutS s e (H * W) 88 = ((H * W * ones (cu % 2 ^ (e + 1)) : Nat) : Int) := by
          have o4 := ones4 (cu % 2 ^ (e + 1)) (Nat.lt_of_le_of_lt (Nat.mod_le _ _) hcu)
          have hm : H * W * ones (cu % 2 ^ e) ≤ 64 := Nat.le_trans (Nat.mul_le_mul hD (show ones (cu % 2 ^ e) ≤ 4 by omega)) (by decide)
          rw [cutS_88, h88, m5, Nat.mul_add, Nat.mul_one]
          generalize H * W * ones (cu % 2 ^ e) = z at *
          generalize H * W = y at *
          rw [w4_of (by omega)]
          omega
        obtain ⟨R2, c1, c2⟩ := cut_n a2 bk1 hb he hy8
        obtain ⟨R', s', b1, b2, b3, b4, b5⟩ := ih c (e + 1) R2 (cutS s e (H * W)) (by omega) (by omega) c2 (fun j x1 x2 => by rw [cutS_ne x1 x2]; exact hj j x1 x2) k8 k88
        refine ⟨R', s', fun X => ?_, b2, b3, b4, b5⟩
        have hpp := hp e he (by omega)
        obtain ⟨v, v1, v2, v3⟩ := pr1 a1
        obtain ⟨v', v1', v2', v3'⟩ := pr1 c1
        rw [lp_L_isCut_82, if_neg (by omega), if_neg (by decide), if_pos m1, (hang9 ci w hb he).2 hn8, Option.bind_some, if_neg (by omega), v1, Option.bind_some, v2, v3, if_pos rfl, (hang9 a2 w1 hb he).1 hy8, Option.bind_some, if_pos rfl, v1', Option.bind_some, v2', v3', if_pos rfl, xlet_eq, e5.eq]
        exact b1 X
      · obtain ⟨m1, m2⟩ := n2 hbit
        obtain ⟨R', s', b1, b2, b3, b4, b5⟩ := ih c (e + 1) R s (by omega) (by omega) ci hj (by rw [m2]; exact h8) (by rw [m2]; exact h88)
        refine ⟨R', s', fun X => ?_, b2, b3, b4, b5⟩
        rw [lp_L_isCut_82, if_neg (by omega), if_neg (by decide), if_neg m1, xlet_eq, e5.eq]
        exact b1 X
theorem fhd_none {hd : Nat → Bool} : ∀ (c p : Nat), (∀ q, p ≤ q → q < p + c → hd q = false) → fhd hd p c = p + c := by
  intro c
  induction c with
  | zero => intro p _; rfl
  | succ c ih =>
    intro p h
    show (if hd p = true then p else fhd hd (p + 1) c) = p + (c + 1)
    rw [if_neg (by rw [h p (Nat.le_refl _) (by omega)]; decide), ih (p + 1) (fun q h1 h2 => h q (by omega) (by omega))]
    omega
theorem opens_lp {R : xN} {s : Nat → Int} {H W : Nat} {g : gG} {p1 p7 : Int} (ci : CI R s []) (w : SW s H W g) (hb : g.1 = 1 ∧ g.2.1 = 1) (hz : ∀ o, o ≤ H * W → shz s H W g o = 0) : ∀ (n c o : Nat), c < n → o + c = H * W + 1 → ∀ X : Int → Int → Option (Bool × xN), lp_L_isCut_228 0 p1 ((H * W : Nat) : Int) p7 R n 1 (o : Int) X = X 1 ((H * W + 1 : Nat) : Int) := by
  obtain ⟨q9, L9, hP, hD1, hD⟩ := bk9 ci w hb
  have h11 := w.2.2.2.2.2.2.2.2.2.2.2.1
  intro n
  induction n with
  | zero => intro c o h; omega
  | succ n ih =>
    intro c o h1 h2 X
    rw [lp_L_isCut_228]
    cases c with
    | zero => rw [if_pos (by omega), show o = H * W + 1 from h2]
    | succ c =>
      have ho : o ≤ H * W := by omega
      obtain ⟨o0, -, o2⟩ := open9 ci w hb ho
      rw [if_pos (hz o ho)] at o0
      have o2' := o2 (hz o ho)
      have e5 : Qe (w4 ((o : Int) + 1)) ((o + 1 : Nat) : Int) := by unfold Qe; rw [w4_of (by omega)]; omega
      have e1 : Qe (w4 (1 * s 11)) (s 11) := by unfold Qe; rw [w4_of (by omega)]; omega
      have e2 : Qe (w4 (2 * s 11)) (s 11 * 2) := by unfold Qe; rw [w4_of (by omega)]; omega
      rw [if_neg (by omega), if_neg (by decide), o0, Option.bind_some, if_pos rfl, o2', Option.bind_some, cnt13 ci w]
      by_cases c0 : o = 0
      · rw [if_pos (show (o : Int) = 0 by omega), Option.bind_some, e1.eq, if_pos (show (if o = 0 ∨ o = H * W then s 11 else s 11 * 2) = s 11 from if_pos (Or.inl c0)), xlet_eq, e5.eq]
        exact ih c (o + 1) (by omega) (by omega) X
      · rw [if_neg (show ¬ (o : Int) = 0 by omega), xlet_eq, Option.bind_some]
        by_cases cD : o = H * W
        · rw [if_pos (show (o : Int) = ((H * W : Nat) : Int) by omega), e1.eq, if_pos (show (if o = 0 ∨ o = H * W then s 11 else s 11 * 2) = s 11 from if_pos (Or.inr cD)), xlet_eq, e5.eq]
          exact ih c (o + 1) (by omega) (by omega) X
        · rw [if_neg (show ¬ (o : Int) = ((H * W : Nat) : Int) by omega), e2.eq, if_pos (show (if o = 0 ∨ o = H * W then s 11 else s 11 * 2) = s 11 * 2 from if_neg (by omega)), xlet_eq, e5.eq]
          exact ih c (o + 1) (by omega) (by omega) X
theorem area_num : ∀ H ∈ ([1, 2, 4] : List Nat), ∀ W ∈ ([1, 2, 4] : List Nat), w4 (w4 ((H : Int) * w4 ((W : Int) - 1)) + w4 ((W : Int) * w4 ((H : Int) - 1))) = ((H * (W - 1) + W * (H - 1) : Nat) : Int) ∧ w4 ((H : Int) * (W : Int)) = ((H * W : Nat) : Int) ∧ H * W ∈ ([1, 2, 4, 8, 16] : List Nat) := by decide
theorem isCut9 {R : xN} {s : Nat → Int} {H W n0 : Nat} {g : gG} (ci : CI R s []) (b : BK s H W g) (hg : gbk H W (n0 : Int) = some g) (h8 : s 8 = 0) (h9 : s 9 = 0) (h88 : s 88 = 0) : ∃ (R' : xN) (s' : Nat → Int), f_L_isCut 0 (n0 : Int) (H : Int) (W : Int) R = some (true, R') ∧ CI R' s' [] ∧ (∀ j : Nat, j ≠ 8 → j ≠ 88 → s' j = s j) ∧ (0 ≤ s' 8 ∧ s' 8 ≤ 15) := by
  have w := b.sw ci
  have hb := (gbk_some hg).2.2.2
  have hw := w.gw
  obtain ⟨q9, L9, hP, hD1, hD⟩ := bk9 ci w hb
  obtain ⟨a1, a2, a3⟩ := area_num H (len_mem w.1) W (len_mem w.2.1)
  have a1' : Qe _ _ := a1
  have a2' : Qe _ _ := a2
  clear a1 a2
  obtain ⟨G1, G2, G3, G4⟩ := gP_of w.1 w.2.1 hg
  have hb0 : ∀ e : Nat, e < 4 → ¬ hasb (s 8) (e : Int) := fun e he => by
    rw [h8]
    have : ∀ e : Nat, e < 4 → ¬ (b4and (b4shr 0 (e : Int)) 1 = 1) := by decide
    exact this e he
  -- the pairs of all edges
  have hsum : smE (pcS H W g.2.2.2) 0 4 0 = H * (W - 1) + W * (H - 1) := by
    unfold smB at G2
    have := Nat.eq_of_beq_eq_true G2
    show 0 + pcS H W g.2.2.2 0 + pcS H W g.2.2.2 1 + pcS H W g.2.2.2 2 + pcS H W g.2.2.2 3 = _
    omega
  have hl := hang_lp (p1 := (n0 : Int)) (p2 := (H : Int)) (p3 := (W : Int)) (p4 := ((H * W : Nat) : Int)) ci w hb hb0 6000 4 0 0 (by omega) (by omega) (by omega)
  rw [hsum, z0] at hl
  -- one piece
  have hlg : lgN s = 0 := by unfold lgN; rw [if_pos h9]
  have hpc := pcs9 ci w hb (L := fun _ => 0) (fun _ _ => by decide) (by rw [h8]; exact good_one G1 G3) (fun _ _ _ _ _ => rfl)
  rw [lbS_0 _ a3] at hpc
  -- the cuts that are told
  obtain ⟨R1, c1, ci1⟩ := cuts9 ci w hg
  obtain ⟨t1, t2⟩ := ctB_of (spE_mem (s := s)) G4
  have hcu := ecC_lt (H := H) (W := W) (sp := spE s) (t := g.2.2.2) 4 0 0 (by omega) (by omega)
  generalize hcue : ecC H W g.2.2.2 (spE s) 0 4 0 = cu at *
  obtain ⟨R2, s2, d1, d2, d3, d4, d5⟩ := cut_lp (p1 := (n0 : Int)) (p8 := 0) hw hb hD hcu t2 b 6000 4 0 R1 s (by omega) (by omega) ci1 (fun j _ _ => rfl) (by rw [h8, Nat.pow_zero, Nat.mod_one]; rfl) (by rw [h88, Nat.pow_zero, Nat.mod_one]; rfl)
  have b2 : BK s2 H W g := b.mv hw (fun j h => d3 j (by omega) (by omega))
  have w2 := b2.sw d2
  have hz : ∀ o, o ≤ H * W → shz s2 H W g o = 0 := fun o ho => by
    unfold shz
    have : spE s2 = spE s := by unfold spE; rw [d3 7 (by omega) (by omega)]
    rw [this, d4, Int.toNat_natCast]
    exact t1 o ho
  have hfh : fhd (hdB s2 H W g) 0 (2 * (H * W)) = 2 * (H * W) := by
    rw [fhd_none _ _ (fun q h1 h2 => by unfold hdB; rw [hz _ (by omega)]; rfl)]
    omega
  have hr0 := rdg9 d2 w2 hb b2.2.2.2.2 (u := 0) (by decide)
  have hr1 := rdg9 d2 w2 hb b2.2.2.2.2 (u := 1) (by decide)
  rw [hfh, if_pos rfl, if_pos rfl] at hr0
  rw [hfh, if_pos rfl, if_neg (by decide)] at hr1
  have ho4 := ones4 cu hcu
  have hm4 : H * W * ones cu ≤ 64 := Nat.le_trans (Nat.mul_le_mul hD ho4) (by decide)
  have e1 : Qe (w4 (0 + w4 ((ones cu : Int) * ((H * W : Nat) : Int)))) ((H * W * ones cu : Nat) : Int) := by
    unfold Qe
    rw [← Int.natCast_mul, Nat.mul_comm (ones cu)]
    generalize H * W * ones cu = z at *
    rw [w4_of (x := (z : Int)) (by omega), w4_of (by omega)]
    omega
  have e2 : Qe (w4 (2 * ((H * W : Nat) : Int))) ((2 * (H * W) : Nat) : Int) := by unfold Qe; rw [w4_of (by omega)]; omega
  have hops := opens_lp (p1 := (n0 : Int)) (p7 := (cu : Int)) d2 w2 hb hz 6000 (H * W + 1) 0 (by omega) (by omega)
  obtain ⟨v, v1, v2, v3⟩ := pr1 c1
  have ef2 := effk ci1 w (k := 2) (by omega)
  rw [show 86 + 2 = 88 from rfl, h88] at ef2
  have ef3 := effk d2 w2 (k := 2) (by omega)
  rw [show 86 + 2 = 88 from rfl, d5] at ef3
  have main : ∀ Z : Option (Bool × xN), (∃ R3, ((if (cu : Int) = 0 then some (true, R2) else (f_X9_unfold 0 R2).bind (fun v56 => if v56.1 = (-2) then (f_X9_fold 0 1 v56.2).bind (fun v58 => if v58.1 = (-2) then (f_X9_printAll 0 (n0 : Int) v58.2).bind (fun v60 => if v60.1 = (-2) then some (true, v60.2) else some (false, v60.2)) else some (false, v58.2)) else some (false, v56.2))) : Option (Bool × xN)) = some (true, R3) ∧ CI R3 s2 []) := fun _ => by
    by_cases hc0 : cu = 0
    · rw [if_pos (by omega)]
      exact ⟨R2, rfl, d2⟩
    · rw [if_neg (by omega)]
      have hn8 : ¬ (s2 8 = 0 ∧ s2 9 = 0) := fun h => by have := h.1; omega
      have hu : spUnf s2 = (-2, s2) := by unfold spUnf; rw [if_pos (Or.inr hn8)]
      obtain ⟨R3, u1, u2, -⟩ := dact8 (f9 := f_X9_unfold 0) d_unf (fun _ => rfl) d2 hu
      have ci3 := u2 err2
      have hf : spFold 1 s2 = (-2, s2) := by unfold spFold; rw [if_pos (by decide), if_neg (fun h => hn8 h.2)]
      obtain ⟨R4, f1, f2, -⟩ := dact8 (f9 := f_X9_fold 0 1) d_fold (fun _ => rfl) ci3 hf
      have ci4 := f2 err2
      have hp : spAll (n0 : Int) s2 = (-2, s2) := by
        rw [spAll_eq b2.1 b2.2.1, hg]
        exact if_neg (fun h => hn8 h.2)
      obtain ⟨R5, p1, p2, -⟩ := dact8 (f9 := f_X9_printAll 0 (n0 : Int)) d_all (fun _ => rfl) ci4 hp
      obtain ⟨x1, x2, x3, x4⟩ := pr1 u1
      obtain ⟨y1, y2, y3, y4⟩ := pr1 f1
      obtain ⟨z1, z2, z3, z4⟩ := pr1 p1
      refine ⟨R5, ?_, p2 err2⟩
      rw [x2, Option.bind_some, x3, x4, if_pos rfl, y2, Option.bind_some, y3, y4, if_pos rfl, z2, Option.bind_some, z3, z4, if_pos rfl]
  obtain ⟨R3, m1, m2⟩ := main none
  refine ⟨R3, s2, ?_, m2, d3, by omega⟩
  unfold f_L_isCut
  rw [xlet_eq, a2'.eq]
  refine (hl _).trans ?_
  rw [a1'.eq, if_pos rfl, hpc, Option.bind_some, if_pos (show ((1 : Nat) : Int) = 1 from rfl), v1, Option.bind_some, v2, v3, show f_X9_effort 0 2 R1 = _ from ef2, Option.bind_some]
  refine (d1 _).trans ?_
  rw [if_neg (by decide), cnt6 d2 w2, d4, Option.bind_some, if_pos rfl, show f_X9_effort 0 2 R2 = _ from ef3, Option.bind_some, lones9 hcu, Option.bind_some, e1.eq, if_pos rfl, hr0, Option.bind_some, e2.eq, if_pos rfl, hr1, Option.bind_some, if_pos rfl]
  refine (hops _).trans ?_
  rw [if_neg (by decide)]
  exact m1
