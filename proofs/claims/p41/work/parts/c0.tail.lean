/-! The law's end: the best row, the folds, the cuts, the snapshot. -/
/-- a printed sheet, not folded -/
def PA (s : Nat → Int) (H W : Nat) (g : gG) : Prop := s 0 = (H : Int) ∧ s 1 = (W : Int) ∧ s 2 = 0 ∧ s 8 = 0 ∧ s 9 = 0 ∧ s 10 = 4 ∧ s 86 = 0 ∧ s 88 = 0 ∧ s 89 = 0 ∧ ∀ p : Nat, p < 2 * (H * W) → own s W g.2.2.2 p
theorem open_sw {R : xN} {s : Nat → Int} {hs : List (Nat → Int)} {H W : Nat} (ci : CI R s hs) (h0 : s 0 = (H : Int)) (h1 : s 1 = (W : Int)) (h2 : s 2 = 0) : SW s H W (gg0 H W) := ci.sw h0 h1 (by rw [gfs_nil h2]; rfl)
theorem take4_lo {s : Nat → Int} {j : Nat} (h : j < 154) : take4 s 1 j = s j := by
  unfold take4
  rw [if_neg (by omega), if_neg (by omega)]
theorem take4_hi {s : Nat → Int} {j : Nat} (h : j < 154) : take4 s 1 (310 + j) = s j := by
  unfold take4
  rw [if_neg (by omega), if_pos (by omega), show 310 + j - (156 + 154 * 1) = j by omega]
theorem own_mv {s s' : Nat → Int} {H W p : Nat} {g : gG} (hw : GWg H W g) (hp : p < 2 * (H * W)) (h7 : s' 7 = s 7) (e : ∀ j : Nat, 90 ≤ j → j < 154 → s' j = s j) (h : own s W g.2.2.2 p) : own s' W g.2.2.2 p := by
  have hk := kS_lt2 hw hp
  unfold own tU at h ⊢
  rw [e _ (by omega) (by omega), e _ (by omega) (by omega), h7]
  exact h
theorem tail9 {xs : Nat → Int} {xn : Int} {R : xN} {s : Nat → Int} {H W n r c : Nat} {g : gG} (ci : CI R s []) (pa : PA s H W g) (h12 : s 12 = 8) (hg : gbk H W (n : Int) = some g) (hlen : (gdk 4 n).length = r + c) (hrc : r + c ≤ 4) (hdig : ∀ k, k < r + c → n / 10 ^ (r + c - 1 - k) % 10 = (gdk 4 n).getD k 0) (hn : n < 10000) (hgf : gfn 0 (gdk 4 n) = n) (hD : 2 ^ (r + c) = H * W) : ∃ R2, tlF xs xn (r : Int) (c : Int) (H : Int) (W : Int) ((H * W : Nat) : Int) (n : Int) R = some (true, R2) := by
  obtain ⟨s0, s1, s2, s8, s9, s10, s86, s88, s89, so⟩ := pa
  have w0 := open_sw ci s0 s1 s2
  have hA := area_le w0.1 w0.2.1
  have hb := (gbk_some hg).2.2.2
  have hwg := gbk_w w0.1 w0.2.1 hg
  -- the best row
  obtain ⟨nb, gb, hb1, hb2, -⟩ := bst_ex (s := s) hg
  obtain ⟨R1, a1, c1⟩ := best9 ci w0 hb1 hb2 (v := 0) (by decide)
  rw [if_pos rfl] at a1
  obtain ⟨R2, a2, c2⟩ := reads9 c1 w0 hb2
  obtain ⟨R3, a3, c3⟩ := best9 c2 w0 hb1 hb2 (v := 2) (by decide)
  rw [if_neg (by decide), if_neg (by decide)] at a3
  obtain ⟨R4, a4, c4⟩ := best9 c3 w0 hb1 hb2 (v := 0) (by decide)
  rw [if_pos rfl] at a4
  obtain ⟨R5, a5, c5⟩ := cuts9 c4 w0 hb2
  obtain ⟨R6, a6, c6⟩ := best9 c5 w0 hb1 hb2 (v := 1) (by decide)
  rw [if_neg (by decide), if_pos rfl] at a6
  have hcb := ecC_lt (H := H) (W := W) (sp := spE s) (t := gb.2.2.2) 4 0 0 (by omega) (by omega)
  -- a snapshot
  have ht : spTake 1 s = (0, take4 s 1) := by
    unfold spTake
    rw [if_pos (by decide), s2]
    rfl
  obtain ⟨R7, a7, -, b7⟩ := act8 (f9 := f_X9_take 0 1) c_take (fun _ => rfl) c6 ht
  have c7 := (b7 (nerr (by decide)) (Nat.zero_le 4)).nil
  -- the folds
  obtain ⟨R8, sF, a8, c8, wF, f2, fg, f86, fr⟩ := folds9 hlen hrc hg hdig hn hgf c7 (by rw [take4_lo (by omega)]; exact s0) (by rw [take4_lo (by omega)]; exact s1) (by rw [take4_lo (by omega)]; exact s2) (by rw [take4_lo (by omega)]; exact s8) (by rw [take4_lo (by omega)]; exact s9) (by rw [take4_lo (by omega)]; exact s86)
  have fr' : ∀ j : Nat, ¬ (2 ≤ j ∧ j ≤ 6) → j ≠ 86 → j < 154 → sF j = s j := fun j h1 h2 h3 => by rw [fr j h1 h2, take4_lo h3]
  have oF : ∀ p : Nat, p < 2 * (H * W) → own sF W g.2.2.2 p := fun p hp => own_mv hwg hp (fr' 7 (by omega) (by omega) (by omega)) (fun j h1 h2 => fr' j (by omega) (by omega) h2) (so p hp)
  have bF : BK sF H W g := ⟨by rw [fr' 0 (by omega) (by omega) (by omega)]; exact s0, by rw [fr' 1 (by omega) (by omega) (by omega)]; exact s1, wF.2.2.2.2.2.2.1, wF.2.2.2.2.1, oF⟩
  have e8 := effk c8 wF (k := 0) (by omega)
  rw [show 86 + 0 = 86 from rfl, f86, hD] at e8
  have a9 := isRead9 c8 wF hb oF
  -- the cuts
  obtain ⟨R10, sC, a10, c10, k10, r10⟩ := isCut9 c8 bF hg (by rw [fr' 8 (by omega) (by omega) (by omega)]; exact s8) (by rw [fr' 9 (by omega) (by omega) (by omega)]; exact s9) (by rw [fr' 88 (by omega) (by omega) (by omega)]; exact s88)
  have bC : BK sC H W g := bF.mv hwg (fun j h => k10 j (by omega) (by omega))
  obtain ⟨cN, hcN, a11⟩ := cell9 (xs := xs) (xn := xn) (k := 3)
  obtain ⟨R12, sH, a12, c12, k12⟩ := isHeld9 c10 bC hb r10 (by rw [k10 9 (by omega) (by omega), fr' 9 (by omega) (by omega) (by omega)]; exact s9) (by rw [k10 10 (by omega) (by omega), fr' 10 (by omega) (by omega) (by omega)]; exact s10) (by rw [k10 89 (by omega) (by omega), fr' 89 (by omega) (by omega) (by omega)]; exact s89) hcN
  have kH : ∀ j : Nat, 154 ≤ j → sH j = take4 s 1 j := fun j h => by rw [k12 j (by omega) (by omega), k10 j (by omega) (by omega), fr j (by omega) (by omega)]
  -- the snapshot comes back
  have h155 : sH 155 = 1 := by rw [kH 155 (by omega)]; rfl
  have h312 : sH 312 = 0 := by rw [kH 312 (by omega), show 312 = 310 + 2 from rfl, take4_hi (by omega)]; exact s2
  have hr : spRest 1 sH = (0, rest4 sH 1) := by
    unfold spRest
    rw [if_pos (by decide), if_neg (show ¬ sH (154 + (1 : Int).toNat) = 0 by rw [show 154 + (1 : Int).toNat = 155 from rfl, h155]; decide), show 158 + 154 * (1 : Int).toNat = 312 from rfl, h312]
    rfl
  obtain ⟨R13, a13, -, b13⟩ := act8 (f9 := f_X9_restore 0 1) c_rest (fun _ => rfl) c12 hr
  have c13 := (b13 (nerr (by decide)) (Nat.zero_le 4)).nil
  have kR : ∀ j : Nat, j < 154 → rest4 sH 1 j = s j := fun j h => by
    unfold rest4
    rw [if_pos h, show 156 + 154 * 1 + j = 310 + j by omega, kH _ (by omega), take4_hi h]
  have wR := open_sw c13 (by rw [kR 0 (by omega)]; exact s0) (by rw [kR 1 (by omega)]; exact s1) (by rw [kR 2 (by omega)]; exact s2)
  have n6 := cnt6 c13 wR
  rw [kR 8 (by omega), s8] at n6
  have n2 := cnt2 c13 wR
  rw [kR 2 (by omega), s2] at n2
  have n86 := effk c13 wR (k := 0) (by omega)
  rw [show 86 + 0 = 86 from rfl, kR 86 (by omega), s86] at n86
  have hf : spForget (rest4 sH 1) = (8, u1 (rest4 sH 1) 12 0) := by
    unfold spForget
    rw [kR 12 (by omega), h12]
  obtain ⟨R14, a14, -, b14⟩ := dact8 (f9 := f_X9_forget 0) d_forget (fun _ => rfl) c13 hf
  have c14 := (b14 (nerr (by decide)) (Nat.zero_le 4)).nil
  have wE := open_sw c14 (by rw [u1_ne (by decide), kR 0 (by omega)]; exact s0) (by rw [u1_ne (by decide), kR 1 (by omega)]; exact s1) (by rw [u1_ne (by decide), kR 2 (by omega)]; exact s2)
  obtain ⟨R15, a15, -⟩ := fit9 c14 wE (m := 0) u1_eq (v := 0) (by decide)
  rw [if_pos rfl] at a15
  have hfit := (fitA (s := u1 (rest4 sH 1) 12 0) (m := 0) hg rfl).1
  have e1 : Qe (w4 ((r : Int) + (c : Int))) ((r + c : Nat) : Int) := by unfold Qe; rw [w4_of (by omega)]; omega
  have e2 : Qe (w4 (((H * W : Nat) : Int) - 1)) (((H * W : Nat) : Int) - 1) := by unfold Qe; rw [w4_of (by omega)]
  obtain ⟨v1, v11, v12, v13⟩ := pr1 a1
  obtain ⟨v2, v21, v22, v23⟩ := pr1 a2
  obtain ⟨v3, v31, v32, v33⟩ := pr1 a3
  obtain ⟨v4, v41, v42, v43⟩ := pr1 a4
  obtain ⟨v5, v51, v52, v53⟩ := pr1 a5
  obtain ⟨v6, v61, v62, v63⟩ := pr1 a6
  obtain ⟨v7, v71, v72, v73⟩ := pr1 a7
  obtain ⟨v8, v81, v82, v83⟩ := pr1 a8
  obtain ⟨v9, v91, v92, v93⟩ := pr1 a9
  obtain ⟨x1, x11, x12, x13⟩ := pr1 a10
  obtain ⟨x2, x21, x22, x23⟩ := pr1 a12
  obtain ⟨x3, x31, x32, x33⟩ := pr1 a13
  obtain ⟨x4, x41, x42, x43⟩ := pr1 a14
  obtain ⟨x5, x51, x52, x53⟩ := pr1 a15
  refine ⟨R15, ?_⟩
  unfold tlF
  rw [v11, Option.bind_some, v12, v13, v21, Option.bind_some, v22, v23, v31, Option.bind_some, v32, v33, if_pos rfl, v41, Option.bind_some, v42, v43, v51, Option.bind_some, v52, v53, lones9 hcb, Option.bind_some, v61, Option.bind_some, v62, v63, if_pos rfl, v71, Option.bind_some, v72, v73, if_pos rfl, e1.eq, v81, Option.bind_some, v82, v83, if_pos rfl, show f_X9_effort 0 0 R8 = _ from e8, Option.bind_some, e2.eq, if_pos rfl, v91, Option.bind_some, v92, v93, if_pos rfl, x11, Option.bind_some, x12, x13, if_pos rfl, show f_L_cell xs xn 3 R10 = _ from a11 R10, Option.bind_some, x21, Option.bind_some, x22, x23, if_pos rfl, x31, Option.bind_some, x32, x33, if_pos rfl, n6, Option.bind_some, if_pos rfl, n2, Option.bind_some, if_pos rfl, show f_X9_effort 0 0 R13 = _ from n86, Option.bind_some, if_pos rfl, x41, Option.bind_some, x42, x43, if_pos rfl, x51, Option.bind_some, x52, x53, if_neg (by omega)]
