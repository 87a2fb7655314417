/-! The model lays the sheet as it is now. -/
theorem mfold_put {R : xN} {H W f : Nat} {g : gG} (hw : GWg H W g) (hf : gok f g = true) (hM : MRg R H W g) : ∃ R', f_X10_foldBy 323 (f : Int) R = some R' ∧ MRg R' H W (gput f g) ∧ kLay R R' :=
  mfold_eq hw (gok_of hf).1 (gok_of hf).2 hM
theorem may_eq {R : xN} {H W f : Nat} {g : gG} (hf : 1 ≤ f ∧ f ≤ 4) (hM : MRg R H W g) : f_X10_mayFold 323 (f : Int) R = some (gok f g) := by
  obtain ⟨l7, l8, -, -⟩ := hM
  unfold f_X10_mayFold gok gcan
  rw [l7, l8, decide_eq_true hf, Bool.true_and]
  by_cases h3 : f ≤ 2
  · rw [if_neg (by omega), if_pos h3]
    by_cases hc : g.2.1 ≤ 1
    · rw [if_pos (by omega), decide_eq_false (by omega)]
    · rw [if_neg (by omega), decide_eq_true (by omega)]
  · rw [if_pos (by omega), if_neg h3]
    by_cases hc : g.1 ≤ 1
    · rw [if_pos (by omega), decide_eq_false (by omega)]
    · rw [if_neg (by omega), decide_eq_true (by omega)]
/-- the folds of a row s of the model -/
def gfs (s : Nat → Int) : List Nat := (List.range (s 2).toNat).map (fun k => (s (3 + k)).toNat)
theorem now_step {k m : Nat} {f c : Nat} {R : xN} {X : Int → xN → Option xN} (hc : R 324 2 = (c : Int)) (hk : k < c) (hc4 : c ≤ 4) (hf : R 324 (3 + k) = (f : Int)) : lp_X10_layNow_6 323 (m + 1) (k : Int) R X = (f_X10_foldBy 323 (f : Int) R).bind (fun v4 => lp_X10_layNow_6 323 m ((k + 1 : Nat) : Int) v4 X) := by
  have e1 : Qe (w4 (3 + (k : Int))) ((3 + k : Nat) : Int) := by unfold Qe; rw [w4_of (by omega)]; omega
  have e5 : Qe (w4 ((k : Int) + 1)) ((k + 1 : Nat) : Int) := by unfold Qe; rw [w4_of (by omega)]; omega
  rw [lp_X10_layNow_6, show 323 + 1 = 324 from rfl, hc, if_neg (by omega)]
  rw [e1.eq, if_pos (by omega), Int.toNat_natCast, hf]
  simp only [xlet, e5.eq]
theorem now_lp {H W c : Nat} (hc4 : c ≤ 4) : ∀ (m k : Nat) (R : xN) (fs : List Nat) (g : gG), k + fs.length = c → fs.length < m → R 324 2 = (c : Int) → (∀ i : Nat, i < fs.length → R 324 (3 + (k + i)) = (fs.getD i 0 : Nat)) → GWg H W g → MRg R H W g → ∀ g', gall fs g = some g' → ∃ R', (∀ X : Int → xN → Option xN, lp_X10_layNow_6 323 m (k : Int) R X = X (c : Int) R') ∧ MRg R' H W g' ∧ kLay R R' := by
  intro m
  induction m with
  | zero => intro k R fs g _ h; exact absurd h (Nat.not_lt_zero _)
  | succ m ih =>
    intro k R fs g hk hm hc hs hw hM g' hg
    cases fs with
    | nil =>
      cases hg
      have : k = c := hk
      subst this
      refine ⟨R, fun X => ?_, hM, kLay.refl⟩
      rw [lp_X10_layNow_6, show 323 + 1 = 324 from rfl, hc, if_pos (Int.le_refl _)]
    | cons f fs =>
      rw [gall_cons] at hg
      by_cases hf : gok f g = true
      · rw [if_pos hf] at hg
        have hf0 : R 324 (3 + k) = (f : Int) := hs 0 (Nat.succ_pos _)
        obtain ⟨R1, a1, a2, a3⟩ := mfold_put hw hf hM
        have hl : fs.length + 1 = (f :: fs).length := rfl
        have hk' : k + (fs.length + 1) = c := hk
        have hr : ∀ j : Nat, R1 324 j = R 324 j := fun j => a3 324 j (by omega) (by omega)
        obtain ⟨R', b1, b2, b3⟩ := ih (k + 1) R1 fs (gput f g) (by omega) (Nat.lt_of_succ_lt_succ hm) (by rw [hr]; exact hc) (fun i hi => by
          rw [hr, show 3 + (k + 1 + i) = 3 + (k + (i + 1)) by omega]
          exact hs (i + 1) (Nat.succ_lt_succ hi)) (hw.put hf) a2 g' hg
        refine ⟨R', fun X => ?_, b2, a3.trans b3⟩
        rw [now_step hc (by omega) hc4 hf0, a1, Option.bind_some, b1]
      · rw [if_neg hf] at hg; cases hg
theorem gfs_len {s : Nat → Int} : (gfs s).length = (s 2).toNat := by unfold gfs; rw [List.length_map, List.length_range]
theorem gfs_at {s : Nat → Int} {i : Nat} (h : i < (s 2).toNat) : (gfs s).getD i 0 = (s (3 + i)).toNat := by
  unfold gfs
  rw [List.getD_eq_getElem?_getD, List.getElem?_map, List.getElem?_range h]
  rfl
theorem now_eq {R : xN} {H W : Nat} {g : gG} (hH : len H) (hW : len W) (h0 : R 324 0 = (H : Int)) (h1 : R 324 1 = (W : Int)) (h2 : 0 ≤ R 324 2 ∧ R 324 2 ≤ 4) (h3 : ∀ i : Nat, (i : Int) < R 324 2 → 0 ≤ R 324 (3 + i)) (hg : gall (gfs (R 324)) (gg0 H W) = some g) : ∃ R', f_X10_layNow 323 R = some R' ∧ MRg R' H W g ∧ kLay R R' := by
  obtain ⟨R1, a1, a2, a3⟩ := lop_eq hH hW h0 h1
  have hr : ∀ j : Nat, R1 324 j = R 324 j := fun j => a3 324 j (by omega) (by omega)
  obtain ⟨R', b1, b2, b3⟩ := now_lp (c := (R 324 2).toNat) (by omega) 6000 0 R1 (gfs (R 324)) (gg0 H W) (by rw [gfs_len]; omega) (by rw [gfs_len]; omega) (by rw [hr]; omega) (fun i hi => by
    rw [gfs_len] at hi
    rw [hr, gfs_at hi, Nat.zero_add]
    have := h3 i (by omega)
    omega) (gg0_w hH hW) a2 g hg
  refine ⟨R', ?_, b2, a3.trans b3⟩
  unfold f_X10_layNow
  rw [z0] at b1
  rw [a1, Option.bind_some, b1]
