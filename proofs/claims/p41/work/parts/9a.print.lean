/-! Printing. -/
def st1 (s : Nat → Int) (k : Nat) (n t : Int) : Nat → Int := u1 (u1 s (90 + k) n) (122 + k) t
def chg (s : Nat → Int) (k : Nat) (n t : Int) : Int := if s (90 + k) = n ∧ s (122 + k) = t then 0 else 1
theorem st1_ne {s : Nat → Int} {k j : Nat} {n t : Int} (h1 : j ≠ 90 + k) (h2 : j ≠ 122 + k) : st1 s k n t j = s j := by unfold st1; rw [u1_ne h2, u1_ne h1]
theorem st1_p {s : Nat → Int} {k i : Nat} {n t : Int} (hk : k < 32) (hi : i < 32) : st1 s k n t (90 + i) = (if i = k then n else s (90 + i)) ∧ st1 s k n t (122 + i) = (if i = k then t else s (122 + i)) := by
  unfold st1 u1
  by_cases h : i = k
  · rw [if_pos h, if_pos h, if_neg (by omega), if_pos (by omega), if_pos (by omega)]
    exact ⟨rfl, rfl⟩
  · rw [if_neg h, if_neg h, if_neg (by omega), if_neg (by omega), if_neg (by omega), if_neg (by omega)]
    exact ⟨rfl, rfl⟩
theorem pl_inj {H W i k : Nat} (hH : len H) (hW : len W) (hi : i < 2 * (H * W)) (hk : k < 2 * (H * W)) : pl W i = pl W k ↔ i = k := by
  unfold pl
  refine ⟨fun h => ?_, fun h => by rw [h]⟩
  rcases hH with rfl | rfl | rfl <;> rcases hW with rfl | rfl | rfl <;> omega
theorem nine_i {a b : Int} (ha : -1 ≤ a) (hb : -1 ≤ b) : nine a = nine b ↔ a = b := by unfold nine; split <;> split <;> omega
theorem stamp9 {R : xN} {s : Nat → Int} {H W k : Nat} {n t : Int} (hP : PR R s H W) (hk : k < 2 * (H * W)) (hn : -1 ≤ n ∧ n ≤ 31) : ∃ R', f_X5_stamp 3 ((pl W k : Nat) : Int) (nine n) t R = some (chg s k n t, R') ∧ PR R' (st1 s k n t) H W ∧ ∀ q j : Nat, q ≠ 4 → q ≠ 5 → R' q j = R q j := by
  obtain ⟨hH, hW, h5, hp⟩ := id hP
  have hl := pl_lt hH hW hk
  have hA := area_le hH hW
  obtain ⟨⟨q1, q2⟩, q3⟩ := hp k hk
  have c1 : (0 : Int) ≤ ((pl W k : Nat) : Int) ∧ ((pl W k : Nat) : Int) ≤ 31 := by omega
  have c2 : (0 : Int) ≤ ((pl W k : Nat) : Int) ∧ ((pl W k : Nat) : Int) < 32 := by omega
  -- what holds once both are written
  have fin : ∀ R' : xN, (∀ q j : Nat, R' q j = if q = 5 ∧ j = pl W k then t else if q = 4 ∧ j = pl W k then nine n else R q j) → PR R' (st1 s k n t) H W ∧ ∀ q j : Nat, q ≠ 4 → q ≠ 5 → R' q j = R q j := fun R' hR => by
    refine ⟨⟨hH, hW, ?_, fun i hi => ?_⟩, fun q j a b => by rw [hR, if_neg (by omega), if_neg (by omega)]⟩
    · rw [hR, if_neg (by omega), if_neg (by omega), st1_ne (by omega) (by omega)]; exact h5
    · obtain ⟨e1, e2⟩ := st1_p (s := s) (n := n) (t := t) (show k < 32 by omega) (show i < 32 by omega)
      rw [e1, e2, hR, hR]
      have hin := pl_inj hH hW hi hk
      obtain ⟨⟨p1, p2⟩, p3⟩ := hp i hi
      by_cases hik : i = k
      · rw [if_pos hik, if_pos hik, if_neg (by omega), if_pos ⟨rfl, hin.mpr hik⟩, if_pos ⟨rfl, hin.mpr hik⟩]
        exact ⟨⟨rfl, rfl⟩, hn⟩
      · have hne : ¬ pl W i = pl W k := fun h => hik (hin.mp h)
        rw [if_neg hik, if_neg hik, if_neg (by omega), if_neg (fun h => hne h.2), if_neg (fun h => hne h.2), if_neg (by omega)]
        exact ⟨⟨p1, p2⟩, p3⟩
  unfold f_X5_stamp chg
  rw [in9, Option.bind_some, if_pos (decide_eq_true c1), if_pos c2, tnc, show R (3 + 1) (pl W k) = _ from q1]
  by_cases a1 : s (90 + k) = n
  · rw [if_pos ((nine_i q3.1 hn.1).mpr a1), if_pos c2, show R (3 + 2) (pl W k) = _ from q2]
    by_cases a2 : s (122 + k) = t
    · rw [if_pos a2, if_pos ⟨a1, a2⟩]
      refine ⟨R, rfl, fin R (fun q j => ?_)⟩
      by_cases b1 : q = 5 ∧ j = pl W k
      · rw [if_pos b1, b1.1, b1.2, q2, a2]
      · rw [if_neg b1]
        by_cases b2 : q = 4 ∧ j = pl W k
        · rw [if_pos b2, b2.1, b2.2, q1, a1]
        · rw [if_neg b2]
    · rw [if_neg a2, if_pos c2, xlet_eq, if_pos c2, xlet_eq, if_neg (fun h => a2 h.2)]
      refine ⟨_, rfl, fin _ (fun q j => ?_)⟩
      by_cases b1 : q = 5 ∧ j = pl W k
      · rw [if_pos b1, b1.1, b1.2, xup_eq]
      · rw [if_neg b1, xup_nn b1]
        by_cases b2 : q = 4 ∧ j = pl W k
        · rw [if_pos b2, b2.1, b2.2, xup_eq]
        · rw [if_neg b2, xup_nn b2]
  · rw [if_neg (fun h => a1 ((nine_i q3.1 hn.1).mp h)), if_pos c2, xlet_eq, if_pos c2, xlet_eq, if_neg (fun h => a1 h.1)]
    refine ⟨_, rfl, fin _ (fun q j => ?_)⟩
    by_cases b1 : q = 5 ∧ j = pl W k
    · rw [if_pos b1, b1.1, b1.2, xup_eq]
    · rw [if_neg b1, xup_nn b1]
      by_cases b2 : q = 4 ∧ j = pl W k
      · rw [if_pos b2, b2.1, b2.2, xup_eq]
      · rw [if_neg b2, xup_nn b2]
theorem oaf9 {R : xN} {s : Nat → Int} {H W : Nat} {g : gG} (w : SW s H W g) (r : DR R 2 s H W g) : f_X0_isOpenAndFree 2 R = some (decide (s 2 = 0 ∧ s 8 = 0 ∧ s 9 = 0)) := by
  have hc := w.cnt
  have h65 : R (2 + 4) 5 = s 2 := by rw [hc]; exact r.2.2.2.1.2.2.2.2.2.1
  unfold f_X0_isOpenAndFree
  rw [h65, isf9 r.2.2.2.2.2.1 r.2.2.2.2.2.2.1, Option.bind_some]
  by_cases h1 : s 2 = 0
  · rw [if_pos h1]
    by_cases h2 : s 8 = 0 ∧ s 9 = 0
    · rw [decide_eq_true h2, decide_eq_true ⟨h1, h2⟩]; rfl
    · rw [decide_eq_false h2, decide_eq_false (fun h => h2 h.2)]; rfl
  · rw [if_neg h1, decide_eq_false (fun h => h1 h.1)]
theorem nnine {v : Int} : ¬ err (nine v) := fun h => by unfold err nine at h; split at h <;> omega
