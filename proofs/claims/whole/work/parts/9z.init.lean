/-! All calls; the start. -/
theorem ops_all : ∀ k : Nat, xOp Inv k := by
  intro k
  unfold xOp
  split
  · exact fun _ _ _ _ => o_sheet
  · exact fun _ _ => o_fold
  · exact o_unf
  · exact fun _ _ => o_spine
  · exact fun _ _ _ _ _ _ _ _ _ _ => o_print
  · exact fun _ _ => o_all
  · exact fun _ _ => o_cut
  · exact fun _ _ => o_staple
  · exact fun _ _ => o_unst
  · exact fun _ _ => o_legs
  · exact fun _ _ _ _ _ _ => o_see
  · exact o_forget
  · exact fun _ _ _ _ _ _ _ _ => o_note
  · exact fun _ _ => o_drop
  · exact fun _ _ => o_lines
  · exact fun _ _ => o_take
  · exact fun _ _ => o_rest
  · exact o_undo
  · exact fun _ _ => o_app
  · exact o_clr
  · exact o_run
  · exact fun _ _ => o_count
  · exact fun _ _ _ _ _ _ _ _ => o_side
  · exact fun _ _ _ _ _ _ => o_layer
  · exact fun _ _ _ _ => o_page
  · exact fun _ _ _ _ => o_open
  · exact fun _ _ => o_hang
  · exact fun _ _ _ _ => o_tog
  · exact o_pieces
  · exact fun _ _ => o_rdg
  · exact fun _ _ => o_pof
  · exact fun _ _ _ _ => o_nq
  · exact fun a _ h _ => o_index (show -2147483648 ≤ a ∧ a ≤ 2147483647 from h).2
  · exact fun _ _ => o_effort
  · exact fun _ _ => o_fit
  · exact fun _ _ => o_reads
  · exact fun _ _ => o_cuts
  · exact fun _ _ => o_best
  · exact True.intro
theorem xis_prn {k : Nat} (h : k < 32) : xis (90 + k) = -1 ∧ xis (122 + k) = 0 := by
  unfold xis
  refine ⟨?_, ?_⟩
  · rw [if_neg (by omega), if_neg (by omega), if_neg (by omega), if_neg (by omega), if_pos (by omega)]
  · rw [if_neg (by omega), if_neg (by omega), if_neg (by omega), if_neg (by omega), if_neg (by omega)]
theorem gt_num : ∀ i : Nat, i < 8 → gt0 4 i = i ∧ gt0 4 i < 64 ∧ gt0 4 i % 16 / 4 < 2 ∧ gt0 4 i % 4 < 4 := by decide
theorem sd_init {R : xN} (h : xi0 R 2) : SD R 2 xis := by
  obtain ⟨a1, a2, a3, a4, a5, a6, a7, a8, a9, a10, a11, a12, a13, a14, a15, a16, a17, a18, a19⟩ := h
  have g0 : gfs xis = [] := rfl
  have z12 : xis 12 = 0 := rfl
  have z37 : xis 37 = 0 := rfl
  have z2 : xis 2 = 0 := rfl
  refine ⟨2, 4, gg0 2 4, ⟨Or.inr (Or.inl rfl), Or.inr (Or.inr rfl), rfl, rfl, by rw [z2]; omega, fun i hi => by rw [z2] at hi; omega, by rw [g0]; rfl, Or.inl rfl, ⟨by decide, by decide⟩, ⟨by decide, by decide, by decide⟩, ⟨by decide, by decide⟩, ⟨by decide, by decide⟩, by rw [z12]; omega, fun k hk => by rw [z12] at hk; omega, by rw [z37]; omega, fun k hk => by rw [z37] at hk; omega, fun k hk => ?_⟩, ⟨a1, a2, fun k hk => ?_, ?_, ?_, ?_, ?_, ?_, ?_, ?_, fun k hk => by rw [z12] at hk; omega, ?_, fun k hk => by rw [z37] at hk; omega, fun k hk => ?_⟩⟩
  · obtain ⟨p1, p2⟩ := xis_prn hk
    rw [p1, p2]
    exact ⟨⟨by omega, by omega⟩, Or.inl rfl⟩
  · obtain ⟨p1, p2⟩ := xis_prn (k := k) (by omega)
    have hp := pl_lt (H := 2) (W := 4) (Or.inr (Or.inl rfl)) (Or.inr (Or.inr rfl)) hk
    rw [p1, p2, a3 _ hp, a4 _ hp]
    exact ⟨rfl, rfl⟩
  · rw [g0]
    exact ⟨a5, a6, a7, a8, a9, a10, fun i hi => by
      have hi8 : i < 8 := hi
      show R (2 + 4 + 1) i = (gt0 4 i : Int)
      rw [(gt_num i hi8).1]
      exact a11 i hi8⟩
  · exact a15
  · exact a16
  · exact a17
  · exact a18
  · exact a19
  · exact a12
  · exact a13
  · rw [show R (2 + 13) k = 0 from a14 k hk]
    have : k = 0 ∨ k = 1 ∨ k = 2 ∨ k = 3 := by omega
    rcases this with rfl | rfl | rfl | rfl <;> rfl
theorem inv_start (R : xN) (h9 : xi9 R 0) (h10 : xi10 R 323) : Inv R := by
  obtain ⟨⟨b1, b2⟩, ⟨b3, b4⟩, b5⟩ := h9
  obtain ⟨c1, c2, c3, c4⟩ := h10
  have h45 : R 45 1 = 0 := b3
  have h46 : ∀ k : Nat, k < 6 → R 46 k = ((47 + 44 * k : Nat) : Int) := fun k hk => b4 k hk
  have h324 : ∀ j : Nat, j < 464 → R 324 j = xis j := c1
  have h05 : R 0 5 = 0 := b5
  have d0 : SD R 2 xis := sd_init b1
  refine ⟨⟨d0.sg (fun j hj => h324 j (by omega)), ?_, ?_, ?_, fun k hk hs => ?_⟩, ⟨by omega, by omega, fun k hk => ⟨k, hk, h46 k hk⟩, fun k k' hk hk' e => ?_⟩, ⟨by omega, by omega, ?_, fun j hj => by omega⟩, c4, ?_, fun k hk => by omega⟩
  · rw [h324 154 (by omega)]; exact Or.inl rfl
  · rw [h324 155 (by omega)]; exact Or.inl rfl
  · rw [h324 154 (by omega), h324 155 (by omega)]; exact b2
  · exfalso
    rw [h324 _ (by omega)] at hs
    have : k = 0 ∨ k = 1 := by omega
    rcases this with rfl | rfl
    · exact absurd hs (by decide)
    · exact absurd hs (by decide)
  · rw [h46 k hk, h46 k' hk'] at e; omega
  · rw [h05]; exact c3
  · rw [h45]; exact c2
