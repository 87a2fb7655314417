/-! All edges cut, a staple put in and drawn again, undone. -/
theorem hx_num : ∀ x : Nat, x < 16 → ∀ e : Nat, e < 4 → (b4and (b4shr (x : Int) (e : Int)) 1 = 1 ↔ x / 2 ^ e % 2 = 1) ∧ b4or (x : Int) (b4shl 1 (e : Int)) = ((x ||| 2 ^ e : Nat) : Int) ∧ x ||| 2 ^ e < 16 ∧ ∀ k : Nat, k < 4 → (x ||| 2 ^ e) / 2 ^ k % 2 = if k = e then 1 else x / 2 ^ k % 2 := by decide +kernel
theorem hx_15 : ∀ x : Nat, x < 16 → (∀ k : Nat, k < 4 → x / 2 ^ k % 2 = 1) → x = 15 := by decide +kernel
theorem held_lp {H W : Nat} {g : gG} {p1 p2 : Int} {s0 : Nat → Int} (hw : GWg H W g) (hb : g.1 = 1 ∧ g.2.1 = 1) (b0 : BK s0 H W g) : ∀ (n c e : Nat) (R : xN) (s : Nat → Int) (x : Nat), c < n → e + c = 4 → CI R s [] → (∀ j : Nat, j ≠ 8 → j ≠ 88 → s j = s0 j) → s 8 = (x : Int) → x < 16 → (∀ k : Nat, k < e → x / 2 ^ k % 2 = 1) → ∃ (R' : xN) (s' : Nat → Int), (∀ X : Int → xN → Option (Bool × xN), lp_L_isHeld_2 0 p1 p2 n (e : Int) R X = X 4 R') ∧ CI R' s' [] ∧ (∀ j : Nat, j ≠ 8 → j ≠ 88 → s' j = s0 j) ∧ s' 8 = 15 := by
  intro n
  induction n with
  | zero => intro c e R s x h; omega
  | succ n ih =>
    intro c e R s x h1 h2 ci hj h8 hx hk
    cases c with
    | zero =>
      have he : e = 4 := h2
      subst he
      have := hx_15 x hx hk
      subst this
      refine ⟨R, s, fun X => ?_, ci, hj, h8⟩
      rw [lp_L_isHeld_2, if_pos (by decide)]
      rfl
    | succ c =>
      have he : e < 4 := by omega
      have bk : BK s H W g := b0.mv hw (fun j h => hj j (by omega) (by omega))
      obtain ⟨n1, n2, n3, n4⟩ := hx_num x hx e he
      have e5 : Qe (w4 ((e : Int) + 1)) ((e + 1 : Nat) : Int) := by unfold Qe; rw [w4_of (by omega)]; omega
      by_cases hc : hasb (s 8) (e : Int)
      · obtain ⟨R1, a1, a2⟩ := cut_n ci bk hb he hc
        have hbit : x / 2 ^ e % 2 = 1 := n1.mp (by rw [h8] at hc; exact hc)
        obtain ⟨R', s', b1, b2, b3, b4⟩ := ih c (e + 1) R1 s x (by omega) (by omega) a2 hj h8 hx (fun k hk' => by
          by_cases hke : k = e
          · rw [hke]; exact hbit
          · exact hk k (by omega))
        refine ⟨R', s', fun X => ?_, b2, b3, b4⟩
        obtain ⟨v, v1, v2, v3⟩ := pr1 a1
        rw [lp_L_isHeld_2, if_neg (by omega), v1, Option.bind_some, v2, v3, if_neg (by decide), if_pos rfl, xlet_eq, e5.eq]
        exact b1 X
      · obtain ⟨R1, a1, a2⟩ := cut_y ci bk hw hb he hc
        have k8 : cutS s e (H * W) 8 = ((x ||| 2 ^ e : Nat) : Int) := by rw [cutS_8, h8, n2]
        obtain ⟨R', s', b1, b2, b3, b4⟩ := ih c (e + 1) R1 (cutS s e (H * W)) (x ||| 2 ^ e) (by omega) (by omega) a2 (fun j x1 x2 => by rw [cutS_ne x1 x2]; exact hj j x1 x2) k8 n3 (fun k hk' => by
          rw [n4 k (by omega)]
          by_cases hke : k = e
          · rw [if_pos hke]
          · rw [if_neg hke]; exact hk k (by omega))
        refine ⟨R', s', fun X => ?_, b2, b3, b4⟩
        obtain ⟨v, v1, v2, v3⟩ := pr1 a1
        rw [lp_L_isHeld_2, if_neg (by omega), v1, Option.bind_some, v2, v3, if_pos (Int.natCast_nonneg _), xlet_eq, e5.eq]
        exact b1 X
theorem st_num : ∀ v : Nat, v < 10 → ¬ b4and (b4shr 0 (v : Int)) 1 = 1 ∧ b4and (b4shr (b4or 0 (b4shl 1 (v : Int))) (v : Int)) 1 = 1 ∧ b4or 0 (b4shl 1 (v : Int)) ≠ 0 ∧ b4and (b4or 0 (b4shl 1 (v : Int))) (b4xor (b4shl 1 (v : Int)) (-1)) = 0 ∧ ones (b4or 0 (b4shl 1 (v : Int))).toNat = 1 := by decide +kernel
/-- pieces with all edges cut -/
theorem pcs15 {R : xN} {s : Nat → Int} {hs : List (Nat → Int)} {H W lg : Nat} {g : gG} (c : CI R s hs) (b : BK s H W g) (hb : g.1 = 1 ∧ g.2.1 = 1) (h8 : s 8 = 15) (hl : lgN s = lg) (hlg : lg < 17) : f_X9_pieces 0 R = some (((if lg = 0 then H * W else if H * W ≤ lg then 1 else H * W - lg + 1 : Nat)) : Int) := by
  have w := b.sw c
  have hD := area_le w.1 w.2.1
  have ht : (s 8).toNat = 15 := by rw [h8]; rfl
  have h := pcs9 c w hb (L := fun j => if j < lg then 0 else j) (fun i hi => by show (if i < lg then 0 else i) < 16; split <;> omega) (by rw [hl, ht]; exact good_lg) (by rw [hl, ht]; exact adj_lg)
  rw [lbS_lg _ (area_num H (len_mem w.1) W (len_mem w.2.1)).2.2 lg hlg] at h
  exact h
theorem isHeld9 {R : xN} {s : Nat → Int} {H W cN : Nat} {g : gG} (ci : CI R s []) (b : BK s H W g) (hb : g.1 = 1 ∧ g.2.1 = 1) (h8 : 0 ≤ s 8 ∧ s 8 ≤ 15) (h9 : s 9 = 0) (h10 : s 10 = 4) (h89 : s 89 = 0) (hc : cN < 2147483648) : ∃ (R' : xN) (s' : Nat → Int), f_L_isHeld 0 ((H * W : Nat) : Int) (cN : Int) R = some (true, R') ∧ CI R' s' [] ∧ ∀ j : Nat, j ≠ 8 → j ≠ 88 → s' j = s j := by
  have w0 := b.sw ci
  have hw := w0.gw
  have hD := area_le w0.1 w0.2.1
  obtain ⟨x, hx⟩ := Int.eq_ofNat_of_zero_le h8.1
  obtain ⟨R0, s1, l1, c0, l3, l4⟩ := held_lp (p1 := ((H * W : Nat) : Int)) (p2 := (cN : Int)) hw hb b 6000 4 0 R s x (by omega) (by omega) ci (fun j _ _ => rfl) hx (by omega) (fun k hk => by omega)
  have b1 : BK s1 H W g := b.mv hw (fun j h => l3 j (by omega) (by omega))
  have q9 : s1 9 = 0 := by rw [l3 9 (by omega) (by omega)]; exact h9
  have q10 : s1 10 = 4 := by rw [l3 10 (by omega) (by omega)]; exact h10
  have q89 : s1 89 = 0 := by rw [l3 89 (by omega) (by omega)]; exact h89
  have e16 : Int.tmod (cN : Int) 16 = ((cN % 16 : Nat) : Int) := tmn (m := 16)
  have e10 : Int.tmod (cN : Int) 10 = ((cN % 10 : Nat) : Int) := tmn (m := 10)
  obtain ⟨lg, hlg⟩ : ∃ lg, cN % 16 + 1 = lg := ⟨_, rfl⟩
  obtain ⟨v, hv⟩ : ∃ v, cN % 10 = v := ⟨_, rfl⟩
  have hlg1 : 1 ≤ lg ∧ lg ≤ 16 := by omega
  have hv10 : v < 10 := by omega
  have elg : Qe (w4 (1 + ((cN % 16 : Nat) : Int))) (lg : Int) := by unfold Qe; rw [w4_of (by omega)]; omega
  obtain ⟨y1, y2, y3, y4, y5⟩ := st_num v hv10
  obtain ⟨z, hz⟩ : ∃ z, b4or 0 (b4shl 1 (v : Int)) = z := ⟨_, rfl⟩
  rw [hz] at y2 y3 y4 y5
  -- legs
  have hs1 : spLegs (lg : Int) s1 = (4, u1 s1 10 (lg : Int)) := by
    unfold spLegs
    rw [if_pos (by omega), q10]
  obtain ⟨R1, a1, -, a3⟩ := dact8 (f9 := f_X9_setLegs 0 (lg : Int)) d_legs (fun _ => rfl) c0 hs1
  have c1 := a3 (nerr (by decide)) (Nat.zero_le 4)
  have b2 : BK (u1 s1 10 (lg : Int)) H W g := b1.mv hw (fun j h => u1_ne (by omega))
  have go2 := gOf_eq (b2.sw c1)
  have r9 : u1 s1 10 (lg : Int) 9 = 0 := by rw [u1_ne (by decide)]; exact q9
  -- a staple
  obtain ⟨s3, hs3⟩ : ∃ s3, u1 (u1 (u1 s1 10 (lg : Int)) 9 z) 89 3 = s3 := ⟨_, rfl⟩
  have hs2 : spStaple (v : Int) (u1 s1 10 (lg : Int)) = ((if ((H * W : Nat) : Int) ≤ (lg : Int) then ((H * W : Nat) : Int) else (lg : Int)), s3) := by
    unfold spStaple
    rw [if_pos (by omega), go2, if_pos hb, r9, if_neg y1, if_neg (by decide), dep_bk hw hb, show u1 s1 10 (lg : Int) 10 = (lg : Int) from u1_eq, show u1 s1 10 (lg : Int) 89 = 0 by rw [u1_ne (by decide)]; exact q89, hz, ← hs3]
    rfl
  obtain ⟨R2, d1, -, d3⟩ := dact8 (f9 := f_X9_staple 0 (v : Int)) d_staple (fun _ => rfl) c1 hs2
  have c2 := d3 (nerr (by
    show (0 : Int) ≤ (if _ then _ else _)
    split
    · exact Int.natCast_nonneg _
    · exact Int.natCast_nonneg _)) (by show 1 ≤ 4; omega)
  have k3 : ∀ j : Nat, j ≠ 9 → j ≠ 10 → j ≠ 89 → s3 j = s1 j := fun j h1 h2 h3 => by rw [← hs3, u1_ne h3, u1_ne h1, u1_ne h2]
  have k39 : s3 9 = z := by rw [← hs3, u1_ne (by decide), u1_eq]
  have k310 : s3 10 = (lg : Int) := by rw [← hs3, u1_ne (by decide), u1_ne (by decide), u1_eq]
  have k389 : s3 89 = 3 := by rw [← hs3, u1_eq]
  have b3 : BK s3 H W g := b1.mv hw (fun j h => k3 j (by omega) (by omega) (by omega))
  have w3 := b3.sw c2
  have go3 := gOf_eq w3
  -- the same staple again, the spine: refused
  have hs4 : spStaple (v : Int) s3 = (-2, s3) := by
    unfold spStaple
    rw [if_pos (by omega), go3, if_pos hb, k39, if_pos y2]
  obtain ⟨R3, f1, f2, -⟩ := dact8 (f9 := f_X9_staple 0 (v : Int)) d_staple (fun _ => rfl) c2 hs4
  have c3 := f2 err2
  have hs5 : spSpine 0 s3 = (-2, s3) := by
    unfold spSpine
    rw [if_pos (by decide), k39, if_neg y3]
  obtain ⟨R4, g1, g2, -⟩ := dact8 (f9 := f_X9_setSpine 0 0) d_spine (fun _ => rfl) c3 hs5
  have c4 := g2 err2
  -- the staple is drawn
  obtain ⟨s5, hs6⟩ : ∃ s5, u1 (u1 s3 9 0) 89 4 = s5 := ⟨_, rfl⟩
  have hs7 : spUnst (v : Int) s3 = (0, s5) := by
    unfold spUnst
    rw [if_pos (by omega), k39, if_pos y2, y4, k389, ← hs6]
    rfl
  obtain ⟨R5, i1, -, i3⟩ := dact8 (f9 := f_X9_unstaple 0 (v : Int)) d_unst (fun _ => rfl) c4 hs7
  have c5 := i3 (nerr (by decide)) (by show 2 ≤ 4; omega)
  have k5 : ∀ j : Nat, j ≠ 9 → j ≠ 89 → s5 j = s3 j := fun j h1 h2 => by rw [← hs6, u1_ne h2, u1_ne h1]
  have k59 : s5 9 = 0 := by rw [← hs6, u1_ne (by decide), u1_eq]
  have k589 : s5 89 = 4 := by rw [← hs6, u1_eq]
  have b5 : BK s5 H W g := b3.mv hw (fun j h => k5 j (by omega) (by omega))
  have w5 := b5.sw c5
  -- undone
  obtain ⟨U6, R6, j1, j2, c6⟩ := undo9 c5
  obtain ⟨U7, R7, m1, m2, c7⟩ := undo9 c6
  obtain ⟨U8, R8, o1, o2, c8⟩ := undo9 c7
  refine ⟨R8, s1, ?_, c8, l3⟩
  have p0 := pcs15 c0 b1 hb l4 (lg := 0) (by unfold lgN; rw [if_pos q9]) (by omega)
  rw [if_pos rfl] at p0
  have p2 := pcs15 c3 b3 hb (by rw [k3 8 (by omega) (by omega) (by omega)]; exact l4) (lg := lg) (by unfold lgN; rw [k39, if_neg y3, k310, Int.toNat_natCast]) (by omega)
  rw [if_neg (by omega)] at p2
  have p5 := pcs15 c5 b5 hb (by rw [k5 8 (by omega) (by omega), k3 8 (by omega) (by omega) (by omega)]; exact l4) (lg := 0) (by unfold lgN; rw [if_pos k59]) (by omega)
  rw [if_pos rfl] at p5
  have ef3 := effk c3 w3 (k := 3) (by omega)
  rw [show 86 + 3 = 89 from rfl, k389] at ef3
  have ef5 := effk c5 w5 (k := 3) (by omega)
  rw [show 86 + 3 = 89 from rfl, k589] at ef5
  have n6 := cnt7 c6 w3
  rw [k39, y5] at n6
  have n7 := cnt7 c7 (b2.sw c7)
  rw [r9] at n7
  have n8 := cnt14 c8 (b1.sw c8)
  rw [q10] at n8
  have et : Qe (w4 (w4 (((H * W : Nat) : Int) - (lg : Int)) + 1)) (((H * W : Nat) : Int) - (lg : Int) + 1) := by unfold Qe; rw [w4_of (x := ((H * W : Nat) : Int) - (lg : Int)) (by omega), w4_of (by omega)]
  obtain ⟨va, va1, va2, va3⟩ := pr1 a1
  obtain ⟨vd, vd1, vd2, vd3⟩ := pr1 d1
  obtain ⟨vf, vf1, vf2, vf3⟩ := pr1 f1
  obtain ⟨vg, vg1, vg2, vg3⟩ := pr1 g1
  obtain ⟨vi, vi1, vi2, vi3⟩ := pr1 i1
  obtain ⟨vj, vj1, vj2, vj3⟩ := pr1 j1
  obtain ⟨vm, vm1, vm2, vm3⟩ := pr1 m1
  obtain ⟨vo, vo1, vo2, vo3⟩ := pr1 o1
  unfold f_L_isHeld
  refine (l1 _).trans ?_
  rw [e16, e10, elg.eq, hv, xlet_eq, p0, Option.bind_some, if_pos rfl, va1, Option.bind_some, va2, va3, if_pos rfl, vd1, Option.bind_some, xlet_eq, vd2, vd3, if_pos rfl, vf1, Option.bind_some, vf2, vf3, if_pos rfl, p2, Option.bind_some, xlet_eq, et.eq]
  have hif : (((if H * W ≤ lg then 1 else H * W - lg + 1 : Nat) : Nat) : Int) = (if ((H * W : Nat) : Int) ≤ (lg : Int) then 1 else ((H * W : Nat) : Int) - (lg : Int) + 1) := by
    by_cases h : H * W ≤ lg
    · rw [if_pos h, if_pos (by omega)]; rfl
    · rw [if_neg h, if_neg (by omega)]; omega
  rw [if_pos hif, show f_X9_effort 0 3 R3 = _ from ef3, Option.bind_some, if_pos rfl, vg1, Option.bind_some, vg2, vg3, if_pos rfl, vi1, Option.bind_some, vi2, vi3, if_pos rfl, show f_X9_effort 0 3 R5 = _ from ef5, Option.bind_some, if_pos rfl, p5, Option.bind_some, if_pos rfl, vj1, Option.bind_some, vj2, vj3, if_neg (by omega), n6, Option.bind_some, if_pos (by rfl), vm1, Option.bind_some, vm2, vm3, if_neg (by omega), n7, Option.bind_some, if_pos (by rfl), vo1, Option.bind_some, vo2, vo3, if_neg (by omega), n8, Option.bind_some, if_pos rfl]
