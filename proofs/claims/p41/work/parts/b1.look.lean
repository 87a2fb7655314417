/-! What the object tells of its state. -/
theorem sdx_num : ∀ n : Nat, n < 64 → ∀ p : Nat, p < 32 → b4xor (sid n : Int) (b4and (p : Int) 1) = (sdN n p : Int) := by decide +kernel
theorem cnt2 {R : xN} {s : Nat → Int} {hs : List (Nat → Int)} {H W : Nat} {g : gG} (c : CI R s hs) (w : SW s H W g) : f_X9_count 0 2 R = some (s 2) := by
  have r := c.dr w
  have h65 : R (0 + 6) 5 = (g.2.2.1 : Int) := r.2.2.2.1.2.2.2.2.2.1
  unfold f_X9_count
  rw [if_neg (by decide), if_neg (by decide), if_pos rfl, h65, w.cnt]
theorem cnt3 {R : xN} {s : Nat → Int} {hs : List (Nat → Int)} {H W : Nat} {g : gG} (c : CI R s hs) (w : SW s H W g) : f_X9_count 0 3 R = some ((2 ^ g.2.2.1 : Nat) : Int) := by
  have r := c.dr w
  unfold f_X9_count
  rw [if_neg (by decide), if_neg (by decide), if_neg (by decide), if_pos rfl, show 0 + 6 = 6 from rfl, dep9 r.2.2.2.1 w.gw]
  rfl
theorem cnt4 {R : xN} {s : Nat → Int} {hs : List (Nat → Int)} {H W : Nat} {g : gG} (c : CI R s hs) (w : SW s H W g) : f_X9_count 0 4 R = some (gfn 0 (gfs s) : Int) := by
  have r := c.dr w
  have h64 : R (0 + 6) 4 = (gfn 0 (gfs s) : Int) := r.2.2.2.1.2.2.2.2.1
  unfold f_X9_count
  rw [if_neg (by decide), if_neg (by decide), if_neg (by decide), if_neg (by decide), if_pos rfl, h64]
theorem cnt5 {R : xN} {s : Nat → Int} {hs : List (Nat → Int)} {H W : Nat} {g : gG} (c : CI R s hs) (w : SW s H W g) (hb : g.1 = 1 ∧ g.2.1 = 1) : f_X9_count 0 5 R = some 1 := by
  have r := c.dr w
  unfold f_X9_count
  rw [if_neg (by decide), if_neg (by decide), if_neg (by decide), if_neg (by decide), if_neg (by decide), if_pos rfl, show 0 + 6 = 6 from rfl, isb9 r.2.2.2.1, Option.bind_some, decide_eq_true hb, asn9.1]
  rfl
theorem cnt6 {R : xN} {s : Nat → Int} {hs : List (Nat → Int)} {H W : Nat} {g : gG} (c : CI R s hs) (w : SW s H W g) : f_X9_count 0 6 R = some (s 8) := by
  have r := c.dr w
  have h6 : R (0 + 2) 6 = s 8 := r.2.2.2.2.2.1
  unfold f_X9_count
  rw [if_neg (by decide), if_neg (by decide), if_neg (by decide), if_neg (by decide), if_neg (by decide), if_neg (by decide), if_pos rfl, h6]
theorem cnt7 {R : xN} {s : Nat → Int} {hs : List (Nat → Int)} {H W : Nat} {g : gG} (c : CI R s hs) (w : SW s H W g) : f_X9_count 0 7 R = some (ones (s 9).toNat : Int) := by
  have r := c.dr w
  have h7 : R (0 + 2) 7 = s 9 := r.2.2.2.2.2.2.1
  have k10 := w.2.2.2.2.2.2.2.2.2.1
  unfold f_X9_count
  rw [if_neg (by decide), if_neg (by decide), if_neg (by decide), if_neg (by decide), if_neg (by decide), if_neg (by decide), if_neg (by decide), if_pos rfl, h7, bc_eq ⟨k10.1, k10.2.1⟩]
  rfl
theorem cnt13 {R : xN} {s : Nat → Int} {hs : List (Nat → Int)} {H W : Nat} {g : gG} (c : CI R s hs) (w : SW s H W g) : f_X9_count 0 13 R = some (s 11) := by
  have r := c.dr w
  have h9 : R (0 + 2) 9 = s 11 := r.2.2.2.2.2.2.2.2.1
  unfold f_X9_count
  rw [if_neg (by decide), if_neg (by decide), if_neg (by decide), if_neg (by decide), if_neg (by decide), if_neg (by decide), if_neg (by decide), if_neg (by decide), if_neg (by decide), if_neg (by decide), if_neg (by decide), if_neg (by decide), if_neg (by decide), if_pos rfl, h9]
theorem cnt14 {R : xN} {s : Nat → Int} {hs : List (Nat → Int)} {H W : Nat} {g : gG} (c : CI R s hs) (w : SW s H W g) : f_X9_count 0 14 R = some (s 10) := by
  have r := c.dr w
  have h8 : R (0 + 2) 8 = s 10 := r.2.2.2.2.2.2.2.1
  unfold f_X9_count
  rw [if_neg (by decide), if_neg (by decide), if_neg (by decide), if_neg (by decide), if_neg (by decide), if_neg (by decide), if_neg (by decide), if_neg (by decide), if_neg (by decide), if_neg (by decide), if_neg (by decide), if_neg (by decide), if_neg (by decide), if_neg (by decide), if_pos rfl, h8]
theorem effk {R : xN} {s : Nat → Int} {hs : List (Nat → Int)} {H W : Nat} {g : gG} (c : CI R s hs) (w : SW s H W g) {k : Nat} (hk : k < 4) : f_X9_effort 0 (k : Int) R = some (s (86 + k)) := by
  have r := c.dr w
  have r14 : ∀ k : Nat, k < 4 → R 15 k = s (86 + k) := r.2.2.2.2.2.2.2.2.2.2.2.2.2
  unfold f_X9_effort
  rw [if_neg (by omega), in9, Option.bind_some, if_pos (decide_eq_true (by omega)), show 0 + 2 = 2 from rfl, eff9 r14 hk]
  rfl
/-- a booklet: its leaves -/
theorem bk9 {R : xN} {s : Nat → Int} {hs : List (Nat → Int)} {H W : Nat} {g : gG} (c : CI R s hs) (w : SW s H W g) (hb : g.1 = 1 ∧ g.2.1 = 1) : f_X3_isBooklet 6 R = some true ∧ LB R 6 H W g.2.2.2 ∧ PR R s H W ∧ 1 ≤ H * W ∧ H * W ≤ 16 := by
  have r := c.dr w
  have h1 := w.gw.dep
  have h2 := (book_iff w.gw).mpr hb
  refine ⟨by rw [isb9 r.2.2.2.1, decide_eq_true hb], lb_of w.gw r.2.2.2.1 hb, pr_of w r, by omega, area_le w.1 w.2.1⟩
theorem page9 {R : xN} {s : Nat → Int} {hs : List (Nat → Int)} {H W : Nat} {g : gG} (c : CI R s hs) (w : SW s H W g) (hb : g.1 = 1 ∧ g.2.1 = 1) {p : Nat} (hp : p < 2 * (H * W)) (i : Int) : f_X9_page 0 (p : Int) i R = (if i = 0 then
  (f_X3_rowAt 6 (w4 (Int.tdiv (p : Int) 2)) R).bind (fun v7 => some (v7, R)) else if i = 1 then
  (f_X3_columnAt 6 (w4 (Int.tdiv (p : Int) 2)) R).bind (fun v9 => some (v9, R)) else if i = 2 then
  (f_X3_sideOfPage 6 (p : Int) R).bind (fun v11 => some (v11, R)) else if i = 3 then
  (f_X0_numberOn 2 6 (p : Int) R).bind (fun v13 => some (v13, R)) else if i = 4 then
  (f_X9_uprightOn 2 (p : Int) R).bind (fun v15 => some (v15, R)) else if i = 5 then
  (f_X0_isHidden 2 (p : Int) R).bind (fun v17 => (f_X9_asNumber v17 R).bind (fun v18 => some (v18, R))) else if i = 6 then
  (f_X0_whyNotRead 2 (p : Int) R).bind (fun v20 => if v20 = 0 then (f_X9_asNumber true R).bind (fun v22 => some (v22, R)) else (f_X9_asNumber false R).bind (fun v23 => some (v23, R))) else if i = 7 then
  (f_X2_arrange (0 + 314) (0 + 2) R).bind (fun v25 => (f_X2_takenOn (0 + 314) (p : Int) (0 + 13) v25).bind (fun v26 => some (v26, v25))) else some ((-1), R)) := by
  obtain ⟨q9, L9, hP, hD1, hD⟩ := bk9 c w hb
  unfold f_X9_page
  rw [show 0 + 6 = 6 from rfl, q9, Option.bind_some, if_pos rfl, lastp L9.1, Option.bind_some, in9, Option.bind_some]
  exact (if_pos (decide_eq_true (by omega))).trans rfl
theorem page0 {R : xN} {s : Nat → Int} {hs : List (Nat → Int)} {H W : Nat} {g : gG} (c : CI R s hs) (w : SW s H W g) (hb : g.1 = 1 ∧ g.2.1 = 1) {p : Nat} (hp : p < 2 * (H * W)) : f_X9_page 0 (p : Int) 0 R = some ((cr (g.2.2.2 (p / 2)) : Int), R) ∧ f_X9_page 0 (p : Int) 1 R = some (((g.2.2.2 (p / 2) % 4 : Nat) : Int), R) ∧ f_X9_page 0 (p : Int) 2 R = some ((sdN (g.2.2.2 (p / 2)) p : Int), R) := by
  obtain ⟨q9, L9, hP, hD1, hD⟩ := bk9 c w hb
  have hp2 : p / 2 < H * W := by omega
  obtain ⟨hn, hnR⟩ := L9.1.2.1 (p / 2) hp2
  have e2 := half (p := p) (by omega)
  have hi16 : p / 2 < 16 := by omega
  have hsd : Qe _ _ := sdx_num (g.2.2.2 (p / 2)) hn p (by omega)
  refine ⟨?_, ?_, ?_⟩
  · rw [page9 c w hb hp, if_pos rfl, e2.eq, row9 hi16 hnR hn, Option.bind_some]
  · rw [page9 c w hb hp, if_neg (by decide), if_pos rfl, e2.eq, col9 hi16 hnR hn, Option.bind_some]
  · rw [page9 c w hb hp, if_neg (by decide), if_neg (by decide), if_pos rfl]
    unfold f_X3_sideOfPage f_X3_sideUpAt
    rw [e2.eq, at3 hi16, Option.bind_some, hnR, suI_eq, su_num _ hn, Option.bind_some, Option.bind_some, hsd.eq, Option.bind_some]
theorem page3 {R : xN} {s : Nat → Int} {hs : List (Nat → Int)} {H W : Nat} {g : gG} (c : CI R s hs) (w : SW s H W g) (hb : g.1 = 1 ∧ g.2.1 = 1) {p : Nat} (hp : p < 2 * (H * W)) (ho : own s W g.2.2.2 p) : f_X9_page 0 (p : Int) 3 R = some ((p : Int), R) ∧ f_X9_page 0 (p : Int) 4 R = some (1, R) := by
  obtain ⟨q9, L9, hP, hD1, hD⟩ := bk9 c w hb
  have hnum := num9 hP L9 hp
  have hupr := upr9 hP L9 hp
  obtain ⟨o1, o2⟩ := ho
  have hn : nine (p : Int) = (p : Int) := by unfold nine; rw [if_neg (by omega)]
  rw [o1, hn] at hnum
  rw [decide_eq_true o2] at hupr
  refine ⟨?_, ?_⟩
  · rw [page9 c w hb hp, if_neg (by decide), if_neg (by decide), if_neg (by decide), if_pos rfl, hnum, Option.bind_some]
  · rw [page9 c w hb hp, if_neg (by decide), if_neg (by decide), if_neg (by decide), if_neg (by decide), if_pos rfl]
    unfold f_X9_uprightOn
    rw [show 2 + 4 = 6 from rfl, hnum, Option.bind_some, if_neg (by omega), hupr, Option.bind_some, asn9.1, Option.bind_some, Option.bind_some]
theorem page5 {R : xN} {s : Nat → Int} {hs : List (Nat → Int)} {H W : Nat} {g : gG} (c : CI R s hs) (w : SW s H W g) (hb : g.1 = 1 ∧ g.2.1 = 1) {p : Nat} (hp : p < 2 * (H * W)) (ho : own s W g.2.2.2 p) : (hid s g.2.2.2 (H * W) p → f_X9_page 0 (p : Int) 5 R = some (1, R) ∧ f_X9_page 0 (p : Int) 6 R = some (0, R)) ∧ (¬ hid s g.2.2.2 (H * W) p → f_X9_page 0 (p : Int) 5 R = some (0, R) ∧ f_X9_page 0 (p : Int) 6 R = some (1, R)) := by
  obtain ⟨q9, L9, hP, hD1, hD⟩ := bk9 c w hb
  have r := c.dr w
  have h8 := w.2.2.2.2.2.2.2.2.1
  obtain ⟨d1, d2⟩ := hid9 L9.1 hp r.2.2.2.2.1 r.2.2.2.2.2.1 h8
  obtain ⟨y1, y2⟩ := why9 hP L9 hp r.2.2.2.2.2.1 h8
  refine ⟨fun h => ⟨?_, ?_⟩, fun h => ⟨?_, ?_⟩⟩
  · rw [page9 c w hb hp, if_neg (by decide), if_neg (by decide), if_neg (by decide), if_neg (by decide), if_neg (by decide), if_pos rfl, d1 h, Option.bind_some, asn9.1, Option.bind_some]
  · rw [page9 c w hb hp, if_neg (by decide), if_neg (by decide), if_neg (by decide), if_neg (by decide), if_neg (by decide), if_neg (by decide), if_pos rfl, y1 h, Option.bind_some, if_neg (by decide), asn9.2, Option.bind_some]
  · rw [page9 c w hb hp, if_neg (by decide), if_neg (by decide), if_neg (by decide), if_neg (by decide), if_neg (by decide), if_pos rfl, d2 h, Option.bind_some, asn9.2, Option.bind_some]
  · rw [page9 c w hb hp, if_neg (by decide), if_neg (by decide), if_neg (by decide), if_neg (by decide), if_neg (by decide), if_neg (by decide), if_pos rfl, y2 h, why_0.mpr ho, Option.bind_some, if_pos rfl, asn9.1, Option.bind_some]
theorem side9 {R : xN} {s : Nat → Int} {hs : List (Nat → Int)} {H W : Nat} {g : gG} (c : CI R s hs) (w : SW s H W g) {a b d : Nat} (ha : a < H) (hb : b < W) (hd : d < 2) : f_X9_side 0 (a : Int) (b : Int) (d : Int) 0 R = some (nine (s (90 + (2 * (W * a + b) + d)))) := by
  have r := c.dr w
  have hP := pr_of w r
  obtain ⟨k1, k2, -⟩ := id w
  have r1 : R (0 + 3) 0 = (H : Int) := r.1
  have r2 : R (0 + 3) 1 = (W : Int) := r.2.1
  have hH4 : H ≤ 4 := by rcases k1 with rfl | rfl | rfl <;> omega
  have hW4 : W ≤ 4 := by rcases k2 with rfl | rfl | rfl <;> omega
  have e1 : Qe (w4 ((H : Int) - 1)) ((H : Int) - 1) := by unfold Qe; rw [w4_of (by omega)]
  have e2 : Qe (w4 ((W : Int) - 1)) ((W : Int) - 1) := by unfold Qe; rw [w4_of (by omega)]
  unfold f_X9_side f_X5_hasSide
  rw [r1, r2, e1.eq, e2.eq, in9, Option.bind_some, if_pos (decide_eq_true (by omega)), in9, Option.bind_some, if_pos (decide_eq_true (by omega)), in9, Option.bind_some, if_pos (decide_eq_true (by omega)), Option.bind_some, if_pos rfl, in9, Option.bind_some]
  obtain ⟨s1, s2⟩ := sd_num (r := a) (c := b) (b := d) k1 k2 (by omega) (by omega) (by omega)
  obtain ⟨p1, p2⟩ := pl_rc (r := a) (c := b) (b := d) k1 k2 (by omega) (by omega) (by omega)
  generalize hk : 2 * (W * a + b) + d = k at *
  have hk32 : k < 32 := by have := area_le k1 k2; omega
  obtain ⟨⟨q1, q2⟩, q3, q4⟩ := hP.2.2.2 k p2
  have hl := pl_lt k1 k2 p2
  rw [if_pos (decide_eq_true (by omega))]
  unfold f_X9_cellAt f_X9_placeOfSide
  rw [Option.bind_some, Option.bind_some, s1.eq, if_pos rfl]
  unfold f_X5_numberAt
  rw [in9, Option.bind_some, if_pos (decide_eq_true (by omega)), if_pos (by omega), tnc, show R (0 + 3 + 1) (pl W k) = _ from q1]
  rfl
theorem pof_lp {R : xN} {D : Nat} {F : Nat → Int} (hD : D ≤ 16) (h9 : ∀ p : Nat, p < 2 * D → f_X0_numberOn 2 6 (p : Int) R = some (F p)) {u : Nat} (hu : u < 2 * D) (hF : ∀ p : Nat, p < 2 * D → F p = (p : Int)) : ∀ (n c p : Nat), c < n → p + c = u → lp_X9_pageOf_44 0 (u : Int) (2 * (D : Int) - 1) R n (p : Int) (fun z10 => some (-9)) = some (u : Int) := by
  intro n
  induction n with
  | zero => intro c p h; omega
  | succ n ih =>
    intro c p h1 h2
    have e5 : Qe (w4 ((p : Int) + 1)) ((p + 1 : Nat) : Int) := by unfold Qe; rw [w4_of (by omega)]; omega
    rw [lp_X9_pageOf_44, if_neg (by omega), show 0 + 2 = 2 from rfl, show 0 + 6 = 6 from rfl, h9 p (by omega), Option.bind_some, hF p (by omega)]
    cases c with
    | zero => rw [if_pos (by omega), show p = u by omega]
    | succ c =>
      rw [if_neg (by omega), xlet_eq, e5.eq]
      exact ih c (p + 1) (by omega) (by omega)
theorem pageOf9 {R : xN} {s : Nat → Int} {hs : List (Nat → Int)} {H W : Nat} {g : gG} (c : CI R s hs) (w : SW s H W g) (hb : g.1 = 1 ∧ g.2.1 = 1) (ho : ∀ p : Nat, p < 2 * (H * W) → own s W g.2.2.2 p) {p : Nat} (hp : p < 2 * (H * W)) : f_X9_pageOf 0 (p : Int) R = some (p : Int) := by
  obtain ⟨q9, L9, hP, hD1, hD⟩ := bk9 c w hb
  unfold f_X9_pageOf
  rw [show 0 + 6 = 6 from rfl, q9, Option.bind_some, if_pos rfl, in9, Option.bind_some, if_pos (decide_eq_true (by omega)), lastp L9.1, Option.bind_some]
  exact pof_lp (D := H * W) hD (F := fun p => nine (s (90 + kS W (g.2.2.2 (p / 2)) p))) (fun p hp => num9 hP L9 hp) hp (fun p hp => by
    show nine _ = _
    rw [(ho p hp).1]; unfold nine; rw [if_neg (by omega)]) 6000 p 0 (by omega) (by omega)
/-- the edges that shut an opening -/
def shz (s : Nat → Int) (H W : Nat) (g : gG) (o : Nat) : Nat := msk (s 8).toNat (spE s) (shN g.2.2.2 (H * W) o)
theorem open9 {R : xN} {s : Nat → Int} {hs : List (Nat → Int)} {H W : Nat} {g : gG} (c : CI R s hs) (w : SW s H W g) (hb : g.1 = 1 ∧ g.2.1 = 1) {o : Nat} (ho : o ≤ H * W) : f_X9_opening 0 (o : Int) 0 R = some (if shz s H W g o = 0 then 0 else 1) ∧ f_X9_opening 0 (o : Int) 1 R = some (shz s H W g o : Int) ∧ (shz s H W g o = 0 → f_X9_opening 0 (o : Int) 2 R = some (if o = 0 ∨ o = H * W then s 11 else s 11 * 2)) := by
  obtain ⟨q9, L9, hP, hD1, hD⟩ := bk9 c w hb
  have r := c.dr w
  have h8 := w.2.2.2.2.2.2.2.2.1
  have h11 := w.2.2.2.2.2.2.2.2.2.2.2.1
  have r9 : R 2 9 = s 11 := r.2.2.2.2.2.2.2.2.1
  have e3 : Qe (w4 (s 11 * 2)) (s 11 * 2) := by unfold Qe; rw [w4_of (by omega)]
  have S9 := shut9 L9.1 (o := o) (by omega) r.2.2.2.2.1 r.2.2.2.2.2.1 h8
  have hpre : ∀ i : Int, f_X9_opening 0 (o : Int) i R = (if i = 0 then (f_X0_shutEdges (0 + 2) (o : Int) R).bind (fun v7 => if v7 = 0 then (f_X9_asNumber false R).bind (fun v9 => some v9) else (f_X9_asNumber true R).bind (fun v10 => some v10)) else if i = 1 then (f_X0_shutEdges (0 + 2) (o : Int) R).bind (fun v12 => some v12) else if i = 2 then (f_X0_linesAt (0 + 2) (o : Int) R).bind (fun v14 => some v14) else some (-1)) := fun i => by
    unfold f_X9_opening
    rw [show 0 + 6 = 6 from rfl, q9, Option.bind_some, if_pos rfl, L9.1.2.2, Option.bind_some, in9, Option.bind_some, if_pos (decide_eq_true (by omega))]
  unfold shz
  generalize msk (s 8).toNat (spE s) (shN g.2.2.2 (H * W) o) = z at *
  refine ⟨?_, ?_, fun hz => ?_⟩
  · rw [hpre, if_pos rfl, show 0 + 2 = 2 from rfl, S9, Option.bind_some, asn9.1, asn9.2]
    by_cases hz : z = 0
    · rw [if_pos (show (z : Int) = 0 by omega), if_pos hz]; rfl
    · rw [if_neg (show ¬ (z : Int) = 0 by omega), if_neg hz]; rfl
  · rw [hpre, if_neg (show ¬ (1 : Int) = 0 by decide), if_pos rfl, show 0 + 2 = 2 from rfl, S9]
    rfl
  · rw [hpre, if_neg (show ¬ (2 : Int) = 0 by decide), if_neg (show ¬ (2 : Int) = 1 by decide), if_pos rfl]
    unfold f_X0_linesAt
    rw [show 0 + 2 = 2 from rfl, S9, Option.bind_some, if_pos (show (z : Int) = 0 by omega), show 2 + 4 = 6 from rfl, L9.1.2.2, r9, e3.eq]
    by_cases c0 : o = 0
    · rw [if_pos (show (o : Int) = 0 by omega), if_pos (Or.inl c0)]; rfl
    · rw [if_neg (show ¬ (o : Int) = 0 by omega), Option.bind_some, xlet_eq]
      by_cases cD : o = H * W
      · rw [if_pos (show (o : Int) = ((H * W : Nat) : Int) by omega), if_pos (Or.inr cD)]; rfl
      · rw [if_neg (show ¬ (o : Int) = ((H * W : Nat) : Int) by omega), if_neg (show ¬ (o = 0 ∨ o = H * W) by omega)]; rfl
theorem hang9 {R : xN} {s : Nat → Int} {hs : List (Nat → Int)} {H W : Nat} {g : gG} (c : CI R s hs) (w : SW s H W g) (hb : g.1 = 1 ∧ g.2.1 = 1) {e : Nat} (he : e < 4) : (hasb (s 8) (e : Int) → f_X9_hanging 0 (e : Int) R = some 0) ∧ (¬ hasb (s 8) (e : Int) → f_X9_hanging 0 (e : Int) R = some (pcS H W g.2.2.2 e : Int)) := by
  obtain ⟨q9, L9, hP, hD1, hD⟩ := bk9 c w hb
  have r := c.dr w
  have r4 : LRg R 6 H W g (gfn 0 (gfs s)) := r.2.2.2.1
  unfold f_X9_hanging
  rw [show 0 + 6 = 6 from rfl, q9, Option.bind_some, if_pos rfl, in9, Option.bind_some, if_pos (decide_eq_true (by omega)), show R (0 + 2) 6 = s 8 from r.2.2.2.2.2.1]
  refine ⟨fun hc => ?_, fun hc => ?_⟩
  · rw [inset9 hc, Option.bind_some, if_pos rfl]
  · rw [inset9n hc, Option.bind_some, if_neg (by decide), prs9 L9.1 r4.1 r4.2.1, Option.bind_some]
theorem pcs9 {R : xN} {s : Nat → Int} {hs : List (Nat → Int)} {H W : Nat} {g : gG} (c : CI R s hs) (w : SW s H W g) (hb : g.1 = 1 ∧ g.2.1 = 1) {L : Nat → Nat} (hl16 : ∀ i, i < H * W → L i < 16) (hg : good (H * W) (aH (lgN s) (s 8).toNat g.2.2.2) L) (hA : ∀ i j, i < H * W → j < H * W → aH (lgN s) (s 8).toNat g.2.2.2 i j = true → L i = L j) : f_X9_pieces 0 R = some (cK 16 (lbS L (H * W)) : Int) := by
  obtain ⟨q9, L9, hP, hD1, hD⟩ := bk9 c w hb
  have r := c.dr w
  have h8 := w.2.2.2.2.2.2.2.2.1
  have h10 := w.2.2.2.2.2.2.2.2.2.2.1
  have hPC : PC R s (H * W) g.2.2.2 := ⟨L9.1, r.2.2.2.2.2.1, r.2.2.2.2.2.2.1, r.2.2.2.2.2.2.2.1, h8, h10⟩
  have h0 := cnt_lp hPC hl16 hg hA 6000 (H * W) 0 0 (by omega) (by omega) (by omega) (fun b _ => by
    rw [Nat.zero_testBit]
    exact ⟨fun h => absurd h (by decide), fun ⟨k, h, _⟩ => by omega⟩) some
  rw [show lbS L 0 = 0 from rfl, cK_0, z0] at h0
  unfold f_X9_pieces f_X0_countPieces
  rw [show 0 + 6 = 6 from rfl, q9, Option.bind_some, if_pos rfl, show 0 + 2 = 2 from rfl, h0, Option.bind_some]
/-- the first hidden page from p on, or the end -/
def fhd (hd : Nat → Bool) : Nat → Nat → Nat
  | p, 0 => p
  | p, c + 1 => if hd p = true then p else fhd hd (p + 1) c
theorem fhd_le {hd : Nat → Bool} : ∀ (c p : Nat), p ≤ fhd hd p c ∧ fhd hd p c ≤ p + c ∧ (fhd hd p c < p + c → hd (fhd hd p c) = true) := by
  intro c
  induction c with
  | zero => intro p; exact ⟨Nat.le_refl _, Nat.le_refl _, fun h => by have : p < p + 0 := h; omega⟩
  | succ c ih =>
    intro p
    unfold fhd
    by_cases h : hd p = true
    · rw [if_pos h]; exact ⟨Nat.le_refl _, by omega, fun _ => h⟩
    · rw [if_neg h]
      obtain ⟨a, b, d⟩ := ih (p + 1)
      exact ⟨by omega, by omega, fun h => d (by omega)⟩
theorem rdg_lp {R : xN} {D : Nat} {u : Int} {hd : Nat → Bool} (hD : D ≤ 16) (h1 : ∀ p : Nat, p < 2 * D → f_X0_whyNotRead 2 (p : Int) R = some (if hd p = true then 1 else 0)) : ∀ (n c p : Nat), c < n → p + c = 2 * D → ∀ X : Int → Option Int, lp_X9_reading_43 0 u (2 * (D : Int) - 1) R n (p : Int) X = if fhd hd p c = 2 * D then X ((2 * D : Nat) : Int) else some (if u = 2 then 1 else (fhd hd p c : Int)) := by
  intro n
  induction n with
  | zero => intro c p h; omega
  | succ n ih =>
    intro c p g1 g2 X
    have e5 : Qe (w4 ((p : Int) + 1)) ((p + 1 : Nat) : Int) := by unfold Qe; rw [w4_of (by omega)]; omega
    rw [lp_X9_reading_43]
    cases c with
    | zero => rw [if_pos (by omega), if_pos (show fhd hd p 0 = 2 * D from g2), show p = 2 * D from g2]
    | succ c =>
      rw [if_neg (by omega), show 0 + 2 = 2 from rfl, h1 p (by omega), Option.bind_some]
      unfold fhd
      by_cases hh : hd p = true
      · rw [if_pos hh, if_pos hh, if_neg (by decide), if_neg (show ¬ p = 2 * D by omega), xlet_eq]
      · rw [if_neg hh, if_neg hh, if_pos rfl, xlet_eq, e5.eq]
        exact ih c (p + 1) (by omega) (by omega) X
def hdB (s : Nat → Int) (H W : Nat) (g : gG) (p : Nat) : Bool := decide (shz s H W g ((p + 1) / 2) ≠ 0)
theorem hdB_1 {s : Nat → Int} {H W : Nat} {g : gG} {p : Nat} : hdB s H W g p = true ↔ hid s g.2.2.2 (H * W) p := by unfold hdB; exact decide_eq_true_iff
theorem rdg9 {R : xN} {s : Nat → Int} {hs : List (Nat → Int)} {H W : Nat} {g : gG} (c : CI R s hs) (w : SW s H W g) (hb : g.1 = 1 ∧ g.2.1 = 1) (ho : ∀ p : Nat, p < 2 * (H * W) → own s W g.2.2.2 p) {u : Int} (hu : 0 ≤ u ∧ u ≤ 2) : f_X9_reading 0 u R = some (if fhd (hdB s H W g) 0 (2 * (H * W)) = 2 * (H * W) then (if u = 0 then ((2 * (H * W) : Nat) : Int) else -9) else (if u = 2 then 1 else (fhd (hdB s H W g) 0 (2 * (H * W)) : Int))) := by
  obtain ⟨q9, L9, hP, hD1, hD⟩ := bk9 c w hb
  have r := c.dr w
  have h8 := w.2.2.2.2.2.2.2.2.1
  have e1 : Qe (w4 (2 * ((H * W : Nat) : Int) - 1 + 1)) ((2 * (H * W) : Nat) : Int) := by unfold Qe; rw [w4_of (by omega)]; omega
  have hl := rdg_lp (R := R) (u := u) (hd := hdB s H W g) hD (fun p hp => by
    obtain ⟨y1, y2⟩ := why9 hP L9 hp r.2.2.2.2.2.1 h8
    by_cases hh : hdB s H W g p = true
    · rw [y1 (hdB_1.mp hh), if_pos hh]
    · rw [y2 (fun h => hh (hdB_1.mpr h)), if_neg hh, why_0.mpr (ho p hp)]) 6000 (2 * (H * W)) 0 (by omega) (by omega)
  rw [z0] at hl
  unfold f_X9_reading
  rw [show 0 + 6 = 6 from rfl, q9, Option.bind_some, if_pos rfl, in9, Option.bind_some, if_pos (decide_eq_true (by omega)), lastp L9.1, Option.bind_some, hl, e1.eq]
  by_cases hk : fhd (hdB s H W g) 0 (2 * (H * W)) = 2 * (H * W)
  · rw [if_pos hk, if_pos hk, xlet_eq]
  · rw [if_neg hk, if_neg hk]
