/-! The law's own numbers. -/
theorem pr1 {α : Type} {o : Option (α × xN)} {x : α} {R : xN} (h : o = some (x, R)) : ∃ v, o = some v ∧ v.1 = x ∧ v.2 = R := ⟨_, h, rfl, rfl⟩
theorem band31 (x : Int) : ∃ v : Nat, v < 2147483648 ∧ b4and x 2147483647 = (v : Int) := by
  have h0 : (Int32.ofInt 2147483647).toBitVec.toNat ≤ 2147483647 := by decide +kernel
  have h1 : (Int32.ofInt x &&& Int32.ofInt 2147483647).toBitVec.toNat ≤ 2147483647 := by
    rw [Int32.toBitVec_and, BitVec.toNat_and]
    exact Nat.le_trans Nat.and_le_right h0
  refine ⟨(Int32.ofInt x &&& Int32.ofInt 2147483647).toBitVec.toNat, by omega, ?_⟩
  show (Int32.ofInt x &&& Int32.ofInt 2147483647).toBitVec.toInt = _
  rw [BitVec.toInt_eq_toNat_of_lt (by omega)]
theorem cell9 {xs : Nat → Int} {xn : Int} {k : Nat} : ∃ v : Nat, v < 2147483648 ∧ ∀ R : xN, f_L_cell xs xn (k : Int) R = some (v : Int) := by
  unfold f_L_cell
  by_cases h : xn ≤ (k : Int)
  · obtain ⟨v, h1, h2⟩ := band31 (w4 (w4 (15485959 * (k : Int)) + 109))
    refine ⟨v, h1, fun R => ?_⟩
    rw [if_pos h, h2]
  · obtain ⟨v, h1, h2⟩ := band31 (xs ((k : Int)).toNat)
    refine ⟨v, h1, fun R => ?_⟩
    rw [if_neg h, if_pos (by omega), h2]
theorem shr31 {v i : Nat} (hv : v < 2147483648) (hi : i < 16) : b4shr (v : Int) (i : Int) = ((v / 2 ^ i : Nat) : Int) := by
  have h1 : (Int32.ofInt (v : Int)).toBitVec.toInt = (v : Int) := by
    rw [Int32.toBitVec_ofInt, BitVec.ofInt_natCast, BitVec.toInt_eq_toNat_of_lt (by rw [BitVec.toNat_ofNat, Nat.mod_eq_of_lt (by omega)]; omega), BitVec.toNat_ofNat, Nat.mod_eq_of_lt (by omega)]
  show (Int32.ofInt (v : Int) >>> (Int32.ofInt (i : Int) &&& 31)).toBitVec.toInt = _
  rw [Int32.toBitVec_shiftRight, BitVec.sshiftRight_eq', BitVec.toInt_sshiftRight, (sh_num i hi).1, h1]
  show ((v : Int) >>> i) = _
  rw [Int.shiftRight_eq_div_pow]
  rfl
theorem tmn {n m : Nat} : Int.tmod (n : Int) (m : Int) = ((n % m : Nat) : Int) := by
  rw [Int.tmod_eq_emod_of_nonneg (Int.natCast_nonneg _)]
  rfl
theorem fby_R {R R' : xN} {X : Int → Int → Int → Int → Option Int} : ∀ (m : Nat) (y3 y4 y5 y6 : Int), lp_L_foldsBy_11 R m y3 y4 y5 y6 X = lp_L_foldsBy_11 R' m y3 y4 y5 y6 X := by
  intro m
  induction m with
  | zero => intro y3 y4 y5 y6; rw [lp_L_foldsBy_11, lp_L_foldsBy_11]
  | succ m ih =>
    intro y3 y4 y5 y6
    rw [lp_L_foldsBy_11, lp_L_foldsBy_11]
    simp only [xlet_eq, ih]
theorem fby_I {a b c : Int} {R R' : xN} : f_L_foldsBy a b c R = f_L_foldsBy a b c R' := by
  unfold f_L_foldsBy
  exact fby_R _ _ _ _ _
def fbQ (r c : Nat) (o : Option Int) : Bool := match o with
  | some v => decide (0 ≤ v) && (decide (v.toNat < 10000) && ((gbk (2 ^ r) (2 ^ c) (v.toNat : Int)).isSome && (((gdk 4 v.toNat).length == r + c) && ((List.range (r + c)).all (fun k => v.toNat / 10 ^ (r + c - 1 - k) % 10 == (gdk 4 v.toNat).getD k 0) && (gfn 0 (gdk 4 v.toNat) == v.toNat)))))
  | none => false
theorem fbQ_of {r c : Nat} {o : Option Int} (h : fbQ r c o = true) : ∃ (n : Nat) (g : gG), o = some (n : Int) ∧ n < 10000 ∧ gbk (2 ^ r) (2 ^ c) (n : Int) = some g ∧ (gdk 4 n).length = r + c ∧ (∀ k, k < r + c → n / 10 ^ (r + c - 1 - k) % 10 = (gdk 4 n).getD k 0) ∧ gfn 0 (gdk 4 n) = n := by
  cases o with
  | none => cases h
  | some v =>
    unfold fbQ at h
    obtain ⟨h0, h⟩ := Bool.and_eq_true_iff.mp h
    obtain ⟨h1, h⟩ := Bool.and_eq_true_iff.mp h
    obtain ⟨h2, h⟩ := Bool.and_eq_true_iff.mp h
    obtain ⟨h3, h⟩ := Bool.and_eq_true_iff.mp h
    obtain ⟨h4, h5⟩ := Bool.and_eq_true_iff.mp h
    obtain ⟨g, hg⟩ := Option.isSome_iff_exists.mp h2
    exact ⟨v.toNat, g, by rw [Int.toNat_of_nonneg (of_decide_eq_true h0)], of_decide_eq_true h1, hg, beq_iff_eq.mp h3, fun k hk => beq_iff_eq.mp (List.all_eq_true.mp h4 k (List.mem_range.mpr hk)), beq_iff_eq.mp h5⟩
set_option maxHeartbeats 40000000 in
theorem fb_all : ∀ r : Nat, r < 3 → ∀ c : Nat, c < 3 → ∀ w : Nat, w < 256 → fbQ r c (f_L_foldsBy (w : Int) (r : Int) (c : Int) (fun _ _ => 0)) = true := by decide +kernel
theorem fby9 {r c w : Nat} (hr : r < 3) (hc : c < 3) (hw : w < 256) : ∃ (n : Nat) (g : gG), (∀ R : xN, f_L_foldsBy (w : Int) (r : Int) (c : Int) R = some (n : Int)) ∧ n < 10000 ∧ gbk (2 ^ r) (2 ^ c) (n : Int) = some g ∧ (gdk 4 n).length = r + c ∧ (∀ k, k < r + c → n / 10 ^ (r + c - 1 - k) % 10 = (gdk 4 n).getD k 0) ∧ gfn 0 (gdk 4 n) = n := by
  obtain ⟨n, g, h1, h2⟩ := fbQ_of (fb_all r hr c hc w hw)
  exact ⟨n, g, fun R => fby_I.trans h1, h2⟩
theorem lon_R {p : Int} {R R' : xN} {X : Int → Int → Option Int} : ∀ (m : Nat) (y1 y2 : Int), lp_L_ones_4 p R m y1 y2 X = lp_L_ones_4 p R' m y1 y2 X := by
  intro m
  induction m with
  | zero => intro y1 y2; rw [lp_L_ones_4, lp_L_ones_4]
  | succ m ih =>
    intro y1 y2
    rw [lp_L_ones_4, lp_L_ones_4]
    simp only [xlet_eq, ih]
theorem lon_num : ∀ n : Nat, n < 16 → f_L_ones (n : Int) (fun _ _ => 0) = some (ones n : Int) := by decide +kernel
theorem lones9 {n : Nat} {R : xN} (h : n < 16) : f_L_ones (n : Int) R = some (ones n : Int) := by
  rw [← lon_num n h]
  unfold f_L_ones
  exact lon_R _ _ _
/-- a booklet's row of a state that is told by its first cells -/
theorem CI.sw {R : xN} {s : Nat → Int} {hs : List (Nat → Int)} {H W : Nat} {g : gG} (c : CI R s hs) (h0 : s 0 = (H : Int)) (h1 : s 1 = (W : Int)) (hg : gall (gfs s) (gg0 H W) = some g) : SW s H W g := by
  obtain ⟨H', W', g', w, r⟩ := c.1.1
  have e1 : H' = H := by have := w.2.2.1; omega
  have e2 : W' = W := by have := w.2.2.2.1; omega
  subst e1 e2
  have h3 := w.2.2.2.2.2.2.1
  rw [hg] at h3
  cases h3
  exact w
theorem gall_app : ∀ {a b : List Nat} {g : gG}, gall (a ++ b) g = (gall a g).bind (gall b) := by
  intro a
  induction a with
  | nil => intro b g; rfl
  | cons f a ih =>
    intro b g
    rw [List.cons_append, gall_cons, gall_cons]
    by_cases h : gok f g = true
    · rw [if_pos h, if_pos h]; exact ih
    · rw [if_neg h, if_neg h]; rfl
