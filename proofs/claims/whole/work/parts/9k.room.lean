/-! Notes laid out: room for a note. -/
theorem dvq {y L : Nat} (hy : y < 100000) : Qe (w4 (Int.tdiv (y : Int) (L : Int))) ((y / L : Nat) : Int) := by
  unfold Qe
  have h := Nat.div_le_self y L
  rw [Int.tdiv_eq_ediv_of_nonneg (Int.natCast_nonneg _), show ((y : Int) / (L : Int)) = ((y / L : Nat) : Int) from rfl]
  generalize y / L = q at h ⊢
  exact w4_of (by omega)
theorem mdq {y L : Nat} : Qe (Int.tmod (y : Int) (L : Int)) ((y % L : Nat) : Int) := by
  unfold Qe
  rw [Int.tmod_eq_emod_of_nonneg (Int.natCast_nonneg _)]; rfl
def mxN (a b : Nat) : Nat := if b < a then a else b
/-- the first line from nx on at which a note of len lines is whole on an opening -/
def rmW (S : Nat → Nat) (nx len : Nat) : Nat → Nat → Int
  | 0, _ => -1
  | c + 1, o => if S (o + 1) ≤ nx then rmW S nx len c (o + 1) else if S (o + 1) < mxN (S o) nx + len then rmW S nx len c (o + 1) else (mxN (S o) nx : Int)
def gd (S : Nat → Nat) (D nx len f : Nat) : Prop := nx ≤ f ∧ ∃ o, o ≤ D ∧ S o ≤ f ∧ f + len ≤ S (o + 1)
def lst' (S : Nat → Nat) (D nx len : Nat) (v : Int) : Prop := (v = -1 ∧ ∀ f, ¬ gd S D nx len f) ∨ ∃ n : Nat, v = (n : Int) ∧ gd S D nx len n ∧ ∀ f, gd S D nx len f → n ≤ f
theorem lst_uniq {S : Nat → Nat} {D nx len : Nat} {v v' : Int} (h : lst' S D nx len v) (h' : lst' S D nx len v') : v = v' := by
  rcases h with ⟨h1, h2⟩ | ⟨n, h1, h2, h3⟩
  · rcases h' with ⟨g1, g2⟩ | ⟨m, g1, g2, g3⟩
    · rw [h1, g1]
    · exact absurd g2 (h2 m)
  · rcases h' with ⟨g1, g2⟩ | ⟨m, g1, g2, g3⟩
    · exact absurd h2 (g2 n)
    · have := h3 m g2
      have := g3 n h2
      omega
theorem mxN_le {a b : Nat} : a ≤ mxN a b ∧ b ≤ mxN a b ∧ ∀ f, a ≤ f → b ≤ f → mxN a b ≤ f := by
  unfold mxN
  split <;> refine ⟨by omega, by omega, fun f h1 h2 => by omega⟩
theorem rmW_spec {S : Nat → Nat} {D nx len : Nat} (hS : ∀ a b, a ≤ b → b ≤ D + 1 → S a ≤ S b) (hl : 1 ≤ len) : ∀ (c o : Nat), o + c = D + 1 → (rmW S nx len c o = -1 ∧ ∀ f o', o ≤ o' → o' ≤ D → nx ≤ f → S o' ≤ f → ¬ f + len ≤ S (o' + 1)) ∨ ∃ n : Nat, rmW S nx len c o = (n : Int) ∧ gd S D nx len n ∧ ∀ f o', o ≤ o' → o' ≤ D → nx ≤ f → S o' ≤ f → f + len ≤ S (o' + 1) → n ≤ f := by
  intro c
  induction c with
  | zero => intro o h; exact Or.inl ⟨rfl, fun f o' h1 h2 => by omega⟩
  | succ c ih =>
    intro o h
    obtain ⟨m1, m2, m3⟩ := mxN_le (a := S o) (b := nx)
    have none_here : (S (o + 1) ≤ nx ∨ S (o + 1) < mxN (S o) nx + len) → ∀ f, nx ≤ f → S o ≤ f → ¬ f + len ≤ S (o + 1) := fun hc f h1 h2 h3 => by
      have := m3 f h2 h1
      omega
    have go : (S (o + 1) ≤ nx ∨ S (o + 1) < mxN (S o) nx + len) → rmW S nx len (c + 1) o = rmW S nx len c (o + 1) := fun hc => by
      show (if S (o + 1) ≤ nx then rmW S nx len c (o + 1) else if S (o + 1) < mxN (S o) nx + len then rmW S nx len c (o + 1) else (mxN (S o) nx : Int)) = _
      rcases hc with hc | hc
      · rw [if_pos hc]
      · rw [if_pos hc]; split <;> rfl
    by_cases hc : S (o + 1) ≤ nx ∨ S (o + 1) < mxN (S o) nx + len
    · rw [go hc]
      rcases ih (o + 1) (by omega) with ⟨h1, h2⟩ | ⟨n, h1, h2, h3⟩
      · refine Or.inl ⟨h1, fun f o' g1 g2 g3 g4 => ?_⟩
        by_cases q : o' = o
        · subst q; exact none_here hc f g3 g4
        · exact h2 f o' (by omega) g2 g3 g4
      · refine Or.inr ⟨n, h1, h2, fun f o' g1 g2 g3 g4 g5 => ?_⟩
        by_cases q : o' = o
        · subst q; exact absurd g5 (none_here hc f g3 g4)
        · exact h3 f o' (by omega) g2 g3 g4 g5
    · refine Or.inr ⟨mxN (S o) nx, ?_, ⟨m2, o, by omega, m1, by omega⟩, fun f o' g1 g2 g3 g4 g5 => m3 f (by have := hS o o' g1 (by omega); omega) g3⟩
      show (if S (o + 1) ≤ nx then rmW S nx len c (o + 1) else if S (o + 1) < mxN (S o) nx + len then rmW S nx len c (o + 1) else (mxN (S o) nx : Int)) = _
      rw [if_neg (fun h => hc (Or.inl h)), if_neg (fun h => hc (Or.inr h))]
theorem rmW_lst {S : Nat → Nat} {D nx len : Nat} (hS : ∀ a b, a ≤ b → b ≤ D + 1 → S a ≤ S b) (hl : 1 ≤ len) : lst' S D nx len (rmW S nx len (D + 1) 0) := by
  rcases rmW_spec (nx := nx) hS hl (D + 1) 0 (by omega) with ⟨h1, h2⟩ | ⟨n, h1, h2, h3⟩
  · exact Or.inl ⟨h1, fun f ⟨g1, o, g2, g3, g4⟩ => h2 f o (Nat.zero_le o) g2 g1 g3 g4⟩
  · exact Or.inr ⟨n, h1, h2, fun f ⟨g1, o, g2, g3, g4⟩ => h3 f o (Nat.zero_le o) g2 g1 g3 g4⟩
theorem rmW_ge {S : Nat → Nat} {nx len : Nat} : ∀ (c o : Nat), -1 ≤ rmW S nx len c o := by
  intro c
  induction c with
  | zero => intro o; show (-1 : Int) ≤ -1; omega
  | succ c ih =>
    intro o
    have := ih (o + 1)
    show -1 ≤ (if S (o + 1) ≤ nx then rmW S nx len c (o + 1) else if S (o + 1) < mxN (S o) nx + len then rmW S nx len c (o + 1) else (mxN (S o) nx : Int))
    split
    · exact this
    · split
      · exact this
      · omega
/-- the class's search for a whole opening -/
theorem rfw_lp {R : xN} {S : Nat → Nat} {D nx len : Nat} (hD : D ≤ 16) (h5 : R 314 5 = ((D + 1 : Nat) : Int)) (h8 : ∀ k : Nat, k ≤ D + 1 → R 318 k = (S k : Int) ∧ S k ≤ 288) (hn : nx ≤ 288) (hl : len ≤ 20) : ∀ (n c o : Nat), c < n → o + c = D + 1 → lp_X2_roomForWhole_2 314 (nx : Int) (len : Int) R n (o : Int) (fun z10 => some (-9)) = some (nine (rmW S nx len c o)) := by
  intro n
  induction n with
  | zero => intro c o h; omega
  | succ n ih =>
    intro c o h1 h2
    cases c with
    | zero =>
      rw [lp_X2_roomForWhole_2, h5, if_pos (by omega)]
      rfl
    | succ c =>
      obtain ⟨s1, s2⟩ := h8 o (by omega)
      obtain ⟨s3, s4⟩ := h8 (o + 1) (by omega)
      have e5 : Qe (w4 ((o : Int) + 1)) ((o + 1 : Nat) : Int) := by unfold Qe; rw [w4_of (by omega)]; omega
      have g1 : (0 : Int) ≤ ((o + 1 : Nat) : Int) ∧ ((o + 1 : Nat) : Int) < 18 := by omega
      have g2 : (0 : Int) ≤ (o : Int) ∧ (o : Int) < 18 := by omega
      have em : Qe (if (nx : Int) < (S o : Int) then (S o : Int) else (nx : Int)) (mxN (S o) nx : Int) := by
        unfold Qe mxN
        by_cases q : nx < S o
        · rw [if_pos (by omega), if_pos q]
        · rw [if_neg (by omega), if_neg q]
      have hm := (mxN_le (a := S o) (b := nx)).2.2 288 s2 hn
      have e6 : Qe (w4 ((mxN (S o) nx : Int) + (len : Int))) ((mxN (S o) nx + len : Nat) : Int) := by unfold Qe; rw [w4_of (by omega)]; omega
      have hi := ih c (o + 1) (by omega) (by omega)
      have hr : rmW S nx len (c + 1) o = if S (o + 1) ≤ nx then rmW S nx len c (o + 1) else if S (o + 1) < mxN (S o) nx + len then rmW S nx len c (o + 1) else (mxN (S o) nx : Int) := rfl
      rw [lp_X2_roomForWhole_2, h5, if_neg (by omega), e5.eq, if_pos g1, tnc, tnc, show 314 + 4 = 318 from rfl, s3, s1, hr, if_pos g2, xlet_eq, xlet_eq, if_pos g1, em.eq, e6.eq]
      by_cases c1 : S (o + 1) ≤ nx
      · rw [if_pos (by omega), if_pos c1]; exact hi
      · rw [if_neg (by omega), if_neg c1]
        by_cases c2 : S (o + 1) < mxN (S o) nx + len
        · rw [if_pos (by omega), if_pos c2]; exact hi
        · rw [if_neg (by omega), if_neg c2]
          unfold nine
          rw [if_neg (by omega)]
/-- which opening a line is on -/
def OM (R : xN) (S : Nat → Nat) (D : Nat) : Prop := ∀ y : Nat, y < S (D + 1) → ∃ o : Nat, o ≤ D ∧ f_X10_openingOf 323 (y : Int) R = some (o : Int) ∧ S o ≤ y ∧ y < S (o + 1)
theorem om_uniq {S : Nat → Nat} {D o o' y : Nat} (hS : ∀ a b, a ≤ b → b ≤ D + 1 → S a ≤ S b) (h1 : o ≤ D) (h2 : o' ≤ D) (h3 : S o ≤ y) (h4 : y < S (o + 1)) (h5 : S o' ≤ y) (h6 : y < S (o' + 1)) : o = o' := by
  by_cases c1 : o < o'
  · have := hS (o + 1) o' (by omega) (by omega); omega
  · by_cases c2 : o' < o
    · have := hS (o' + 1) o (by omega) (by omega); omega
    · omega
/-- a look at one line -/
theorem wf_at {R : xN} {S : Nat → Nat} {D nx len y o1 o2 : Nat} (hS : ∀ a b, a ≤ b → b ≤ D + 1 → S a ≤ S b) (hl : 1 ≤ len) (hy : nx ≤ y) (ho1 : o1 ≤ D) (ho2 : o2 ≤ D) (a1 : S o1 ≤ y) (a2 : y < S (o1 + 1)) (b1 : S o2 ≤ y + len - 1) (b2 : y + len - 1 < S (o2 + 1)) : gd S D nx len y ↔ o1 = o2 := by
  constructor
  · rintro ⟨-, o, g1, g2, g3⟩
    have e1 := om_uniq hS g1 ho1 g2 (by omega) a1 a2
    have e2 := om_uniq hS g1 ho2 (show S o ≤ y + len - 1 by omega) (by omega) b1 b2
    omega
  · intro e
    subst e
    exact ⟨hy, o1, ho1, a1, by omega⟩
theorem wf_lp {R : xN} {S : Nat → Nat} {D nx len : Nat} (hS : ∀ a b, a ≤ b → b ≤ D + 1 → S a ≤ S b) (hT : S (D + 1) ≤ 288) (hO : OM R S D) (hl : 1 ≤ len ∧ len ≤ 20) : ∀ (n c y : Nat), c < n → y + c = S (D + 1) → nx < y → (∀ f, f < y → ¬ gd S D nx len f) → ∃ v : Int, lp_X10_wholeFrom_42 323 (nx : Int) (len : Int) (S (D + 1) : Int) R n (y : Int) (fun z16 => some (-1)) = some v ∧ lst' S D nx len v := by
  have htop : ∀ f, gd S D nx len f → f + len ≤ S (D + 1) := fun f ⟨_, o, g1, _, g3⟩ => by
    have := hS (o + 1) (D + 1) (by omega) (Nat.le_refl _); omega
  intro n
  induction n with
  | zero => intro c y h; omega
  | succ n ih =>
    intro c y h1 h2 h3 h4
    cases c with
    | zero =>
      refine ⟨-1, ?_, Or.inl ⟨rfl, fun f hf => ?_⟩⟩
      · rw [lp_X10_wholeFrom_42, if_pos (by omega)]
      · exact h4 f (by have := htop f hf; omega) hf
    | succ c =>
      have e5 : Qe (w4 ((y : Int) + 1)) ((y + 1 : Nat) : Int) := by unfold Qe; rw [w4_of (by omega)]; omega
      have e6 : Qe (w4 ((y : Int) - 1)) ((y - 1 : Nat) : Int) := by unfold Qe; rw [w4_of (by omega)]; omega
      have e7 : Qe (w4 ((y : Int) + (len : Int))) ((y + len : Nat) : Int) := by unfold Qe; rw [w4_of (by omega)]; omega
      have e8 : Qe (w4 (((y + len : Nat) : Int) - 1)) ((y + len - 1 : Nat) : Int) := by unfold Qe; rw [w4_of (by omega)]; omega
      obtain ⟨o1, p1, p2, p3, p4⟩ := hO y (by omega)
      obtain ⟨o0, q1, q2, q3, q4⟩ := hO (y - 1) (by omega)
      have go : ¬ gd S D nx len y → ∃ v : Int, lp_X10_wholeFrom_42 323 (nx : Int) (len : Int) (S (D + 1) : Int) R n ((y + 1 : Nat) : Int) (fun z16 => some (-1)) = some v ∧ lst' S D nx len v := fun hn => ih c (y + 1) (by omega) (by omega) (by omega) (fun f hf => by
        by_cases q : f = y
        · rw [q]; exact hn
        · exact h4 f (by omega))
      rw [lp_X10_wholeFrom_42, if_neg (by omega), if_neg (by omega), p2, e6.eq, q2, Option.bind_some, Option.bind_some, xlet_eq, e5.eq, e7.eq, e8.eq]
      by_cases c1 : o1 = o0
      · rw [if_pos (by omega)]
        refine go (fun hg => ?_)
        obtain ⟨k1, o, k2, k3, k4⟩ := hg
        have := om_uniq hS k2 p1 k3 (by omega) p3 p4
        subst this
        exact h4 (y - 1) (by omega) ⟨by omega, o, k2, by rw [c1]; exact q3, by omega⟩
      · rw [if_neg (by omega)]
        by_cases c2 : S (D + 1) < y + len
        · rw [if_pos (by omega)]
          exact go (fun hg => by have := htop y hg; omega)
        · obtain ⟨o2, r1, r2, r3, r4⟩ := hO (y + len - 1) (by omega)
          have hgd := wf_at (R := R) (nx := nx) hS hl.1 (by omega) p1 r1 p3 p4 r3 r4
          rw [if_neg (by omega), Option.bind_some, r2, Option.bind_some]
          by_cases c3 : o1 = o2
          · rw [if_pos (by omega)]
            exact ⟨_, rfl, Or.inr ⟨y, rfl, hgd.mpr c3, fun f hf => by
              by_cases q : f < y
              · exact absurd hf (h4 f q)
              · omega⟩⟩
          · rw [if_neg (by omega)]
            exact go (fun hg => c3 (hgd.mp hg))
theorem wf10 {R : xN} {S : Nat → Nat} {D nx len L k : Nat} (hS : ∀ a b, a ≤ b → b ≤ D + 1 → S a ≤ S b) (hT : S (D + 1) ≤ 288) (hO : OM R S D) (hl : 1 ≤ len ∧ len ≤ 20) (hn : nx ≤ S (D + 1)) (h28 : R 323 28 = (k : Int)) (h11 : R 324 11 = (L : Int)) (hk : L * k = S (D + 1)) : f_X10_wholeFrom 323 (nx : Int) (len : Int) R = some (rmW S nx len (D + 1) 0) := by
  have htop : ∀ f, gd S D nx len f → f + len ≤ S (D + 1) := fun f ⟨_, o, g1, _, g3⟩ => by
    have := hS (o + 1) (D + 1) (by omega) (Nat.le_refl _); omega
  have e1 : Qe (w4 ((k : Int) * (L : Int))) (S (D + 1) : Int) := by
    have : (k : Int) * (L : Int) = (S (D + 1) : Int) := by rw [← hk, Int.mul_comm]; rfl
    unfold Qe
    rw [this, w4_of (by omega)]
  have e5 : Qe (w4 ((nx : Int) + 1)) ((nx + 1 : Nat) : Int) := by unfold Qe; rw [w4_of (by omega)]; omega
  have e7 : Qe (w4 ((nx : Int) + (len : Int))) ((nx + len : Nat) : Int) := by unfold Qe; rw [w4_of (by omega)]; omega
  have e8 : Qe (w4 (((nx + len : Nat) : Int) - 1)) ((nx + len - 1 : Nat) : Int) := by unfold Qe; rw [w4_of (by omega)]; omega
  have rl := rmW_lst (nx := nx) hS hl.1
  -- the search
  have go : ¬ gd S D nx len nx → lp_X10_wholeFrom_42 323 (nx : Int) (len : Int) (S (D + 1) : Int) R 6000 (nx : Int) (fun z16 => some (-1)) = some (rmW S nx len (D + 1) 0) := fun hg => by
    have h0 : ∀ f, f < nx + 1 → ¬ gd S D nx len f := fun f hf hgf => by
      have := hgf.1
      rw [show f = nx by omega] at hgf
      exact hg hgf
    by_cases c1 : nx = S (D + 1)
    · have : lst' S D nx len (-1) := Or.inl ⟨rfl, fun f hf => h0 f (by have := htop f hf; omega) hf⟩
      rw [lp_X10_wholeFrom_42, if_pos (by omega), lst_uniq this rl]
    · obtain ⟨v, v1, v2⟩ := wf_lp (nx := nx) hS hT hO hl 5999 (S (D + 1) - (nx + 1)) (nx + 1) (by omega) (by omega) (by omega) h0
      rw [lp_X10_wholeFrom_42, if_neg (by omega), if_pos (by omega), xlet_eq, e5.eq, v1, lst_uniq v2 rl]
  unfold f_X10_wholeFrom
  rw [xlet_eq, show 323 + 1 = 324 from rfl, h28, h11, e1.eq, e7.eq, e8.eq]
  by_cases c1 : S (D + 1) < nx + len
  · rw [if_pos (by omega)]
    exact go (fun hg => by have := htop nx hg; omega)
  · obtain ⟨o1, p1, p2, p3, p4⟩ := hO nx (by omega)
    obtain ⟨o2, r1, r2, r3, r4⟩ := hO (nx + len - 1) (by omega)
    have hgd := wf_at (R := R) (nx := nx) hS hl.1 (Nat.le_refl nx) p1 r1 p3 p4 r3 r4
    rw [if_neg (by omega), p2, Option.bind_some, r2, Option.bind_some]
    by_cases c3 : o1 = o2
    · have : lst' S D nx len (nx : Int) := Or.inr ⟨nx, rfl, hgd.mpr c3, fun f hf => hf.1⟩
      rw [if_pos (by omega), lst_uniq this rl]
    · rw [if_neg (by omega)]
      exact go (fun hg => c3 (hgd.mp hg))
/-- lines and pages of the model -/
theorem om_of {R : xN} {z : Nat → Nat} {L D : Nat} (hD : 1 ≤ D ∧ D ≤ 16) (hL : 1 ≤ L ∧ L ≤ 9) (h11 : R 324 11 = (L : Int)) (hP : Pg R 338 z (2 * D)) : OM R (sT z L D) D := by
  intro y hy
  have hT := sT_le (z := z) (L := L) (o := D + 1) hL.2 hD.2
  rw [sT_top] at hy hT
  have hq : y / L < cV z (2 * D) := Nat.div_lt_of_lt_mul hy
  obtain ⟨p, p1, p2, p3⟩ := cV_inv (2 * D) (y / L) hq
  have hp := hP p p1 p2
  rw [p3] at hp
  have hc := cV_le (z := z) (2 * D)
  have hm : L * (y / L) ≤ y := Nat.mul_div_le y L
  have hm2 : y < L * (y / L + 1) := by
    have := Nat.div_add_mod y L
    have := Nat.mod_lt y (show L > 0 by omega)
    rw [Nat.mul_add]; omega
  have g1 : (0 : Int) ≤ ((y / L : Nat) : Int) ∧ ((y / L : Nat) : Int) < 32 := by omega
  have eh := half1 (p := p) (by omega)
  refine ⟨(p + 1) / 2, by omega, ?_, ?_, ?_⟩
  · unfold f_X10_openingOf
    rw [show 323 + 1 = 324 from rfl, h11, if_pos (show (L : Int) ≠ 0 by omega), (dvq (y := y) (L := L) (by omega)).eq, if_pos g1, tnc, show 323 + 15 = 338 from rfl, hp, eh.eq]
  · unfold sT
    rw [if_pos (by omega)]
    have := cV_mono (z := z) (p := 2 * ((p + 1) / 2) - 1) p (by omega)
    rw [p3] at this
    have := Nat.mul_le_mul_left L this
    omega
  · unfold sT
    have h1 : cV z (p + 1) = y / L + 1 := by rw [cV_s, p2, p3]
    have h2 : cV z (p + 1) ≤ cV z (if (p + 1) / 2 + 1 ≤ D then 2 * ((p + 1) / 2 + 1) - 1 else 2 * D) := cV_mono _ (by split <;> omega)
    have := Nat.mul_le_mul_left L h2
    rw [h1] at this
    omega
