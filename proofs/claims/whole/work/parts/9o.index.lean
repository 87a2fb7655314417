/-! The index. -/
/-- the first line about a subject among the first notes -/
def flA (s f : Nat → Int) (sub : Int) : Nat → Int
  | 0 => -9
  | a + 1 => if s (38 + 4 * a) = sub then (if f a < 0 then flA s f sub a else if flA s f sub a = -9 then f a else if flA s f sub a ≤ f a then flA s f sub a else f a) else flA s f sub a
def pgL (p : Nat → Int) (L : Nat) (v : Int) : Int := if v < 0 then -1 else p (v.toNat / L)
theorem flA_ok {R1 R2 : xN} {s : Nat → Int} {L N K : Nat} {sub : Int} (h : Lay R1 R2 s L N K) (hs : NS s N) : ∀ a, a ≤ N → flA s (R2 339) sub a = -9 ∨ ∃ y : Nat, flA s (R2 339) sub a = (y : Int) ∧ y < L * K := by
  have hf : ∀ a, a < N → 0 ≤ R2 339 a → ∃ y : Nat, R2 339 a = (y : Int) ∧ y < L * K := fun a ha g => by
    obtain ⟨y, hy⟩ := Int.eq_ofNat_of_zero_le g
    have := (h.2.2.2.2.2.2.1 a ha).2 g
    have hl := (hs a ha).1
    have : (lnN s a : Int) = s (40 + 4 * a) := by unfold lnN; omega
    exact ⟨y, hy, by omega⟩
  intro a
  induction a with
  | zero => intro _; exact Or.inl rfl
  | succ a ih =>
    intro ha
    have hi := ih (by omega)
    show (if s (38 + 4 * a) = sub then (if R2 339 a < 0 then flA s (R2 339) sub a else if flA s (R2 339) sub a = -9 then R2 339 a else if flA s (R2 339) sub a ≤ R2 339 a then flA s (R2 339) sub a else R2 339 a) else flA s (R2 339) sub a) = -9 ∨ ∃ y : Nat, (if s (38 + 4 * a) = sub then (if R2 339 a < 0 then flA s (R2 339) sub a else if flA s (R2 339) sub a = -9 then R2 339 a else if flA s (R2 339) sub a ≤ R2 339 a then flA s (R2 339) sub a else R2 339 a) else flA s (R2 339) sub a) = (y : Int) ∧ y < L * K
    by_cases c1 : s (38 + 4 * a) = sub
    · rw [if_pos c1]
      by_cases c2 : R2 339 a < 0
      · rw [if_pos c2]; exact hi
      · rw [if_neg c2]
        have hfa := hf a (by omega) (by omega)
        by_cases c3 : flA s (R2 339) sub a = -9
        · rw [if_pos c3]; exact Or.inr hfa
        · rw [if_neg c3]
          by_cases c4 : flA s (R2 339) sub a ≤ R2 339 a
          · rw [if_pos c4]; exact hi
          · rw [if_neg c4]; exact Or.inr hfa
    · rw [if_neg c1]; exact hi
theorem fla_lp {R1 R2 : xN} {s : Nat → Int} {L N K : Nat} {sub : Int} (h : Lay R1 R2 s L N K) (hB : NB R1 s N) : ∀ (n c a : Nat), c < n → a + c = N → ∀ X : Int → Int → Option Int, lp_X2_firstLineAbout_6 314 13 sub R1 n (flA s (R2 339) sub a) (a : Int) X = X (flA s (R2 339) sub N) (N : Int) := by
  have hN := hB.2.1
  intro n
  induction n with
  | zero => intro c a g; omega
  | succ n ih =>
    intro c a g1 g2 X
    cases c with
    | zero => rw [lp_X2_firstLineAbout_6, hB.2.2.1, if_pos (by omega), show a = N by omega]
    | succ c =>
      have e5 : Qe (w4 ((a : Int) + 1)) ((a + 1 : Nat) : Int) := by unfold Qe; rw [w4_of (by omega)]; omega
      have ga : (0 : Int) ≤ (a : Int) ∧ (a : Int) < 12 := by omega
      have hi := ih c (a + 1) (by omega) (by omega) X
      have hd : flA s (R2 339) sub (a + 1) = if s (38 + 4 * a) = sub then (if R2 339 a < 0 then flA s (R2 339) sub a else if flA s (R2 339) sub a = -9 then R2 339 a else if flA s (R2 339) sub a ≤ R2 339 a then flA s (R2 339) sub a else R2 339 a) else flA s (R2 339) sub a := rfl
      rw [hd] at hi
      have hl := (h.2.2.2.2.2.2.1 a (by omega)).1
      rw [lp_X2_firstLineAbout_6, hB.2.2.1, if_neg (by omega), if_neg (by omega), if_pos ga, tnc, show 314 + 2 = 316 from rfl, hl, xlet_eq]
      unfold f_X4_subjectOf
      rw [nf9 (f := 0) (m := 0) hB (by omega) rfl (by omega), Option.bind_some, Option.bind_some, show 38 + 0 = 38 from rfl, e5.eq]
      by_cases c1 : s (38 + 4 * a) = sub
      · rw [if_pos c1] at hi ⊢
        by_cases c2 : R2 339 a < 0
        · rw [if_pos c2] at hi
          rw [show nine (R2 339 a) = -9 by unfold nine; rw [if_pos c2], if_pos rfl, xlet_eq]
          exact hi
        · rw [if_neg c2] at hi
          rw [show nine (R2 339 a) = R2 339 a by unfold nine; rw [if_neg c2], if_neg (show ¬ R2 339 a = -9 by omega)]
          by_cases c3 : flA s (R2 339) sub a = -9
          · rw [if_pos c3] at hi ⊢
            exact hi
          · rw [if_neg c3] at hi ⊢
            by_cases c4 : flA s (R2 339) sub a ≤ R2 339 a
            · rw [if_pos c4] at hi ⊢
              exact hi
            · rw [if_neg c4] at hi ⊢
              exact hi
      · rw [if_neg c1] at hi ⊢
        exact hi
theorem pg_mono {R1 R2 : xN} {s : Nat → Int} {L N K q q' : Nat} (h : Lay R1 R2 s L N K) (h1 : q ≤ q') (h2 : q' < K) : R2 338 q ≤ R2 338 q' := by
  by_cases c : q = q'
  · rw [c]; exact Int.le_refl _
  · have := h.2.2.2.2.2.1 q q' (by omega) h2
    omega
theorem pby_lp {R1 R2 : xN} {s : Nat → Int} {L N K : Nat} {sub : Int} (h : Lay R1 R2 s L N K) (hs : NS s N) (hL : 1 ≤ L ∧ L ≤ 9) (hN : N ≤ 12) (hr : R2 324 = s) (h37 : s 37 = (N : Int)) (h11 : s 11 = (L : Int)) : ∀ (n c a : Nat), c < n → a + c = N → ∀ X : Int → Int → Option Int, lp_X10_pageBy_4 323 sub R2 n (pgL (R2 338) L (flA s (R2 339) sub a)) (a : Int) X = X (pgL (R2 338) L (flA s (R2 339) sub N)) (N : Int) := by
  intro n
  induction n with
  | zero => intro c a g; omega
  | succ n ih =>
    intro c a g1 g2 X
    cases c with
    | zero => rw [lp_X10_pageBy_4, show 323 + 1 = 324 from rfl, hr, h37, if_pos (by omega), show a = N by omega]
    | succ c =>
      have e5 : Qe (w4 ((a : Int) + 1)) ((a + 1 : Nat) : Int) := by unfold Qe; rw [w4_of (by omega)]; omega
      have ga : (0 : Int) ≤ (a : Int) ∧ (a : Int) < 12 := by omega
      have g38 : (0 : Int) ≤ ((38 + 4 * a : Nat) : Int) ∧ ((38 + 4 * a : Nat) : Int) < 464 := by omega
      have hi := ih c (a + 1) (by omega) (by omega) X
      have hd : flA s (R2 339) sub (a + 1) = if s (38 + 4 * a) = sub then (if R2 339 a < 0 then flA s (R2 339) sub a else if flA s (R2 339) sub a = -9 then R2 339 a else if flA s (R2 339) sub a ≤ R2 339 a then flA s (R2 339) sub a else R2 339 a) else flA s (R2 339) sub a := rfl
      rw [hd] at hi
      have ho := flA_ok (sub := sub) h hs a (by omega)
      rw [lp_X10_pageBy_4, show 323 + 1 = 324 from rfl, hr, h37, if_neg (by omega), (nx0 (show a < 12 by omega)).eq, if_pos g38, tnc, e5.eq]
      by_cases c1 : s (38 + 4 * a) = sub
      · rw [if_pos c1] at hi ⊢
        rw [if_pos ga, tnc, show 323 + 16 = 339 from rfl]
        by_cases c2 : R2 339 a < 0
        · rw [if_pos c2] at hi ⊢
          exact hi
        · rw [if_neg c2] at hi ⊢
          obtain ⟨y, hy⟩ := Int.eq_ofNat_of_zero_le (show 0 ≤ R2 339 a by omega)
          have hyb : y < L * K := by
            have := (h.2.2.2.2.2.2.1 a (by omega)).2 (by omega)
            have hl := (hs a (by omega)).1
            have : (lnN s a : Int) = s (40 + 4 * a) := by unfold lnN; omega
            omega
          obtain ⟨p1, p2, p3⟩ := pgl9 h hL hyb
          have p2' : (0 : Int) ≤ ((y / L : Nat) : Int) ∧ ((y / L : Nat) : Int) < 32 := by
            have := h.2.2.2.1
            generalize y / L = q at p2 ⊢
            omega
          have hpy : pgL (R2 338) L (y : Int) = R2 338 (y / L) := by
            unfold pgL
            rw [if_neg (by omega), tnc]
          rw [if_pos ga, h11, if_pos (show (L : Int) ≠ 0 by omega), hy, (dvq (y := y) (L := L) (by omega)).eq, if_pos p2', tnc, show 323 + 15 = 338 from rfl, xlet_eq, xlet_eq, xlet_eq]
          rw [hy] at hi
          rcases ho with ho | ⟨l, ho, hlb⟩
          · rw [ho, if_pos rfl, hpy] at hi
            have : pgL (R2 338) L (-9) = -1 := rfl
            rw [ho, this, if_pos (by omega)]
            exact hi
          · obtain ⟨r1, r2, r3⟩ := pgl9 h hL hlb
            have hpl : pgL (R2 338) L (l : Int) = R2 338 (l / L) := by
              unfold pgL
              rw [if_neg (by omega), tnc]
            have hp0 := (h.2.2.2.2.1 (l / L) r2).2
            rw [ho, if_neg (by omega)] at hi
            rw [ho, hpl, if_neg (by omega)]
            by_cases c4 : (l : Int) ≤ (y : Int)
            · rw [if_pos c4, hpl] at hi
              have := pg_mono h (Nat.div_le_div_right (c := L) (show l ≤ y by omega)) p2
              rw [if_pos this]
              exact hi
            · rw [if_neg c4, hpy] at hi
              have := pg_mono h (Nat.div_le_div_right (c := L) (show y ≤ l by omega)) r2
              by_cases c5 : R2 338 (l / L) ≤ R2 338 (y / L)
              · rw [if_pos c5, show R2 338 (l / L) = R2 338 (y / L) by omega]
                exact hi
              · rw [if_neg c5]
                exact hi
      · rw [if_neg c1] at hi ⊢
        exact hi
theorem idx_lp {R1 R2 : xN} {s : Nat → Int} {L N K i : Nat} {b : Int} (h : Lay R1 R2 s L N K) (hB : NB R1 s N) (hs : NS s N) (hL : 1 ≤ L ∧ L ≤ 9) (hr : R2 324 = s) (h11 : s 11 = (L : Int)) (hi : i ≤ 2147483647) : ∀ (c n m x y : Nat), c < n → c < m → y + c = 100 → x ≤ i → ∃ v : Int, lp_X9_index_50 0 (i : Int) b R1 n (x : Int) (y : Int) (fun _ _ => some ((-9), R1)) = some (v, R1) ∧ lp_X10_index_35 323 b R2 m ((i - x : Nat) : Int) (y : Int) (fun _ _ => some ((-9), R2)) = some (v, R2) := by
  have hN := hB.2.1
  intro c
  induction c with
  | zero =>
    intro n m x y g1 g2 g3 g4
    obtain ⟨n, rfl⟩ : ∃ n', n = n' + 1 := ⟨n - 1, by omega⟩
    obtain ⟨m, rfl⟩ : ∃ m', m = m' + 1 := ⟨m - 1, by omega⟩
    refine ⟨-9, ?_, ?_⟩
    · rw [lp_X9_index_50, if_pos (by omega)]
    · rw [lp_X10_index_35, if_pos (by omega)]
  | succ c ih =>
    intro n m x y g1 g2 g3 g4
    obtain ⟨n, rfl⟩ : ∃ n', n = n' + 1 := ⟨n - 1, by omega⟩
    obtain ⟨m, rfl⟩ : ∃ m', m = m' + 1 := ⟨m - 1, by omega⟩
    have e5 : Qe (w4 ((y : Int) + 1)) ((y + 1 : Nat) : Int) := by unfold Qe; rw [w4_of (by omega)]; omega
    have f1 : f_X2_firstLineAbout 314 (y : Int) 13 R1 = some (flA s (R2 339) (y : Int) N) := by
      have := fla_lp (sub := (y : Int)) h hB 6000 N 0 (by omega) (by omega) (fun z15 z16 => some z15)
      rw [z0] at this
      exact this
    have f2 : f_X10_pageBy 323 (y : Int) R2 = some (pgL (R2 338) L (flA s (R2 339) (y : Int) N)) := by
      have := pby_lp (sub := (y : Int)) h hs hL hN hr hB.1 h11 6000 N 0 (by omega) (by omega) (fun z15 z16 => some z15)
      rw [z0] at this
      exact this
    have e0 : Qe (w4 (((i - x : Nat) : Int) - 0)) ((i - x : Nat) : Int) := by unfold Qe; rw [w4_of (by omega)]; omega
    rw [lp_X9_index_50, lp_X10_index_35, if_neg (by omega), if_neg (by omega), show 0 + 314 = 314 from rfl, show 0 + 13 = 13 from rfl, f1, f2, Option.bind_some, Option.bind_some, e5.eq]
    rcases flA_ok (sub := (y : Int)) h hs N (Nat.le_refl N) with ho | ⟨l, ho, hlb⟩
    · have hp : pgL (R2 338) L (-9) = -1 := rfl
      rw [ho, hp, if_pos rfl, if_pos (by omega), if_pos (by omega), xlet_eq, xlet_eq, xlet_eq, e0.eq]
      exact ih n m x (y + 1) (by omega) (by omega) (by omega) g4
    · obtain ⟨p1, p2, p3⟩ := pgl9 h hL hlb
      have hpl : pgL (R2 338) L (l : Int) = R2 338 (l / L) := by
        unfold pgL
        rw [if_neg (by omega), tnc]
      have hp0 := (h.2.2.2.2.1 (l / L) p2).2
      rw [ho, hpl, if_neg (show ¬ (l : Int) = -9 by omega), if_neg (show ¬ R2 338 (l / L) < 0 by omega)]
      by_cases cx : x = i
      · rw [if_pos (show (x : Int) = (i : Int) by omega), if_pos (show ((i - x : Nat) : Int) = 0 by omega), xlet_eq]
        by_cases cb : b = 0
        · rw [if_pos cb, if_pos cb]
          exact ⟨_, rfl, rfl⟩
        · rw [if_neg cb, if_neg cb, p1, Option.bind_some]
          exact ⟨_, rfl, rfl⟩
      · have e6 : Qe (w4 ((x : Int) + 1)) ((x + 1 : Nat) : Int) := by unfold Qe; rw [w4_of (by omega)]; omega
        have e7 : Qe (w4 (((i - x : Nat) : Int) - 1)) ((i - (x + 1) : Nat) : Int) := by unfold Qe; rw [w4_of (by omega)]; omega
        rw [if_neg (show ¬ (x : Int) = (i : Int) by omega), if_neg (show ¬ ((i - x : Nat) : Int) = 0 by omega), if_neg (show ¬ R2 338 (l / L) < 0 by omega), e6.eq, e7.eq]
        exact ih n m (x + 1) (y + 1) (by omega) (by omega) (by omega) (by omega)
theorem o_index {a b : Int} (ha4 : a ≤ 2147483647) : opM Inv (f_X9_index 0 a b) (f_X10_index 323 a b) := by
  intro R hI
  obtain ⟨H, W, g, w, r⟩ := hI.1.1
  obtain ⟨hB, hs⟩ := nb_of w r
  have h11 := w.2.2.2.2.2.2.2.2.2.2.2.1
  have hL : 1 ≤ (R 324 11).toNat ∧ (R 324 11).toNat ≤ 9 := by omega
  have hLL : R 324 11 = (((R 324 11).toNat : Nat) : Int) := by omega
  have q9 : f_X3_isBooklet 6 R = some (decide (g.1 = 1 ∧ g.2.1 = 1)) := isb9 r.2.2.2.1
  unfold f_X9_index
  rw [show 0 + 6 = 6 from rfl, q9, Option.bind_some]
  by_cases hbk : g.1 = 1 ∧ g.2.1 = 1
  · rw [if_pos (decide_eq_true hbk)]
    by_cases ha : a < 0
    · obtain ⟨v, Ra, b1, b2, b3, b4, b5, b6⟩ := bkM rfl w
      refine ⟨-1, R, Ra, by rw [if_pos ha], ?_, hI.sc b4.sc⟩
      unfold f_X10_index
      rw [b1, Option.bind_some, if_pos (show v.1 = true by rw [b2]; exact decide_eq_true hbk), if_pos ha, b3]
    · rw [if_neg ha, in9, Option.bind_some]
      by_cases hb : 0 ≤ b ∧ b ≤ 1
      · obtain ⟨i, rfl⟩ := Int.eq_ofNat_of_zero_le (show 0 ≤ a by omega)
        obtain ⟨R1, a1, a2, a3, a4, v, Ra, R2, K, b1, b2, b3, b4, b5, b6, b7, b8, b9⟩ := lay_all w r hbk
        obtain ⟨x, x1, x2⟩ := idx_lp (i := i) (b := b) b9 (hB.k a4) hs hL b7 hLL (by omega) 100 6000 6000 0 0 (by omega) (by omega) (by omega) (Nat.zero_le i)
        rw [z0] at x1 x2
        refine ⟨x, R1, R2, ?_, ?_, hI.sc (a2.trans b8)⟩
        · rw [if_pos (decide_eq_true hb), show 0 + 314 = 314 from rfl, show 0 + 2 = 2 from rfl, a1, Option.bind_some]
          exact x1
        · unfold f_X10_index
          rw [b1, Option.bind_some, if_pos (show v.1 = true by rw [b2]; exact decide_eq_true hbk), if_neg ha, in10, Option.bind_some, if_pos (decide_eq_true hb), b3, b6, Option.bind_some]
          exact x2
      · obtain ⟨v, Ra, b1, b2, b3, b4, b5, b6⟩ := bkM rfl w
        refine ⟨-1, R, Ra, by rw [if_neg (by rw [decide_eq_false hb]; decide)], ?_, hI.sc b4.sc⟩
        unfold f_X10_index
        rw [b1, Option.bind_some, if_pos (show v.1 = true by rw [b2]; exact decide_eq_true hbk), if_neg ha, in10, Option.bind_some, if_neg (by rw [decide_eq_false hb]; decide), b3]
  · obtain ⟨v, Ra, b1, b2, b3, b4, b5, b6⟩ := bkM rfl w
    refine ⟨-2, R, Ra, by rw [if_neg (by rw [decide_eq_false hbk]; decide)], ?_, hI.sc b4.sc⟩
    unfold f_X10_index
    rw [b1, Option.bind_some, if_neg (by rw [b2, decide_eq_false hbk]; decide), b3]
