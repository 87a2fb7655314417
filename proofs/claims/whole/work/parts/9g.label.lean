/-! Pieces: the model; both. -/
/-- the labels of the model's leaves -/
def LbR (R : xN) (D : Nat) (L : Nat → Nat) : Prop := ∀ i : Nat, i < D → R 337 i = (L i : Int) ∧ L i < 16
def k337 (R R' : xN) : Prop := ∀ q j : Nat, q ≠ 337 → R' q j = R q j
theorem k337.trans {R R1 R2 : xN} (h : k337 R R1) (g : k337 R1 R2) : k337 R R2 := fun q j h1 => by rw [g q j h1, h q j h1]
theorem LM.k {R R' : xN} {W D : Nat} {t : Nat → Nat} (h : LM R W D t) (k : k337 R R') : LM R' W D t := h.fr (k 324 1 (by omega)) (k 323 9 (by omega)) (fun q j h1 h2 => k q j (by omega))
theorem jn_lp {D a b : Nat} (hD : D ≤ 16) : ∀ (n c i : Nat) (R : xN), c < n → i + c = D → R 323 9 = (D : Int) → ∃ R', (∀ X : Int → xN → Option xN, lp_X10_joins_2 323 (a : Int) (b : Int) n (i : Int) R X = X (D : Int) R') ∧ (∀ j : Nat, i ≤ j → j < D → R' 337 j = if R 337 j = (b : Int) then (a : Int) else R 337 j) ∧ ∀ q j : Nat, ¬ (q = 337 ∧ i ≤ j) → R' q j = R q j := by
  intro n
  induction n with
  | zero => intro c i R h; omega
  | succ n ih =>
    intro c i R h1 h2 h9
    cases c with
    | zero =>
      refine ⟨R, fun X => ?_, fun j h3 h4 => by omega, fun q j _ => rfl⟩
      rw [lp_X10_joins_2, h9, if_pos (by omega), show i = D by omega]
    | succ c =>
      have e5 : Qe (w4 ((i : Int) + 1)) ((i + 1 : Nat) : Int) := by unfold Qe; rw [w4_of (by omega)]; omega
      have ci : (0 : Int) ≤ (i : Int) ∧ (i : Int) < 16 := by omega
      obtain ⟨R', b1, b2, b3⟩ := ih c (i + 1) (xup R 337 i (if R 337 i = (b : Int) then (a : Int) else R 337 i)) (by omega) (by omega) (by rw [xup_nn (by omega)]; exact h9)
      refine ⟨R', fun X => ?_, fun j h3 h4 => ?_, fun q j hq => by rw [b3 q j (by omega), xup_nn (by omega)]⟩
      · rw [lp_X10_joins_2, h9, if_neg (by omega), if_pos ci, tnc, show 323 + 14 = 337 from rfl]
        by_cases hc : R 337 i = (b : Int)
        · rw [if_pos hc, if_pos ci, xlet_eq, xlet_eq, e5.eq]
          have := b1 X
          rw [if_pos hc] at this
          exact this
        · rw [if_neg hc, if_pos ci, if_pos ci, xlet_eq, xlet_eq, e5.eq]
          have := b1 X
          rw [if_neg hc] at this
          exact this
      · by_cases hj : j = i
        · subst hj; rw [b3 337 j (by omega), xup_eq]
        · rw [b2 j (by omega) h4, xup_nn (by omega)]
/-- what the labels keep -/
def good (D : Nat) (A : Nat → Nat → Bool) (L : Nat → Nat) : Prop := ∀ Q : Nat → Prop, (∀ i j, i < D → j < D → A i j = true → (Q i ↔ Q j)) → ∀ i j, i < D → j < D → L i = L j → (Q i ↔ Q j)
theorem good_join {D one other : Nat} {A : Nat → Nat → Bool} {L : Nat → Nat} (h : good D A L) (h1 : one < D) (h2 : other < D) (hA : A one other = true) : good D A (fun i => if L i = L other then L one else L i) := by
  intro Q hQ i j hi hj he
  have e := hQ one other h1 h2 hA
  have he' : (if L i = L other then L one else L i) = (if L j = L other then L one else L j) := he
  by_cases ci : L i = L other
  · rw [if_pos ci] at he'
    by_cases cj : L j = L other
    · exact h Q hQ i j hi hj (by rw [ci, cj])
    · rw [if_neg cj] at he'
      exact (h Q hQ i other hi h2 ci).trans (e.symm.trans (h Q hQ one j h1 hj he'))
  · rw [if_neg ci] at he'
    by_cases cj : L j = L other
    · rw [if_pos cj] at he'
      exact (h Q hQ i one hi h1 he').trans (e.trans (h Q hQ other j h2 hj cj.symm))
    · rw [if_neg cj] at he'
      exact h Q hQ i j hi hj he'
theorem ue_num : ∀ e : Nat, e < 5 → ∀ cu : Nat, cu < 16 → (decide (bitOf e &&& (15 ^^^ cu) ≠ 0) = true ↔ (¬ (e : Int) - 1 < 0 ∧ ¬ b4and (b4shr (cu : Int) ((e : Int) - 1)) 1 = 1)) := by decide +kernel
/-- labels on their way: all pairs so far are joined -/
def jnd (D : Nat) (A : Nat → Nat → Bool) (L : Nat → Nat) (P : Nat → Nat → Prop) : Prop := good D A L ∧ ∀ i j, i < D → j < D → P i j → L i = L j
theorem pin_lp {D W lg cu one : Nat} {t : Nat → Nat} (hcu : cu < 16) (h1 : one < D) : ∀ (n c j : Nat) (R : xN) (L : Nat → Nat) (P : Nat → Nat → Prop), c < n → j + c = D → LM R W D t → R 324 8 = (cu : Int) → LbR R D L → jnd D (aH lg cu t) L P → ∃ (R' : xN) (L' : Nat → Nat), (∀ X : Int → xN → Option (Int × xN), lp_X10_pieces_81 323 (one : Int) n (j : Int) R X = X (D : Int) R') ∧ k337 R R' ∧ LbR R' D L' ∧ jnd D (aH lg cu t) L' (fun a b => P a b ∨ (a = one ∧ j ≤ b ∧ eU cu t a b = true)) := by
  intro n
  induction n with
  | zero => intro c j R L P h; omega
  | succ n ih =>
    intro c j R L P g1 g2 hL h8 hb hj
    have hD := hL.1
    have h9 := hL.2.2.2.1
    cases c with
    | zero =>
      refine ⟨R, L, fun X => ?_, fun _ _ _ => rfl, hb, hj.1, fun a b ha hb' h => ?_⟩
      · rw [lp_X10_pieces_81, h9, if_pos (by omega), show j = D by omega]
      · rcases h with h | h
        · exact hj.2 a b ha hb' h
        · omega
    | succ c =>
      have e5 : Qe (w4 ((j : Int) + 1)) ((j + 1 : Nat) : Int) := by unfold Qe; rw [w4_of (by omega)]; omega
      have hU := ue_num (eC (t one) (t j)) (eC_lt _ _) cu hcu
      have hUe : eU cu t one j = decide (bitOf (eC (t one) (t j)) &&& (15 ^^^ cu) ≠ 0) := rfl
      rw [← hUe] at hU
      -- no edge here
      have skip : ¬ eU cu t one j = true → (∀ X : Int → xN → Option (Int × xN), lp_X10_pieces_81 323 (one : Int) (n + 1) (j : Int) R X = lp_X10_pieces_81 323 (one : Int) n ((j + 1 : Nat) : Int) R X) → ∃ (R' : xN) (L' : Nat → Nat), (∀ X : Int → xN → Option (Int × xN), lp_X10_pieces_81 323 (one : Int) (n + 1) (j : Int) R X = X (D : Int) R') ∧ k337 R R' ∧ LbR R' D L' ∧ jnd D (aH lg cu t) L' (fun a b => P a b ∨ (a = one ∧ j ≤ b ∧ eU cu t a b = true)) := fun hn hs => by
        obtain ⟨R', L', a1, a2, a3, a4, a5⟩ := ih c (j + 1) R L P (by omega) (by omega) hL h8 hb hj
        refine ⟨R', L', fun X => (hs X).trans (a1 X), a2, a3, a4, fun a b ha hb' h => a5 a b ha hb' ?_⟩
        rcases h with h | ⟨h, h', h''⟩
        · exact Or.inl h
        · by_cases hbj : b = j
          · subst h hbj; exact absurd h'' hn
          · exact Or.inr ⟨h, by omega, h''⟩
      by_cases c1 : ((eC (t one) (t j) : Nat) : Int) - 1 < 0
      · refine skip (fun hE => (hU.mp hE).1 c1) (fun X => ?_)
        rw [lp_X10_pieces_81, h9, if_neg (by omega), eo_at hL h1 (by omega), Option.bind_some, if_pos c1, xlet_eq, e5.eq]
      · by_cases c2 : b4and (b4shr (cu : Int) (((eC (t one) (t j) : Nat) : Int) - 1)) 1 = 1
        · refine skip (fun hE => (hU.mp hE).2 c2) (fun X => ?_)
          rw [lp_X10_pieces_81, h9, if_neg (by omega), eo_at hL h1 (by omega), Option.bind_some, if_neg c1, show 323 + 1 = 324 from rfl, h8, has10 c2, Option.bind_some, if_pos rfl, xlet_eq, e5.eq]
        · have hE : eU cu t one j = true := hU.mpr ⟨c1, c2⟩
          have hA : aH lg cu t one j = true := by unfold aH; rw [hE, Bool.or_true]
          have hjD : j < D := by omega
          obtain ⟨l1, l1'⟩ := hb one h1
          obtain ⟨l2, l2'⟩ := hb j hjD
          obtain ⟨R1, b1, b2, b3⟩ := jn_lp (a := L one) (b := L j) hD 6000 D 0 R (by omega) (by omega) h9
          have k1 : k337 R R1 := fun q i hq => b3 q i (by omega)
          have hb1 : LbR R1 D (fun i => if L i = L j then L one else L i) := fun i hi => by
            obtain ⟨o1, o2⟩ := hb i hi
            rw [b2 i (Nat.zero_le i) hi, o1]
            show _ = ((if L i = L j then L one else L i : Nat) : Int) ∧ (if L i = L j then L one else L i) < 16
            by_cases q : L i = L j
            · rw [if_pos (by omega), if_pos q]; exact ⟨rfl, l1'⟩
            · rw [if_neg (by omega), if_neg q]; exact ⟨rfl, o2⟩
          obtain ⟨R', L', a1, a2, a3, a4, a5⟩ := ih c (j + 1) R1 _ (fun a b => P a b ∨ (a = one ∧ b = j)) (by omega) (by omega) (hL.k k1) (by rw [k1 324 8 (by omega)]; exact h8) hb1 ⟨good_join hj.1 h1 hjD hA, fun a b ha hb' h => by
            rcases h with h | ⟨rfl, rfl⟩
            · show (if L a = L j then L one else L a) = (if L b = L j then L one else L b)
              rw [hj.2 a b ha hb' h]
            · show (if L a = L b then L a else L a) = (if L b = L b then L a else L b)
              rw [if_pos rfl]; split <;> rfl⟩
          refine ⟨R', L', fun X => ?_, k1.trans a2, a3, a4, fun a b ha hb' h => a5 a b ha hb' ?_⟩
          · have hjn : f_X10_joins 323 (L one : Int) (L j : Int) R = some R1 := by
              unfold f_X10_joins
              rw [z0] at b1
              exact b1 _
            rw [lp_X10_pieces_81, h9, if_neg (by omega), eo_at hL h1 hjD, Option.bind_some, if_neg c1, show 323 + 1 = 324 from rfl, h8, has10n c2, Option.bind_some, if_neg (by decide), if_pos (by omega), if_pos (by omega), tnc, tnc, show 323 + 14 = 337 from rfl, l1, l2, hjn, Option.bind_some, xlet_eq, e5.eq]
            exact a1 X
          · rcases h with h | ⟨h, h', h''⟩
            · exact Or.inl (Or.inl h)
            · by_cases hbj : b = j
              · exact Or.inl (Or.inr ⟨h, hbj⟩)
              · exact Or.inr ⟨h, by omega, h''⟩
theorem pout_lp {D W lg cu : Nat} {t : Nat → Nat} (hcu : cu < 16) : ∀ (n c one : Nat) (R : xN) (L : Nat → Nat) (P : Nat → Nat → Prop), c < n → one + c = D → LM R W D t → R 324 8 = (cu : Int) → LbR R D L → jnd D (aH lg cu t) L P → ∃ (R' : xN) (L' : Nat → Nat), (∀ X : Int → xN → Option (Int × xN), lp_X10_pieces_68 323 n (one : Int) R X = X (D : Int) R') ∧ k337 R R' ∧ LbR R' D L' ∧ jnd D (aH lg cu t) L' (fun a b => P a b ∨ (one ≤ a ∧ a < b ∧ eU cu t a b = true)) := by
  intro n
  induction n with
  | zero => intro c j R L P h; omega
  | succ n ih =>
    intro c one R L P g1 g2 hL h8 hb hj
    have hD := hL.1
    have h9 := hL.2.2.2.1
    cases c with
    | zero =>
      refine ⟨R, L, fun X => ?_, fun _ _ _ => rfl, hb, hj.1, fun a b ha hb' h => ?_⟩
      · rw [lp_X10_pieces_68, h9, if_pos (by omega), show one = D by omega]
      · rcases h with h | h
        · exact hj.2 a b ha hb' h
        · omega
    | succ c =>
      have e5 : Qe (w4 ((one : Int) + 1)) ((one + 1 : Nat) : Int) := by unfold Qe; rw [w4_of (by omega)]; omega
      obtain ⟨R1, L1, a1, a2, a3, a4⟩ := pin_lp hcu (show one < D by omega) 6000 c (one + 1) R L P (by omega) (by omega) hL h8 hb hj
      obtain ⟨R2, L2, b1, b2, b3, b4, b5⟩ := ih c (one + 1) R1 L1 _ (by omega) (by omega) (hL.k a2) (by rw [a2 324 8 (by omega)]; exact h8) a3 a4
      refine ⟨R2, L2, fun X => ?_, a2.trans b2, b3, b4, fun a b ha hb' h => b5 a b ha hb' ?_⟩
      · rw [lp_X10_pieces_68, h9, if_neg (by omega), xlet_eq, e5.eq, a1, xlet_eq]
        exact b1 X
      · rcases h with h | ⟨h, h', h''⟩
        · exact Or.inl (Or.inl h)
        · by_cases hao : a = one
          · exact Or.inl (Or.inr ⟨hao, by omega, h''⟩)
          · exact Or.inr ⟨by omega, h', h''⟩
theorem pini_lp {D m : Nat} (hD : D ≤ 16) : ∀ (n c i : Nat) (R : xN), c < n → i + c = D → R 323 9 = (D : Int) → ∃ R', (∀ X : Int → xN → Option (Int × xN), lp_X10_pieces_34_1 323 (m : Int) n (i : Int) R X = X (D : Int) R') ∧ (∀ j : Nat, i ≤ j → j < D → R' 337 j = ((if j < m then 0 else j : Nat) : Int)) ∧ ∀ q j : Nat, ¬ (q = 337 ∧ i ≤ j) → R' q j = R q j := by
  intro n
  induction n with
  | zero => intro c i R h; omega
  | succ n ih =>
    intro c i R h1 h2 h9
    cases c with
    | zero =>
      refine ⟨R, fun X => ?_, fun j h3 h4 => by omega, fun q j _ => rfl⟩
      rw [lp_X10_pieces_34_1, h9, if_pos (by omega), show i = D by omega]
    | succ c =>
      have e5 : Qe (w4 ((i : Int) + 1)) ((i + 1 : Nat) : Int) := by unfold Qe; rw [w4_of (by omega)]; omega
      have ci : (0 : Int) ≤ (i : Int) ∧ (i : Int) < 16 := by omega
      have e6 : (if (m : Int) ≤ (i : Int) then (i : Int) else 0) = ((if i < m then 0 else i : Nat) : Int) := by
        by_cases q : i < m
        · rw [if_pos q, if_neg (by omega)]; rfl
        · rw [if_neg q, if_pos (by omega)]
      obtain ⟨R', b1, b2, b3⟩ := ih c (i + 1) (xup R 337 i ((if i < m then 0 else i : Nat) : Int)) (by omega) (by omega) (by rw [xup_nn (by omega)]; exact h9)
      refine ⟨R', fun X => ?_, fun j h3 h4 => ?_, fun q j hq => by rw [b3 q j (by omega), xup_nn (by omega)]⟩
      · rw [lp_X10_pieces_34_1, h9, if_neg (by omega), xlet_eq, e6, if_pos ci, xlet_eq, xlet_eq, tnc, e5.eq]
        exact b1 X
      · by_cases hj : j = i
        · subst hj; rw [b3 337 j (by omega), xup_eq]
        · exact b2 j (by omega) h4
theorem pini1 {X : Int → xN → Option (Int × xN)} : ∀ (n : Nat) (y : Int) (R : xN), lp_X10_pieces_34 323 n y R X = lp_X10_pieces_34_1 323 1 n y R X := by
  intro n
  induction n with
  | zero => intro y R; rw [lp_X10_pieces_34, lp_X10_pieces_34_1]
  | succ n ih =>
    intro y R
    rw [lp_X10_pieces_34, lp_X10_pieces_34_1]
    simp only [ih]
/-- the set of the labels -/
def lbS (L : Nat → Nat) : Nat → Nat
  | 0 => 0
  | m + 1 => lbS L m ||| 2 ^ L m
theorem lbS_lt {L : Nat → Nat} {D : Nat} (h : ∀ i, i < D → L i < 16) : ∀ m, m ≤ D → lbS L m < 65536 := by
  intro m
  induction m with
  | zero => intro _; show 0 < 65536; omega
  | succ m ih => intro hm; exact (bOr (ih (by omega)) (sh_num (L m) (h m (by omega))).2.2).2
theorem lbS_bit {L : Nat → Nat} : ∀ m b, (lbS L m).testBit b = true ↔ ∃ i, i < m ∧ L i = b := by
  intro m
  induction m with
  | zero =>
    intro b
    show (0 : Nat).testBit b = true ↔ _
    rw [Nat.zero_testBit]
    exact ⟨fun h => absurd h (by decide), fun ⟨i, h, _⟩ => by omega⟩
  | succ m ih =>
    intro b
    show (lbS L m ||| 2 ^ L m).testBit b = true ↔ _
    rw [Nat.testBit_or, Nat.testBit_two_pow, Bool.or_eq_true_iff, ih b, decide_eq_true_iff]
    constructor
    · rintro (⟨i, h1, h2⟩ | h)
      · exact ⟨i, by omega, h2⟩
      · exact ⟨m, by omega, h⟩
    · rintro ⟨i, h1, h2⟩
      by_cases hi : i = m
      · subst hi; exact Or.inr h2
      · exact Or.inl ⟨i, by omega, h2⟩
theorem lbs_lp {R : xN} {D : Nat} {L : Nat → Nat} (hD : D ≤ 16) (h9 : R 323 9 = (D : Int)) (hb : LbR R D L) : ∀ (n c i : Nat), c < n → i + c = D → ∀ X : Int → Int → Option (Int × xN), lp_X10_pieces_153 323 R n (lbS L i : Int) (i : Int) X = X (lbS L D : Int) (D : Int) := by
  intro n
  induction n with
  | zero => intro c i h; omega
  | succ n ih =>
    intro c i h1 h2 X
    cases c with
    | zero => rw [lp_X10_pieces_153, h9, if_pos (by omega), show i = D by omega]
    | succ c =>
      have e5 : Qe (w4 ((i : Int) + 1)) ((i + 1 : Nat) : Int) := by unfold Qe; rw [w4_of (by omega)]; omega
      obtain ⟨l1, l2⟩ := hb i (by omega)
      have e6 : Qe (b4or (lbS L i : Int) (b4shl 1 (L i : Int))) (lbS L (i + 1) : Int) := by
        unfold Qe
        rw [(sh_num (L i) l2).2.1, (bOr (lbS_lt (fun k hk => (hb k hk).2) i (by omega)) (sh_num (L i) l2).2.2).1]
        rfl
      rw [lp_X10_pieces_153, h9, if_neg (by omega), if_pos (by omega), tnc, show 323 + 14 = 337 from rfl, l1, xlet_eq, xlet_eq, e6.eq, e5.eq]
      exact ih c (i + 1) (by omega) (by omega) X
/-- the class counts as many pieces as there are labels -/
theorem cnt_lp {R : xN} {s : Nat → Int} {D : Nat} {t : Nat → Nat} {L : Nat → Nat} (h : PC R s D t) (hl16 : ∀ i, i < D → L i < 16) (hg : good D (aH (lgN s) (s 8).toNat t) L) (hA : ∀ i j, i < D → j < D → aH (lgN s) (s 8).toNat t i j = true → L i = L j) : ∀ (n c i C : Nat), c < n → i + c = D → C < 65536 → (∀ b, b < D → (C.testBit b = true ↔ ∃ k, k < i ∧ L k = L b)) → ∀ X : Int → Option Int, lp_X0_countPieces_6 2 R n (cK 16 (lbS L i) : Int) (C : Int) (i : Int) (fun z10 z11 z12 => X z10) = X (cK 16 (lbS L D) : Int) := by
  intro n
  induction n with
  | zero => intro c i C h; omega
  | succ n ih =>
    intro c i C h1 h2 h3 h4 X
    have hL := h.1
    have hD := hL.1
    rw [lp_X0_countPieces_6, show 2 + 4 = 6 from rfl, hL.2.2, Option.bind_some]
    cases c with
    | zero => rw [if_pos (by omega), show i = D by omega]
    | succ c =>
      have hi : i < D := by omega
      have e5 : Qe (w4 ((i : Int) + 1)) ((i + 1 : Nat) : Int) := by unfold Qe; rw [w4_of (by omega)]; omega
      have hck := cK_le (k := 16) (v := lbS L i)
      have hor : cK 16 (lbS L (i + 1)) = cK 16 (lbS L i) + if L i < 16 ∧ ¬ (lbS L i).testBit (L i) = true then 1 else 0 := cK_or 16
      have hbit := lbS_bit (L := L) i (L i)
      rw [if_neg (by omega), in9s h3 (by omega), Option.bind_some]
      by_cases hc : C.testBit i = true
      · have := (h4 i hi).mp hc
        rw [if_pos hc, xlet_eq, e5.eq]
        rw [if_neg (fun h => h.2 (hbit.mpr this)), Nat.add_zero (cK 16 (lbS L i))] at hor
        rw [← hor]
        refine ih c (i + 1) C (by omega) (by omega) h3 (fun b hb => ?_) X
        rw [h4 b hb]
        constructor
        · rintro ⟨k, k1, k2⟩; exact ⟨k, by omega, k2⟩
        · rintro ⟨k, k1, k2⟩
          by_cases hk : k = i
          · subst hk
            obtain ⟨k', k3, k4⟩ := this
            exact ⟨k', k3, k4.trans k2⟩
          · exact ⟨k, by omega, k2⟩
      · have hno : ¬ ∃ k, k < i ∧ L k = L i := fun h => hc ((h4 i hi).mpr h)
        obtain ⟨z, z1, z2, z3, z4, z5, z6⟩ := piece9 h hi
        -- the piece is what has the label
        have hz : ∀ b, b < D → (z.testBit b = true ↔ L i = L b) := fun b hb => by
          constructor
          · intro hzb
            exact z6 (fun b => L i = L b) (fun a b ha hb' hab hq => by rw [hq]; exact hA a b ha hb' hab) rfl b hzb
          · intro hq
            have := hg (fun b => z.testBit b = true) (fun a b ha hb' hab => ⟨z5 a b ha hb' hab, z5 b a hb' ha (by rw [aH_sym]; exact hab)⟩) i b hi hb hq
            exact this.mp z4
        obtain ⟨o1, o2⟩ := bOr h3 z1
        have o1' : Qe _ _ := o1
        have e6 : Qe (w4 ((cK 16 (lbS L i) : Int) + 1)) (cK 16 (lbS L (i + 1)) : Int) := by
          rw [if_pos ⟨hl16 i hi, fun h => hno (hbit.mp h)⟩] at hor
          unfold Qe
          rw [w4_of (by omega)]
          omega
        rw [if_neg hc, z2, Option.bind_some, xlet_eq, xlet_eq, xlet_eq, o1'.eq, e5.eq, e6.eq]
        refine ih c (i + 1) _ (by omega) (by omega) o2 (fun b hb => ?_) X
        rw [Nat.testBit_or, Bool.or_eq_true_iff, h4 b hb, hz b hb]
        constructor
        · rintro (⟨k, k1, k2⟩ | hq)
          · exact ⟨k, by omega, k2⟩
          · exact ⟨i, by omega, hq⟩
        · rintro ⟨k, k1, k2⟩
          by_cases hk : k = i
          · subst hk; exact Or.inr k2
          · exact Or.inl ⟨k, by omega, k2⟩
