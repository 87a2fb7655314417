/-! Reading arguments: both. -/
def kC (R R' : xN) : Prop := ∀ q j : Nat, ¬ (q = 0 ∧ j = 8) → q ≠ 320 → q ≠ 322 → R' q j = R q j
theorem kC.trans {R R1 R2 : xN} (h : kC R R1) (g : kC R1 R2) : kC R R2 := fun q j h1 h2 h3 => by rw [g q j h1 h2 h3, h q j h1 h2 h3]
theorem kC.refl {R : xN} : kC R R := fun _ _ _ _ _ => rfl
def kMm (R R' : xN) : Prop := ∀ q j : Nat, ¬ (q = 323 ∧ 18 ≤ j ∧ j ≤ 25) → q ≠ 336 → R' q j = R q j
theorem kMm.trans {R R1 R2 : xN} (h : kMm R R1) (g : kMm R1 R2) : kMm R R2 := fun q j h1 h2 => by rw [g q j h1 h2, h q j h1 h2]
theorem kMm.refl {R : xN} : kMm R R := fun _ _ _ _ => rfl
theorem rda9 {T : Nat → Int} {N s e i : Nat} {v : Int} {R : xN} (hT : CT R T N s e) (hF : TF T N s e) (hi : i < 4) (h8 : R 0 8 = (i : Int)) (hv : v ≠ -9) : ∃ R', f_X9_readArgument 0 v R = some R' ∧ CT R' T N (tS T N e) (tE T N e) ∧ R' 0 8 = ((i + 1 : Nat) : Int) ∧ R' 322 i = v ∧ (∀ j, j ≠ i → R' 322 j = R 322 j) ∧ kC R R' := by
  obtain ⟨hX, h2, h3⟩ := hT
  have e5 : Qe (w4 ((i : Int) + 1)) ((i + 1 : Nat) : Int) := by unfold Qe; rw [w4_of (by omega)]; omega
  have gi : (0 : Int) ≤ (i : Int) ∧ (i : Int) < 4 := by omega
  obtain ⟨R', a1, a2, a3⟩ := adv9 (R := xup (xup R 322 i v) 0 8 ((i + 1 : Nat) : Int)) (hX.k (by rw [xup_nn (by omega), xup_nn (by omega)]) (fun j => by rw [xup_nn (by omega), xup_nn (by omega)])) hF.2.1 (by rw [xup_nn (by omega), xup_nn (by omega)]; exact h3)
  refine ⟨R', ?_, a2, ?_, ?_, fun j hj => ?_, fun q j g1 g2 g3 => ?_⟩
  · unfold f_X9_readArgument
    rw [if_neg hv, h8, in9, Option.bind_some, if_pos (decide_eq_true (by omega)), if_pos gi, tnc, show 0 + 322 = 322 from rfl, show 0 + 320 = 320 from rfl, xlet_eq, xlet_eq, xup_nn (by omega), h8, e5.eq, a1, Option.bind_some]
  · rw [a3 0 8 (by omega), xup_eq]
  · rw [a3 322 i (by omega), xup_nn (by omega), xup_eq]
  · rw [a3 322 j (by omega), xup_nn (by omega), xup_nn (by omega)]
  · rw [a3 q j (by omega), xup_nn (by omega), xup_nn (by omega)]
theorem num_j {T : Nat → Int} {N most : Nat} {p1 lo : Int} (hm : most ≤ 4) : ∀ (c i s e : Nat) (Rc : xN), i + c = most → CT Rc T N s e → TF T N s e → Rc 0 8 = (i : Int) → ∃ (m s' e' : Nat) (Rc' : xN) (z : Int), m ≤ c ∧ (∀ n, c < n → ∀ X : Int → xN → Option xN, lp_X9_readArguments_54 0 p1 (most : Int) n (i : Int) Rc X = X z Rc') ∧ CT Rc' T N s' e' ∧ TF T N s' e' ∧ s ≤ s' ∧ Rc' 0 8 = ((i + m : Nat) : Int) ∧ (∀ j, ¬ (i ≤ j ∧ j < i + m) → Rc' 322 j = Rc 322 j) ∧ kC Rc Rc' ∧ ∀ Rm, MT Rm T N s e → Rm 323 24 = (i : Int) → ∃ Rm', (∀ n, c < n → ∀ X : xN → Option (Bool × xN), lp_X10_numbers_9 323 lo (most : Int) n Rm X = X Rm') ∧ MT Rm' T N s' e' ∧ Rm' 323 24 = ((i + m : Nat) : Int) ∧ (∀ j, i ≤ j → j < i + m → Rm' 336 j = Rc' 322 j) ∧ (∀ j, j < i → Rm' 336 j = Rm 336 j) ∧ kMm Rm Rm' ∧ Rm' 323 25 = Rm 323 25 := by
  intro c
  induction c with
  | zero =>
    intro i s e Rc h1 hT hF h8
    refine ⟨0, s, e, Rc, (i : Int), Nat.le_refl 0, fun n hn X => ?_, hT, hF, Nat.le_refl s, h8, fun _ _ => rfl, kC.refl, fun Rm hM h24 => ⟨Rm, fun n hn X => ?_, hM, h24, fun j g1 g2 => by omega, fun _ _ => rfl, kMm.refl, rfl⟩⟩
    · obtain ⟨n, rfl⟩ : ∃ n', n = n' + 1 := ⟨n - 1, by omega⟩
      rw [lp_X9_readArguments_54, if_pos (by omega)]
    · obtain ⟨n, rfl⟩ : ∃ n', n = n' + 1 := ⟨n - 1, by omega⟩
      rw [lp_X10_numbers_9]
      by_cases hk : Rm 323 20 = 2
      · rw [if_pos hk, h24, if_pos (by omega)]
      · rw [if_neg hk]
  | succ c ih =>
    intro i s e Rc h1 hT hF h8
    obtain ⟨b1, b2⟩ := nb9 hT hF
    by_cases hn : isNb T N s e
    · obtain ⟨v1, v2, v3⟩ := nv9 hT hF hn
      have hse := (hF.2.2.2 hn.1).1
      obtain ⟨R1, c1, c2, c3, c4, c5, c6⟩ := rda9 hT hF (show i < 4 by omega) h8 (show nvl T s (e - s) ≠ -9 by omega)
      obtain ⟨tk, tk2, -⟩ := tok_ok (T := T) hF.2.1
      obtain ⟨m, s', e', Rc', z, d1, d2, d3, d4, d5, d6, d7, d8, d9⟩ := ih (i + 1) (tS T N e) (tE T N e) R1 (by omega) c2 tk c3
      have e5 : Qe (w4 ((i : Int) + 1)) ((i + 1 : Nat) : Int) := by unfold Qe; rw [w4_of (by omega)]; omega
      refine ⟨m + 1, s', e', Rc', z, by omega, fun n hnn X => ?_, d3, d4, by omega, by rw [d6]; omega, fun j hj => by rw [d7 j (by omega), c5 j (by omega)], c6.trans d8, fun Rm hM h24 => ?_⟩
      · obtain ⟨n, rfl⟩ : ∃ n', n = n' + 1 := ⟨n - 1, by omega⟩
        rw [lp_X9_readArguments_54, if_neg (by omega), show 0 + 320 = 320 from rfl, b1 hn, Option.bind_some, if_pos rfl, v1, Option.bind_some, c1, Option.bind_some, xlet_eq, e5.eq]
        exact d2 n (by omega) X
      · obtain ⟨k1, k2, k3, k4, k5⟩ := mk10 hM hF
        have gi : (0 : Int) ≤ (i : Int) ∧ (i : Int) < 4 := by omega
        obtain ⟨Rn, n1, n2, n3⟩ := next10 (R := xup (xup Rm 336 i (nvl T s (e - s))) 323 24 ((i + 1 : Nat) : Int)) (hM.1.k (by rw [xup_nn (by omega), xup_nn (by omega)]) (fun j => by rw [xup_nn (by omega), xup_nn (by omega)])) hF.2.1 (by rw [xup_nn (by omega), xup_nn (by omega)]; exact hM.2.2.1)
        obtain ⟨Rm', f1, f2, f3, f4, f5, f6, f7⟩ := d9 Rn n2 (by rw [n3 323 24 (by omega), xup_eq])
        refine ⟨Rm', fun n hnn X => ?_, f2, by rw [f3]; omega, fun j g1 g2 => ?_, fun j hj => by rw [f5 j (by omega), n3 336 j (by omega), xup_nn (by omega), xup_nn (by omega)], fun q j g1 g2 => by rw [f6 q j g1 g2, n3 q j (by omega), xup_nn (by omega), xup_nn (by omega)], by rw [f7, n3 323 25 (by omega), xup_nn (by omega), xup_nn (by omega)]⟩
        · obtain ⟨n, rfl⟩ : ∃ n', n = n' + 1 := ⟨n - 1, by omega⟩
          rw [lp_X10_numbers_9, if_pos (k2.mpr hn), h24, if_neg (by omega), if_pos gi, tnc, show 323 + 13 = 336 from rfl, k4 hn, xlet_eq, xlet_eq, xup_nn (by omega), h24, e5.eq, n1, Option.bind_some]
          exact f1 n (by omega) X
        · by_cases hj : j = i
          · subst hj
            rw [f5 j (by omega), n3 336 j (by omega), xup_nn (by omega), xup_eq, d7 j (by omega), c4]
          · exact f4 j (by omega) (by omega)
    · refine ⟨0, s, e, Rc, (i : Int), by omega, fun n hnn X => ?_, hT, hF, Nat.le_refl s, h8, fun _ _ => rfl, kC.refl, fun Rm hM h24 => ⟨Rm, fun n hnn X => ?_, hM, h24, fun j g1 g2 => by omega, fun _ _ => rfl, kMm.refl, rfl⟩⟩
      · obtain ⟨n, rfl⟩ : ∃ n', n = n' + 1 := ⟨n - 1, by omega⟩
        rw [lp_X9_readArguments_54, if_neg (by omega), show 0 + 320 = 320 from rfl, b2 hn, Option.bind_some, if_neg Bool.false_ne_true]
      · obtain ⟨n, rfl⟩ : ∃ n', n = n' + 1 := ⟨n - 1, by omega⟩
        rw [lp_X10_numbers_9, if_neg (fun h => hn ((mk10 hM hF).2.1.mp h))]
theorem nums_j {T : Nat → Int} {N lo hi e0 : Nat} {p1 loI hiI : Int} {Rc : xN} (hm : hi ≤ 4) (h1 : loI = (lo : Int)) (h2 : hiI = (hi : Int)) (he : e0 ≤ N) (hT : CT Rc T N (tS T N e0) (tE T N e0)) (h8 : Rc 0 8 = 0) : ∃ (m s' e' : Nat) (Rc' : xN) (z : Int), m ≤ hi ∧ (∀ X : Int → xN → Option xN, lp_X9_readArguments_54 0 p1 hiI 6000 0 Rc X = X z Rc') ∧ CT Rc' T N s' e' ∧ TF T N s' e' ∧ e0 ≤ s' ∧ Rc' 0 8 = (m : Int) ∧ (∀ j, m ≤ j → Rc' 322 j = Rc 322 j) ∧ kC Rc Rc' ∧ ∀ Rm, MX Rm T N → Rm 323 18 = (e0 : Int) → ∃ Rm', f_X10_numbers 323 loI hiI Rm = some (decide (lo ≤ m), Rm') ∧ MT Rm' T N s' e' ∧ Rm' 323 24 = (m : Int) ∧ (∀ j, j < m → Rm' 336 j = Rc' 322 j) ∧ kMm Rm Rm' ∧ Rm' 323 25 = Rm 323 25 := by
  subst h1 h2
  obtain ⟨tk, tk2, -⟩ := tok_ok (T := T) he
  obtain ⟨m, s', e', Rc', z, d1, d2, d3, d4, d5, d6, d7, d8, d9⟩ := num_j (T := T) (N := N) (p1 := p1) (lo := (lo : Int)) hm hi 0 _ _ Rc (by omega) hT tk h8
  rw [Nat.zero_add] at d6 d7
  refine ⟨m, s', e', Rc', z, d1, fun X => d2 6000 (by omega) X, d3, d4, by omega, d6, fun j hj => d7 j (by omega), d8, fun Rm hX h18 => ?_⟩
  obtain ⟨Rn, n1, n2, n3⟩ := next10 (R := xup Rm 323 24 0) (hX.k (xup_nn (by omega)) (fun j => xup_nn (by omega))) he (by rw [xup_nn (by omega)]; exact h18)
  obtain ⟨Rm', f1, f2, f3, f4, f5, f6, f7⟩ := d9 Rn n2 (by rw [n3 323 24 (by omega), xup_eq]; rfl)
  rw [Nat.zero_add] at f3
  refine ⟨Rm', ?_, f2, f3, fun j hj => f4 j (Nat.zero_le j) (by omega), fun q j g1 g2 => by rw [f6 q j g1 g2, n3 q j (by omega), xup_nn (by omega)], by rw [f7, n3 323 25 (by omega), xup_nn (by omega)]⟩
  unfold f_X10_numbers
  rw [xlet_eq, n1, Option.bind_some, f1 6000 (by omega), f3]
  by_cases c : lo ≤ m
  · rw [if_neg (by omega), decide_eq_true c]
  · rw [if_pos (by omega), decide_eq_false c]
theorem fil_lp : ∀ (c n i : Nat) (R : xN), c < n → i + c = 4 → ∃ R', (∀ X : Int → xN → Option xN, lp_J7_fill_53178_5 322 4 0 4 n (i : Int) R X = X 4 R') ∧ (∀ j, i ≤ j → j < 4 → R' 322 j = 0) ∧ ∀ q j : Nat, ¬ (q = 322 ∧ i ≤ j) → R' q j = R q j := by
  intro c
  induction c with
  | zero =>
    intro n i R h1 h2
    obtain ⟨n, rfl⟩ : ∃ n', n = n' + 1 := ⟨n - 1, by omega⟩
    refine ⟨R, fun X => ?_, fun j g1 g2 => by omega, fun q j _ => rfl⟩
    rw [lp_J7_fill_53178_5, if_pos (by omega), show (i : Int) = 4 by omega]
  | succ c ih =>
    intro n i R h1 h2
    obtain ⟨n, rfl⟩ : ∃ n', n = n' + 1 := ⟨n - 1, by omega⟩
    have e5 : Qe (w4 ((i : Int) + 1)) ((i + 1 : Nat) : Int) := by unfold Qe; rw [w4_of (by omega)]; omega
    have gi : (0 : Int) ≤ (i : Int) ∧ (i : Int) < ((4 : Nat) : Int) := by omega
    obtain ⟨R', b1, b2, b3⟩ := ih n (i + 1) (xup R 322 i 0) (by omega) (by omega)
    refine ⟨R', fun X => ?_, fun j g1 g2 => ?_, fun q j hq => by rw [b3 q j (by omega), xup_nn (by omega)]⟩
    · rw [lp_J7_fill_53178_5, if_neg (by omega), if_pos gi, tnc, xlet_eq, xlet_eq, e5.eq]
      exact b1 X
    · by_cases hj : j = i
      · subst hj; rw [b3 322 j (by omega), xup_eq]
      · exact b2 j (by omega) g2
/-- the class forgets its arguments -/
theorem fil9 {R : xN} : ∃ R', f_J7_fill_53178 322 4 0 (xup R 0 8 0) = some R' ∧ R' 0 8 = 0 ∧ (∀ j, j < 4 → R' 322 j = 0) ∧ kC R R' ∧ ∀ q j, q ≠ 322 → ¬ (q = 0 ∧ j = 8) → R' q j = R q j := by
  obtain ⟨R', b1, b2, b3⟩ := fil_lp 4 6000 0 (xup R 0 8 0) (by omega) (by omega)
  rw [z0] at b1
  refine ⟨R', ?_, by rw [b3 0 8 (by omega), xup_eq], fun j hj => b2 j (Nat.zero_le j) hj, fun q j g1 g2 g3 => by rw [b3 q j (by omega), xup_nn (by omega)], fun q j g1 g2 => by rw [b3 q j (by omega), xup_nn (by omega)]⟩
  unfold f_J7_fill_53178
  rw [if_pos (by decide), xlet_eq]
  exact b1 _
theorem CT.k {R R' : xN} {T : Nat → Int} {N s e : Nat} (h : CT R T N s e) (k : ∀ q j, q = 320 ∨ q = 321 → R' q j = R q j) : CT R' T N s e := ⟨h.1.k (k 320 1 (by omega)) (fun j => k 321 j (by omega)), by rw [k 320 2 (by omega)]; exact h.2.1, by rw [k 320 3 (by omega)]; exact h.2.2⟩
/-- the arguments that a command needs are the same -/
def AG (k : Nat) (Rc Rm : xN) : Prop := (k = 2 → ∃ c : Nat, 1 ≤ c ∧ c ≤ 4 ∧ Rc 0 8 = (c : Int) ∧ Rm 323 24 = (c : Int) ∧ ∀ j, j < c → Rm 336 j = Rc 322 j) ∧ ((k = 1 ∨ k = 8) → Rm 336 0 = Rc 322 0 ∧ Rm 336 1 = Rc 322 1) ∧ (k = 8 → Rm 336 2 = Rc 322 2 ∧ Rm 323 25 = Rc 322 3 ∧ (Rc 322 3 = 0 ∨ Rc 322 3 = 1)) ∧ ((k = 5 ∨ k = 6 ∨ k = 7 ∨ k = 9) → Rm 336 0 = Rc 322 0) ∧ (k = 4 → (Rm 336 0 = 0 ∧ Rc 322 0 = 0) ∨ (Rm 336 0 ≠ 0 ∧ Rc 322 0 = 1))
def few (k : Nat) : Nat := if k = 1 then 2 else if k = 3 then 0 else if k = 8 then 3 else 1
/-- a command's arguments are read in the same way -/
def ArgJ (T : Nat → Int) (N k : Nat) (w : Int) : Prop := ∀ (e0 : Nat) (Rc : xN), e0 ≤ N → CT Rc T N (tS T N e0) (tE T N e0) → ∃ (Rc1 : xN) (s' e' m : Nat), f_X9_readArguments 0 (k : Int) Rc = some Rc1 ∧ CT Rc1 T N s' e' ∧ TF T N s' e' ∧ e0 ≤ s' ∧ Rc1 0 8 = (m : Int) ∧ kC Rc Rc1 ∧ ∀ Rm, MX Rm T N → Rm 323 18 = (e0 : Int) → ∃ (b : Bool) (Rm1 : xN), f_X10_readsNeeds 323 w Rm = some (b, Rm1) ∧ MT Rm1 T N s' e' ∧ (b = true ↔ few k ≤ m) ∧ kMm Rm Rm1 ∧ (few k ≤ m → AG k Rc1 Rm1)
/-- commands that need numbers only -/
theorem arg_num {T : Nat → Int} {N k lo hi : Nat} {w loI hiI : Int} (hhi : hi ≤ 4) (h1 : loI = (lo : Int)) (h2 : hiI = (hi : Int)) (hk4 : k ≠ 4) (hk6 : k ≠ 6) (hk8 : k ≠ 8) (hmost : ∀ R, f_X9_mostNumbers (k : Int) R = some hiI) (hfew : few k = lo) (hw : ∀ R, f_X10_readsNeeds 323 w R = (f_X10_numbers 323 loI hiI (xup R 323 25 0)).bind (fun v => some (v.1, v.2))) (hag : ∀ (Rc Rm : xN) (m : Nat), lo ≤ m → m ≤ hi → Rc 0 8 = (m : Int) → Rm 323 24 = (m : Int) → (∀ j, j < m → Rm 336 j = Rc 322 j) → AG k Rc Rm) : ArgJ T N k w := by
  intro e0 Rc he hT
  obtain ⟨R2, a1, a2, a3, a4, a5⟩ := fil9 (R := Rc)
  obtain ⟨m, s', e', Rc', z, d1, d2, d3, d4, d5, d6, d7, d8, d9⟩ := nums_j (T := T) (N := N) (p1 := (k : Int)) hhi h1 h2 he (hT.k (fun q j hq => a5 q j (by omega) (by omega))) a2
  refine ⟨Rc', s', e', m, ?_, d3, d4, d5, d6, a4.trans d8, fun Rm hX h18 => ?_⟩
  · unfold f_X9_readArguments
    rw [xlet_eq, show 0 + 322 = 322 from rfl, a1, Option.bind_some, if_neg (show ¬ (k : Int) = 4 by omega), if_neg (show ¬ (k : Int) = 6 by omega), hmost, Option.bind_some, d2, if_neg (show ¬ (k : Int) = 8 by omega)]
  · obtain ⟨Rm', f1, f2, f3, f4, f5, f6⟩ := d9 (xup Rm 323 25 0) (hX.k (xup_nn (by omega)) (fun j => xup_nn (by omega))) (by rw [xup_nn (by omega)]; exact h18)
    refine ⟨decide (lo ≤ m), Rm', ?_, f2, ?_, fun q j g1 g2 => by rw [f5 q j g1 g2, xup_nn (by omega)], fun hm => hag Rc' Rm' m (by omega) d1 d6 f3 f4⟩
    · rw [hw, f1, Option.bind_some]
    · rw [decide_eq_true_iff, hfew]
theorem arg1 {T : Nat → Int} {N : Nat} : ArgJ T N 1 20190388 := arg_num (lo := 2) (hi := 2) (loI := 2) (hiI := 2) (by omega) rfl rfl (by omega) (by omega) (by omega) (fun _ => rfl) rfl (fun _ => rfl) (fun Rc Rm m h1 h2 _ _ h5 => ⟨fun h => by omega, fun _ => ⟨h5 0 (by omega), h5 1 (by omega)⟩, fun h => by omega, fun h => by omega, fun h => by omega⟩)
theorem arg2 {T : Nat → Int} {N : Nat} : ArgJ T N 2 212356 := arg_num (lo := 1) (hi := 4) (loI := 1) (hiI := 4) (by omega) rfl rfl (by omega) (by omega) (by omega) (fun _ => rfl) rfl (fun _ => rfl) (fun Rc Rm m h1 h2 h3 h4 h5 => ⟨fun _ => ⟨m, h1, h2, h3, h4, h5⟩, fun h => by omega, fun h => by omega, fun h => by omega, fun h => by omega⟩)
theorem arg3 {T : Nat → Int} {N : Nat} : ArgJ T N 3 719535492 := arg_num (lo := 0) (hi := 0) (loI := 0) (hiI := 0) (by omega) rfl rfl (by omega) (by omega) (by omega) (fun _ => rfl) rfl (fun _ => rfl) (fun Rc Rm m h1 h2 h3 h4 h5 => ⟨fun h => by omega, fun h => by omega, fun h => by omega, fun h => by omega, fun h => by omega⟩)
theorem arg5 {T : Nat → Int} {N : Nat} : ArgJ T N 5 17376724 := arg_num (lo := 1) (hi := 1) (loI := 1) (hiI := 1) (by omega) rfl rfl (by omega) (by omega) (by omega) (fun _ => rfl) rfl (fun _ => rfl) (fun Rc Rm m h1 h2 h3 h4 h5 => ⟨fun h => by omega, fun h => by omega, fun h => by omega, fun _ => h5 0 (by omega), fun h => by omega⟩)
theorem arg7 {T : Nat → Int} {N : Nat} : ArgJ T N 7 658555269 := arg_num (lo := 1) (hi := 1) (loI := 1) (hiI := 1) (by omega) rfl rfl (by omega) (by omega) (by omega) (fun _ => rfl) rfl (fun _ => rfl) (fun Rc Rm m h1 h2 h3 h4 h5 => ⟨fun h => by omega, fun h => by omega, fun h => by omega, fun _ => h5 0 (by omega), fun h => by omega⟩)
theorem arg9 {T : Nat → Int} {N : Nat} : ArgJ T N 9 12892339 := arg_num (lo := 1) (hi := 1) (loI := 1) (hiI := 1) (by omega) rfl rfl (by omega) (by omega) (by omega) (fun _ => rfl) rfl (fun _ => rfl) (fun Rc Rm m h1 h2 h3 h4 h5 => ⟨fun h => by omega, fun h => by omega, fun h => by omega, fun _ => h5 0 (by omega), fun h => by omega⟩)
