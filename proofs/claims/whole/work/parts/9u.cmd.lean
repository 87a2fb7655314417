/-! Reading a command: both. -/
theorem cdw_num : cdw 0 = 20190388 ∧ cdw 1 = 212356 ∧ cdw 2 = 719535492 ∧ cdw 3 = 20456901 ∧ cdw 4 = 17376724 ∧ cdw 5 = 3764 ∧ cdw 6 = 658555269 ∧ cdw 7 = 474757 ∧ cdw 8 = 12892339 ∧ cdw 10 = 398548 ∧ cdw 11 = 20976 ∧ cdw 12 = 19176724 ∧ cdw 13 = 83513837 ∧ cdw 14 = 24395141 := by decide +kernel
theorem arg8 {T : Nat → Int} {N : Nat} : ArgJ T N 8 474757 := by
  intro e0 Rc he hT
  obtain ⟨R2, a1, a2, a3, a4, a5⟩ := fil9 (R := Rc)
  obtain ⟨m, s', e', Rc', z, d1, d2, d3, d4, d5, d6, d7, d8, d9⟩ := nums_j (T := T) (N := N) (lo := 3) (hi := 3) (loI := 3) (hiI := 3) (p1 := 8) (by omega) rfl rfl he (hT.k (fun q j hq => a5 q j (by omega) (by omega))) a2
  have hmost : f_X9_mostNumbers 8 R2 = some 3 := rfl
  have hc : ∀ Y, (if Rc' 0 8 = 3 then (f_X6_isWord 320 14 Rc').bind (fun v26 => if v26 = true then (f_X9_readArgument 0 1 Rc').bind (fun v28 => some v28) else some Rc') else some Rc') = Y → f_X9_readArguments 0 (8 : Int) Rc = Y := fun Y hY => by
    unfold f_X9_readArguments
    rw [xlet_eq, show 0 + 322 = 322 from rfl, a1, Option.bind_some, if_neg (by decide), if_neg (by decide), hmost, Option.bind_some, d2, if_pos rfl]
    exact hY
  have hm : ∀ Rm, MX Rm T N → Rm 323 18 = (e0 : Int) → ∃ Rm', MT Rm' T N s' e' ∧ Rm' 323 24 = (m : Int) ∧ (∀ j, j < m → Rm' 336 j = Rc' 322 j) ∧ kMm Rm Rm' ∧ ∀ Y : Option (Bool × xN), (if decide (3 ≤ m) = true then (if Rm' 323 21 = 24395141 then (f_X10_next 323 (xup Rm' 323 25 1)).bind (fun v32 => some (decide (3 ≤ m), v32)) else some (decide (3 ≤ m), xup Rm' 323 25 0)) else some (decide (3 ≤ m), xup Rm' 323 25 0)) = Y → f_X10_readsNeeds 323 474757 Rm = Y := fun Rm hX h18 => by
    obtain ⟨Rm', f1, f2, f3, f4, f5, f6⟩ := d9 (xup Rm 323 25 0) (hX.k (xup_nn (by omega)) (fun j => xup_nn (by omega))) (by rw [xup_nn (by omega)]; exact h18)
    refine ⟨Rm', f2, f3, f4, fun q j g1 g2 => by rw [f5 q j g1 g2, xup_nn (by omega)], fun Y hY => ?_⟩
    unfold f_X10_readsNeeds
    rw [xlet_eq, if_neg (by decide), if_neg (by decide), if_pos rfl, f1, Option.bind_some, xlet_eq, xlet_eq, xup_eq, xup_eq, if_neg (show ¬ (1 : Int) = 0 by decide), if_pos rfl]
    exact hY
  obtain ⟨w1, w2⟩ := wd9 (k := 14) (by omega) d3 d4
  by_cases cm : m = 3
  · subst cm
    by_cases cw : isW T s' e' 14
    · obtain ⟨R4, r1, r2, r3, r4, r5, r6⟩ := rda9 (v := 1) d3 d4 (show 3 < 4 by omega) d6 (by decide)
      obtain ⟨tk, tk2, -⟩ := tok_ok (T := T) d4.2.1
      have hse : s' ≤ e' := by
        have := cw.1
        have h6 := (xch_num 14 (by omega) (by omega)).1.1
        omega
      refine ⟨R4, tS T N e', tE T N e', 4, hc _ ?_, r2, tk, by omega, r3, (a4.trans d8).trans r6, fun Rm hX h18 => ?_⟩
      · rw [if_pos (show Rc' 0 8 = 3 from d6), w1 cw, Option.bind_some, if_pos rfl, r1, Option.bind_some]
      · obtain ⟨Rm', f1, f2, f3, f4, f5⟩ := hm Rm hX h18
        have hw := (mw10 (k := 14) (by omega) (by omega) f1 d4).mpr cw
        rw [cdw_num.2.2.2.2.2.2.2.2.2.2.2.2.2] at hw
        obtain ⟨Rn, n1, n2, n3⟩ := next10 (R := xup Rm' 323 25 1) (f1.1.k (xup_nn (by omega)) (fun j => xup_nn (by omega))) d4.2.1 (by rw [xup_nn (by omega)]; exact f1.2.2.1)
        refine ⟨true, Rn, f5 _ ?_, n2, ⟨fun _ => by decide, fun _ => rfl⟩, fun q j g1 g2 => by rw [n3 q j (by omega), xup_nn (by omega), f4 q j g1 g2], fun _ => ⟨fun h => by omega, fun _ => ⟨?_, ?_⟩, fun _ => ⟨?_, ?_, ?_⟩, fun h => by omega, fun h => by omega⟩⟩
        · rw [if_pos (by decide), if_pos hw, n1, Option.bind_some]; rfl
        · rw [n3 336 0 (by omega), xup_nn (by omega), f3 0 (by omega), r5 0 (by omega)]
        · rw [n3 336 1 (by omega), xup_nn (by omega), f3 1 (by omega), r5 1 (by omega)]
        · rw [n3 336 2 (by omega), xup_nn (by omega), f3 2 (by omega), r5 2 (by omega)]
        · rw [n3 323 25 (by omega), xup_eq, r4]
        · rw [r4]; exact Or.inr rfl
    · refine ⟨Rc', s', e', 3, hc _ ?_, d3, d4, d5, d6, a4.trans d8, fun Rm hX h18 => ?_⟩
      · rw [if_pos (show Rc' 0 8 = 3 from d6), w2 cw, Option.bind_some, if_neg Bool.false_ne_true]
      · obtain ⟨Rm', f1, f2, f3, f4, f5⟩ := hm Rm hX h18
        have hw : ¬ Rm' 323 21 = 24395141 := fun h => cw ((mw10 (k := 14) (by omega) (by omega) f1 d4).mp (by rw [h, cdw_num.2.2.2.2.2.2.2.2.2.2.2.2.2]))
        have h3 : Rc' 322 3 = 0 := by rw [d7 3 (by omega), a3 3 (by omega)]
        refine ⟨true, xup Rm' 323 25 0, f5 _ ?_, f1.k (xup_nn (by omega)) (fun j => xup_nn (by omega)) (fun j g1 g2 => xup_nn (by omega)), ⟨fun _ => by decide, fun _ => rfl⟩, fun q j g1 g2 => by rw [xup_nn (by omega), f4 q j g1 g2], fun _ => ⟨fun h => by omega, fun _ => ⟨?_, ?_⟩, fun _ => ⟨?_, ?_, Or.inl h3⟩, fun h => by omega, fun h => by omega⟩⟩
        · rw [if_pos (by decide), if_neg hw]; rfl
        · rw [xup_nn (by omega), f3 0 (by omega)]
        · rw [xup_nn (by omega), f3 1 (by omega)]
        · rw [xup_nn (by omega), f3 2 (by omega)]
        · rw [xup_eq, h3]
  · refine ⟨Rc', s', e', m, hc _ ?_, d3, d4, d5, d6, a4.trans d8, fun Rm hX h18 => ?_⟩
    · rw [if_neg (by omega)]
    · obtain ⟨Rm', f1, f2, f3, f4, f5⟩ := hm Rm hX h18
      have hf : few 8 = 3 := rfl
      refine ⟨false, xup Rm' 323 25 0, f5 _ ?_, f1.k (xup_nn (by omega)) (fun j => xup_nn (by omega)) (fun j g1 g2 => xup_nn (by omega)), ⟨fun h => absurd h (by decide), fun h => by omega⟩, fun q j g1 g2 => by rw [xup_nn (by omega), f4 q j g1 g2], fun h => by omega⟩
      rw [decide_eq_false (show ¬ 3 ≤ m by omega), if_neg Bool.false_ne_true]
theorem isW_ne {T : Nat → Int} {s e k k' : Nat} (h : isW T s e k) (hl : (xch k).length ≠ (xch k').length) : ¬ isW T s e k' := fun h' => hl (by rw [h.1, h'.1])
/-- a word of an edge is read in the same way -/
theorem edge_j {T : Nat → Int} {N e0 : Nat} {all : Bool} {Rc : xN} (he : e0 ≤ N) (hT : CT Rc T N (tS T N e0) (tE T N e0)) : ∃ v vm : Int, f_X9_edgeAt 320 all Rc = some v ∧ ((v = 0 ∧ vm = 0) ∨ (v = (if all = true then 2 else 1) ∧ vm = 2) ∨ (vm = 1 ∧ v = if all = true then 1 else -9) ∨ (vm = 3 ∧ v = if all = true then 3 else -9) ∨ (vm = -1 ∧ v = -9)) ∧ (vm ≠ -1 → tS T N e0 < tE T N e0) ∧ ∀ Rm, MX Rm T N → Rm 323 18 = (e0 : Int) → ∃ R', f_X10_edgeWord 323 Rm = some (vm, R') ∧ (∀ q j : Nat, ¬ (q = 323 ∧ 18 ≤ j ∧ j ≤ 22) → R' q j = Rm q j) ∧ (vm = -1 → MT R' T N (tS T N e0) (tE T N e0)) ∧ (vm ≠ -1 → MT R' T N (tS T N (tE T N e0)) (tE T N (tE T N e0))) := by
  have hstep : ∀ Rm, MX Rm T N → Rm 323 18 = (e0 : Int) → ∃ Rn, f_X10_next 323 Rm = some Rn ∧ MT Rn T N (tS T N e0) (tE T N e0) ∧ ∀ q j : Nat, ¬ (q = 323 ∧ 18 ≤ j ∧ j ≤ 22) → Rn q j = Rm q j := fun Rm hX h18 => next10 hX he h18
  have tk := (tok_ok (T := T) he).1
  generalize tS T N e0 = s at *
  generalize tE T N e0 = e at *
  have hstep2 : ∀ Rm Rn : xN, MT Rn T N s e → (∀ q j : Nat, ¬ (q = 323 ∧ 18 ≤ j ∧ j ≤ 22) → Rn q j = Rm q j) → ∃ R', f_X10_next 323 Rn = some R' ∧ MT R' T N (tS T N e) (tE T N e) ∧ ∀ q j : Nat, ¬ (q = 323 ∧ 18 ≤ j ∧ j ≤ 22) → R' q j = Rm q j := fun Rm Rn hM hk => by
    obtain ⟨R', n1, n2, n3⟩ := next10 hM.1 tk.2.1 hM.2.2.1
    exact ⟨R', n1, n2, fun q j hq => by rw [n3 q j hq, hk q j hq]⟩
  obtain ⟨a1, a2⟩ := wd9 (k := 10) (by omega) hT tk
  obtain ⟨b1, b2⟩ := wd9 (k := 11) (by omega) hT tk
  obtain ⟨c1, c2⟩ := wd9 (k := 12) (by omega) hT tk
  obtain ⟨d1, d2⟩ := wd9 (k := 13) (by omega) hT tk
  have m10 : ∀ Rn, MT Rn T N s e → (Rn 323 21 = 398548 ↔ isW T s e 10) := fun Rn h => by rw [← cdw_num.2.2.2.2.2.2.2.2.2.1]; exact mw10 (by omega) (by omega) h tk
  have m11 : ∀ Rn, MT Rn T N s e → (Rn 323 21 = 20976 ↔ isW T s e 11) := fun Rn h => by rw [← cdw_num.2.2.2.2.2.2.2.2.2.2.1]; exact mw10 (by omega) (by omega) h tk
  have m12 : ∀ Rn, MT Rn T N s e → (Rn 323 21 = 19176724 ↔ isW T s e 12) := fun Rn h => by rw [← cdw_num.2.2.2.2.2.2.2.2.2.2.2.1]; exact mw10 (by omega) (by omega) h tk
  have m13 : ∀ Rn, MT Rn T N s e → (Rn 323 21 = 83513837 ↔ isW T s e 13) := fun Rn h => by rw [← cdw_num.2.2.2.2.2.2.2.2.2.2.2.2.1]; exact mw10 (by omega) (by omega) h tk
  unfold f_X9_edgeAt
  by_cases w10 : isW T s e 10
  · refine ⟨0, 0, by rw [a1 w10, Option.bind_some, if_pos rfl], Or.inl ⟨rfl, rfl⟩, fun _ => by have := w10.1; have h6 : (xch 10).length = 4 := rfl; omega, fun Rm hX h18 => ?_⟩
    obtain ⟨Rn, n1, n2, n3⟩ := hstep Rm hX h18
    obtain ⟨R', r1, r2, r3⟩ := hstep2 Rm Rn n2 n3
    refine ⟨R', ?_, r3, fun h => by omega, fun _ => r2⟩
    unfold f_X10_edgeWord
    rw [n1, Option.bind_some, if_pos ((m10 Rn n2).mpr w10), r1, Option.bind_some]
  · rw [a2 w10, Option.bind_some, if_neg Bool.false_ne_true]
    by_cases w11 : isW T s e 11
    · refine ⟨if all = true then 2 else 1, 2, by rw [b1 w11, Option.bind_some, if_pos rfl, xlet_eq], Or.inr (Or.inl ⟨rfl, rfl⟩), fun _ => by have := w11.1; have h6 : (xch 11).length = 3 := rfl; omega, fun Rm hX h18 => ?_⟩
      obtain ⟨Rn, n1, n2, n3⟩ := hstep Rm hX h18
      obtain ⟨R', r1, r2, r3⟩ := hstep2 Rm Rn n2 n3
      refine ⟨R', ?_, r3, fun h => by omega, fun _ => r2⟩
      unfold f_X10_edgeWord
      rw [n1, Option.bind_some, if_neg (fun h => w10 ((m10 Rn n2).mp h)), if_neg (fun h => isW_ne (k' := 12) w11 (by decide) ((m12 Rn n2).mp h)), if_pos ((m11 Rn n2).mpr w11), r1, Option.bind_some]
    · rw [b2 w11, Option.bind_some, if_neg Bool.false_ne_true]
      by_cases w12 : isW T s e 12
      · refine ⟨if all = true then 1 else -9, 1, ?_, Or.inr (Or.inr (Or.inl ⟨rfl, rfl⟩)), fun _ => by have := w12.1; have h6 : (xch 12).length = 5 := rfl; omega, fun Rm hX h18 => ?_⟩
        · by_cases ca : all = true
          · rw [if_pos ca, c1 w12, Option.bind_some, if_pos rfl, if_pos ca]
          · rw [if_neg ca, if_neg ca, if_neg ca]
        · obtain ⟨Rn, n1, n2, n3⟩ := hstep Rm hX h18
          obtain ⟨R', r1, r2, r3⟩ := hstep2 Rm Rn n2 n3
          refine ⟨R', ?_, r3, fun h => by omega, fun _ => r2⟩
          unfold f_X10_edgeWord
          rw [n1, Option.bind_some, if_neg (fun h => w10 ((m10 Rn n2).mp h)), if_pos ((m12 Rn n2).mpr w12), r1, Option.bind_some]
      · by_cases w13 : isW T s e 13
        · refine ⟨if all = true then 3 else -9, 3, ?_, Or.inr (Or.inr (Or.inr (Or.inl ⟨rfl, rfl⟩))), fun _ => by have := w13.1; have h6 : (xch 13).length = 6 := rfl; omega, fun Rm hX h18 => ?_⟩
          · by_cases ca : all = true
            · rw [if_pos ca, if_pos ca, c2 w12, Option.bind_some, if_neg Bool.false_ne_true, if_pos ca, d1 w13, Option.bind_some, if_pos rfl]
            · rw [if_neg ca, if_neg ca, if_neg ca]
          · obtain ⟨Rn, n1, n2, n3⟩ := hstep Rm hX h18
            obtain ⟨R', r1, r2, r3⟩ := hstep2 Rm Rn n2 n3
            refine ⟨R', ?_, r3, fun h => by omega, fun _ => r2⟩
            unfold f_X10_edgeWord
            rw [n1, Option.bind_some, if_neg (fun h => w10 ((m10 Rn n2).mp h)), if_neg (fun h => w12 ((m12 Rn n2).mp h)), if_neg (fun h => w11 ((m11 Rn n2).mp h)), if_pos ((m13 Rn n2).mpr w13), r1, Option.bind_some]
        · refine ⟨-9, -1, ?_, Or.inr (Or.inr (Or.inr (Or.inr ⟨rfl, rfl⟩))), fun h => absurd rfl h, fun Rm hX h18 => ?_⟩
          · by_cases ca : all = true
            · rw [if_pos ca, c2 w12, Option.bind_some, if_neg Bool.false_ne_true, if_pos ca, d2 w13, Option.bind_some, if_neg Bool.false_ne_true]
            · rw [if_neg ca, if_neg ca]
          · obtain ⟨Rn, n1, n2, n3⟩ := hstep Rm hX h18
            refine ⟨Rn, ?_, n3, fun _ => n2, fun h => absurd rfl h⟩
            unfold f_X10_edgeWord
            rw [n1, Option.bind_some, if_neg (fun h => w10 ((m10 Rn n2).mp h)), if_neg (fun h => w12 ((m12 Rn n2).mp h)), if_neg (fun h => w11 ((m11 Rn n2).mp h)), if_neg (fun h => w13 ((m13 Rn n2).mp h))]
/-- no edge: the model goes back -/
theorem back_j {T : Nat → Int} {N e0 : Nat} {Rm R' : xN} {vm : Int} (he : e0 ≤ N) (hX : MX R' T N) (k : ∀ q j : Nat, ¬ (q = 323 ∧ 18 ≤ j ∧ j ≤ 25) → q ≠ 336 → R' q j = Rm q j) : ∃ Rn, f_X10_next 323 (xup (xup R' 336 0 vm) 323 18 (e0 : Int)) = some Rn ∧ MT Rn T N (tS T N e0) (tE T N e0) ∧ kMm Rm Rn := by
  obtain ⟨Rn, n1, n2, n3⟩ := next10 (R := xup (xup R' 336 0 vm) 323 18 (e0 : Int)) (hX.k (by rw [xup_nn (by omega), xup_nn (by omega)]) (fun j => by rw [xup_nn (by omega), xup_nn (by omega)])) he xup_eq
  exact ⟨Rn, n1, n2, fun q j g1 g2 => by rw [n3 q j (by omega), xup_nn (by omega), xup_nn (by omega), k q j g1 g2]⟩
theorem arg6 {T : Nat → Int} {N : Nat} : ArgJ T N 6 3764 := by
  intro e0 Rc he hT
  obtain ⟨R2, a1, a2, a3, a4, a5⟩ := fil9 (R := Rc)
  have hT2 := hT.k (fun q j hq => a5 q j (by omega) (by omega))
  obtain ⟨v, vm, b1, b2, b3, b4⟩ := edge_j (all := true) he hT2
  rw [if_pos rfl, if_pos rfl, if_pos rfl] at b2
  obtain ⟨tk, tk2, -⟩ := tok_ok (T := T) he
  have hc : ∀ Y, (f_X9_readArgument 0 v R2).bind (fun v12 => some v12) = Y → f_X9_readArguments 0 (6 : Int) Rc = Y := fun Y hY => by
    unfold f_X9_readArguments
    rw [xlet_eq, show 0 + 322 = 322 from rfl, a1, Option.bind_some, if_neg (by decide), if_pos rfl, if_pos rfl, show 0 + 320 = 320 from rfl, b1, Option.bind_some]
    exact hY
  have hf : few 6 = 1 := rfl
  by_cases cv : vm = -1
  · have hv : v = -9 := by omega
    refine ⟨R2, _, _, 0, hc _ ?_, hT2, tk, tk2, a2, a4, fun Rm hX h18 => ?_⟩
    · unfold f_X9_readArgument
      rw [if_pos hv, Option.bind_some]
    · obtain ⟨R', r1, r2, r3, r4⟩ := b4 (xup Rm 323 25 0) (hX.k (xup_nn (by omega)) (fun j => xup_nn (by omega))) (by rw [xup_nn (by omega)]; exact h18)
      obtain ⟨Rn, n1, n2, n3⟩ := back_j (Rm := Rm) (vm := vm) he (r3 cv).1 (fun q j g1 g2 => by rw [r2 q j (by omega), xup_nn (by omega)])
      refine ⟨false, Rn, ?_, n2, ⟨fun h => absurd h (by decide), fun h => by omega⟩, n3, fun h => by omega⟩
      unfold f_X10_readsNeeds
      rw [xlet_eq, if_pos rfl, xlet_eq, r1, Option.bind_some, xlet_eq, show 323 + 13 = 336 from rfl, xup_eq, if_pos (by omega), xlet_eq, xup_nn (by omega), h18, n1, Option.bind_some]
  · have hv : v = vm ∧ 0 ≤ v := by omega
    obtain ⟨R4, q1, q2, q3, q4, q5, q6⟩ := rda9 (i := 0) (v := v) hT2 tk (by omega) a2 (by omega)
    obtain ⟨tk3, tk4, -⟩ := tok_ok (T := T) tk.2.1
    refine ⟨R4, _, _, 1, hc _ ?_, q2, tk3, by have := b3 cv; omega, q3, a4.trans q6, fun Rm hX h18 => ?_⟩
    · rw [q1, Option.bind_some]
    · obtain ⟨R', r1, r2, r3, r4⟩ := b4 (xup Rm 323 25 0) (hX.k (xup_nn (by omega)) (fun j => xup_nn (by omega))) (by rw [xup_nn (by omega)]; exact h18)
      refine ⟨true, xup R' 336 0 vm, ?_, (r4 cv).k (xup_nn (by omega)) (fun j => xup_nn (by omega)) (fun j _ _ => xup_nn (by omega)), ⟨fun _ => by omega, fun _ => rfl⟩, fun q j g1 g2 => by rw [xup_nn (by omega), r2 q j (by omega), xup_nn (by omega)], fun _ => ⟨fun h => by omega, fun h => by omega, fun h => by omega, fun _ => by rw [xup_eq, q4]; omega, fun h => by omega⟩⟩
      unfold f_X10_readsNeeds
      rw [xlet_eq, if_pos rfl, xlet_eq, r1, Option.bind_some, xlet_eq, show 323 + 13 = 336 from rfl, xup_eq, if_neg (by omega), if_pos rfl]
theorem arg4 {T : Nat → Int} {N : Nat} : ArgJ T N 4 20456901 := by
  intro e0 Rc he hT
  obtain ⟨R2, a1, a2, a3, a4, a5⟩ := fil9 (R := Rc)
  have hT2 := hT.k (fun q j hq => a5 q j (by omega) (by omega))
  obtain ⟨v, vm, b1, b2, b3, b4⟩ := edge_j (all := false) he hT2
  rw [if_neg Bool.false_ne_true, if_neg Bool.false_ne_true, if_neg Bool.false_ne_true] at b2
  obtain ⟨tk, tk2, -⟩ := tok_ok (T := T) he
  have hc : ∀ Y, (f_X9_readArgument 0 v R2).bind (fun v8 => some v8) = Y → f_X9_readArguments 0 (4 : Int) Rc = Y := fun Y hY => by
    unfold f_X9_readArguments
    rw [xlet_eq, show 0 + 322 = 322 from rfl, a1, Option.bind_some, if_pos rfl, if_neg (by decide), show 0 + 320 = 320 from rfl, b1, Option.bind_some]
    exact hY
  have hf : few 4 = 1 := rfl
  by_cases cv : v = -9
  · refine ⟨R2, _, _, 0, hc _ ?_, hT2, tk, tk2, a2, a4, fun Rm hX h18 => ?_⟩
    · unfold f_X9_readArgument
      rw [if_pos cv, Option.bind_some]
    · obtain ⟨R', r1, r2, r3, r4⟩ := b4 (xup Rm 323 25 0) (hX.k (xup_nn (by omega)) (fun j => xup_nn (by omega))) (by rw [xup_nn (by omega)]; exact h18)
      have hX' : MX R' T N := by
        by_cases c : vm = -1
        · exact (r3 c).1
        · exact (r4 c).1
      obtain ⟨Rn, n1, n2, n3⟩ := back_j (Rm := Rm) (vm := vm) he hX' (fun q j g1 g2 => by rw [r2 q j (by omega), xup_nn (by omega)])
      refine ⟨false, Rn, ?_, n2, ⟨fun h => absurd h (by decide), fun h => by omega⟩, n3, fun h => by omega⟩
      unfold f_X10_readsNeeds
      rw [xlet_eq, if_neg (by decide), if_pos rfl, xlet_eq, r1, Option.bind_some, xlet_eq, show 323 + 13 = 336 from rfl, xup_eq]
      by_cases c : vm < 0
      · rw [if_pos c, xlet_eq, xup_nn (by omega), h18, n1, Option.bind_some]
      · rw [if_neg c, if_neg (by decide), if_neg (show ¬ vm = 0 by omega), if_neg (show ¬ vm = 2 by omega), xlet_eq, xup_nn (by omega), h18, n1, Option.bind_some]
  · have hv : (v = 0 ∧ vm = 0) ∨ (v = 1 ∧ vm = 2) := by omega
    have cm : vm ≠ -1 := by omega
    obtain ⟨R4, q1, q2, q3, q4, q5, q6⟩ := rda9 (i := 0) (v := v) hT2 tk (by omega) a2 cv
    obtain ⟨tk3, tk4, -⟩ := tok_ok (T := T) tk.2.1
    refine ⟨R4, _, _, 1, hc _ ?_, q2, tk3, by have := b3 cm; omega, q3, a4.trans q6, fun Rm hX h18 => ?_⟩
    · rw [q1, Option.bind_some]
    · obtain ⟨R', r1, r2, r3, r4⟩ := b4 (xup Rm 323 25 0) (hX.k (xup_nn (by omega)) (fun j => xup_nn (by omega))) (by rw [xup_nn (by omega)]; exact h18)
      refine ⟨true, xup R' 336 0 vm, ?_, (r4 cm).k (xup_nn (by omega)) (fun j => xup_nn (by omega)) (fun j _ _ => xup_nn (by omega)), ⟨fun _ => by omega, fun _ => rfl⟩, fun q j g1 g2 => by rw [xup_nn (by omega), r2 q j (by omega), xup_nn (by omega)], fun _ => ⟨fun h => by omega, fun h => by omega, fun h => by omega, fun h => by omega, fun _ => by rw [xup_eq, q4]; omega⟩⟩
      unfold f_X10_readsNeeds
      rw [xlet_eq, if_neg (by decide), if_pos rfl, xlet_eq, r1, Option.bind_some, xlet_eq, show 323 + 13 = 336 from rfl, xup_eq, if_neg (by omega), if_neg (by decide)]
      rcases hv with ⟨_, h⟩ | ⟨_, h⟩
      · rw [if_pos h]
      · rw [if_neg (by omega), if_pos h]
theorem AG.k {k : Nat} {Rc Rc' Rm : xN} (h : AG k Rc Rm) (k1 : Rc' 0 8 = Rc 0 8) (k2 : ∀ j, Rc' 322 j = Rc 322 j) : AG k Rc' Rm := by
  unfold AG at *
  simp only [k1, k2]
  exact h
/-- a command is read in the same way -/
def RdJ (T : Nat → Int) (N k : Nat) (w : Int) : Prop := ∀ (Rc : xN) (s0 e0 : Nat), CT Rc T N s0 e0 → TF T N s0 e0 → ∃ Rc', kC Rc Rc' ∧ ((∃ s' : Nat, f_X9_readCommand 0 (k : Int) Rc = some ((s' : Int), Rc') ∧ s' ≤ N ∧ ∀ Rm, MT Rm T N s0 e0 → ∃ (b : Bool) (Rm' : xN), f_X10_readsNeeds 323 w Rm = some (b, Rm') ∧ ¬ (b = true ∧ Rm' 323 20 = 3) ∧ Rm' 323 19 = (s' : Int) ∧ kMm Rm Rm') ∨ ∃ e1 : Nat, f_X9_readCommand 0 (k : Int) Rc = some (-1, Rc') ∧ e0 < e1 ∧ e1 ≤ N ∧ CT Rc' T N (tS T N e1) (tE T N e1) ∧ ∀ Rm, MT Rm T N s0 e0 → ∃ Rm', f_X10_readsNeeds 323 w Rm = some (true, Rm') ∧ Rm' 323 20 = 3 ∧ Rm' 323 18 = (e1 : Int) ∧ MX Rm' T N ∧ kMm Rm Rm' ∧ AG k Rc' Rm')
theorem rd_j {T : Nat → Int} {N k : Nat} {w : Int} (hk : k ≠ 0) (hfew : ∀ R, f_X9_fewestArguments (k : Int) R = some (few k : Int)) (h : ArgJ T N k w) : RdJ T N k w := by
  intro Rc s0 e0 hT hF
  obtain ⟨R1, a1, a2, a3⟩ := adv9 hT.1 hF.2.1 hT.2.2
  have ka : kC Rc R1 := fun q j g1 g2 g3 => a3 q j (by omega)
  obtain ⟨R2, s', e', m, b1, b2, b3, b4, b5, b6, b7⟩ := h e0 R1 hF.2.1 a2
  obtain ⟨c1, c2⟩ := ch9 (v := 59) b2 b3
  have hc : ∀ Y, (if R2 0 8 < (few k : Int) then some (R2 320 2, R2) else (f_X6_isCharacter 320 59 R2).bind (fun v6 => if v6 = true then (f_X6_advance 320 R2).bind (fun v8 => some ((-1), v8)) else some (R2 320 2, R2))) = Y → f_X9_readCommand 0 (k : Int) Rc = Y := fun Y hY => by
    unfold f_X9_readCommand
    rw [if_neg (show ¬ (k : Int) = 0 by omega), show 0 + 320 = 320 from rfl, a1, Option.bind_some, b1, Option.bind_some, hfew, Option.bind_some]
    exact hY
  by_cases cf : few k ≤ m
  · by_cases c59 : s' < N ∧ T s' = 59
    · obtain ⟨d1, -, -⟩ := b3.2.2.2 c59.1
      obtain ⟨R3, f1, f2, f3⟩ := adv9 b2.1 b3.2.1 b2.2.2
      refine ⟨R3, (ka.trans b6).trans (fun q j g1 g2 g3 => f3 q j (by omega)), Or.inr ⟨e', hc _ ?_, by omega, b3.2.1, f2, fun Rm hM => ?_⟩⟩
      · rw [if_neg (by omega), c1 c59, Option.bind_some, if_pos rfl, f1, Option.bind_some]
      · obtain ⟨b, Rm1, g1, g2, g3, g4, g5⟩ := b7 Rm hM.1 hM.2.2.1
        rw [g3.mpr cf] at g1
        exact ⟨Rm1, g1, (mk10 g2 b3).2.2.1.mpr c59, g2.2.2.1, g2.1, g4, (g5 cf).k (f3 0 8 (by omega)) (fun j => f3 322 j (by omega))⟩
    · refine ⟨R2, ka.trans b6, Or.inl ⟨s', hc _ ?_, b3.1, fun Rm hM => ?_⟩⟩
      · rw [if_neg (by omega), c2 c59, Option.bind_some, if_neg Bool.false_ne_true, b2.2.1]
      · obtain ⟨b, Rm1, g1, g2, g3, g4, g5⟩ := b7 Rm hM.1 hM.2.2.1
        exact ⟨b, Rm1, g1, fun hh => c59 ((mk10 g2 b3).2.2.1.mp hh.2), g2.2.1, g4⟩
  · refine ⟨R2, ka.trans b6, Or.inl ⟨s', hc _ ?_, b3.1, fun Rm hM => ?_⟩⟩
    · rw [if_pos (by omega), b2.2.1]
    · obtain ⟨b, Rm1, g1, g2, g3, g4, g5⟩ := b7 Rm hM.1 hM.2.2.1
      exact ⟨b, Rm1, g1, fun hh => cf (g3.mp hh.1), g2.2.1, g4⟩
