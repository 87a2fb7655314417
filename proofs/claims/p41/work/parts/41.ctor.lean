/-! Constructors: the cells as lists. -/
def sft (a : Nat) (p : Nat × Nat × Nat) : Nat × Nat × Nat := (a + p.1, p.2.1, a + p.2.2)
def xlk (rl : List (Nat × Nat × Nat)) (j k : Nat) : Option Nat := (rl.find? fun p => p.1 == j && p.2.1 == k).map (fun p => p.2.2)
def mkA (Kl : List (Nat × Nat)) (Rl : List (Nat × Nat × Nat)) (s : Nat) : xA := (fun q => Kl.getD q (9, 0), fun q k => xlk Rl q k, Kl.length, s)
/-- the cells so far: those before (K0, R0, s0), then an object's own (L, rl, s), told from its own address K0.length on -/
def mk (K0 : List (Nat × Nat)) (R0 : List (Nat × Nat × Nat)) (s0 : Nat) (L : List (Nat × Nat)) (rl : List (Nat × Nat × Nat)) (s : Nat) : xA := mkA (K0 ++ L) (rl.map (sft K0.length) ++ R0) (s0 + s)
theorem mk_kd {K0 R0 s0 L rl s} {j : Nat} {kd : Nat × Nat} (h : L.getD j (9, 0) = kd) (hj : Nat.ble (j + 1) L.length = true) : (mk K0 R0 s0 L rl s).1 (K0.length + j) = kd := by
  have hj := Nat.le_of_ble_eq_true hj
  show (K0 ++ L).getD (K0.length + j) (9, 0) = kd
  rw [← h, List.getD_eq_getElem?_getD, List.getD_eq_getElem?_getD, List.getElem?_append_right (by omega)]
  congr 2
  omega
theorem mk_kd0 {K0 R0 s0 L rl s} {kd : Nat × Nat} (h : L.getD 0 (9, 0) = kd) (hj : Nat.ble 1 L.length = true) : (mk K0 R0 s0 L rl s).1 K0.length = kd := mk_kd (j := 0) h hj
theorem xlk_app {r1 r2 : List (Nat × Nat × Nat)} {j k o : Nat} (h : xlk r1 j k = some o) : xlk (r1 ++ r2) j k = some o := by
  unfold xlk at h ⊢
  rw [List.find?_append]
  cases hf : r1.find? (fun p => p.1 == j && p.2.1 == k) with
  | none => rw [hf] at h; cases h
  | some p => rw [hf] at h; exact h
theorem xlk_sft {rl : List (Nat × Nat × Nat)} {a j k : Nat} : xlk (rl.map (sft a)) (a + j) k = (xlk rl j k).map (fun o => a + o) := by
  unfold xlk
  induction rl with
  | nil => rfl
  | cons p rl ih =>
    rw [List.map_cons, List.find?_cons, List.find?_cons]
    have e : ((sft a p).1 == a + j && (sft a p).2.1 == k) = (p.1 == j && p.2.1 == k) := by
      unfold sft
      have : (a + p.1 == a + j) = (p.1 == j) := by
        rw [Bool.eq_iff_iff]; simp
      simp only [this]
    rw [e]
    cases h : (p.1 == j && p.2.1 == k) with
    | true => rfl
    | false => exact ih
theorem mk_rf {K0 R0 s0 L rl s} {j k o : Nat} (h : xlk rl j k = some o) : (mk K0 R0 s0 L rl s).2.1 (K0.length + j) k = some (K0.length + o) := xlk_app (by rw [xlk_sft, h]; rfl)
theorem mk_rf0 {K0 R0 s0 L rl s} {k o : Nat} (h : xlk rl 0 k = some o) : (mk K0 R0 s0 L rl s).2.1 K0.length k = some (K0.length + o) := mk_rf (j := 0) h
theorem mk_top {K0 R0 s0 L rl s} : (mk K0 R0 s0 L rl s).2.2.1 = K0.length + L.length := List.length_append
theorem mk_alloc {K0 R0 s0 L rl s} {kd : Nat × Nat} {n : Nat} (hR : ∀ p ∈ rl, p.1 < L.length) (hR0 : ∀ p ∈ R0, p.1 < K0.length) : xalloc (mk K0 R0 s0 L rl s) kd n = mk K0 R0 s0 (L ++ [kd]) rl (s + n) := by
  unfold xalloc
  rw [mk_top]
  refine Prod.ext ?_ (Prod.ext ?_ (Prod.ext ?_ ?_))
  · funext q
    show (if q = K0.length + L.length then kd else (K0 ++ L).getD q (9, 0)) = (K0 ++ (L ++ [kd])).getD q (9, 0)
    rw [← List.append_assoc, List.getD_eq_getElem?_getD, List.getD_eq_getElem?_getD]
    by_cases h : q = K0.length + L.length
    · rw [if_pos h, List.getElem?_append_right (by rw [List.length_append]; omega), List.length_append, h, Nat.sub_self]; rfl
    · rw [if_neg h]
      rcases Nat.lt_or_ge q (K0.length + L.length) with h1 | h1
      · rw [List.getElem?_append_left (l₁ := K0 ++ L) (l₂ := [kd]) (by rw [List.length_append]; exact h1)]
      · rw [List.getElem?_eq_none (by rw [List.length_append]; exact h1), List.getElem?_eq_none (by rw [List.length_append, List.length_append]; simp; omega)]
  · funext q k
    show (if q = K0.length + L.length then (fun _ => none) else fun k => xlk (rl.map (sft K0.length) ++ R0) q k) k = xlk (rl.map (sft K0.length) ++ R0) q k
    by_cases h : q = K0.length + L.length
    · rw [if_pos h]
      symm
      unfold xlk
      rw [Option.map_eq_none_iff, List.find?_eq_none]
      intro p hp
      rcases List.mem_append.mp hp with h1 | h1
      · obtain ⟨z, hz, rfl⟩ := List.mem_map.mp h1
        have := hR z hz
        unfold sft
        simp
        intro h2; omega
      · have := hR0 p h1
        simp
        intro h2; omega
    · rw [if_neg h]
  · show K0.length + L.length + 1 = (K0 ++ (L ++ [kd])).length
    simp; omega
  · show s0 + s + n = s0 + (s + n)
    omega
theorem mk_putr {K0 R0 s0 L rl s} {j k o : Nat} : xrf (mk K0 R0 s0 L rl s) (K0.length + j) k (K0.length + o) = mk K0 R0 s0 L ((j, k, o) :: rl) s := by
  unfold xrf
  refine Prod.ext rfl (Prod.ext ?_ rfl)
  funext q i
  show (if q = K0.length + j then (fun i => if i = k then some (K0.length + o) else xlk (rl.map (sft K0.length) ++ R0) q i) else fun i => xlk (rl.map (sft K0.length) ++ R0) q i) i = xlk (((j, k, o) :: rl).map (sft K0.length) ++ R0) q i
  unfold xlk
  rw [List.map_cons, List.cons_append, List.find?_cons]
  by_cases h : q = K0.length + j
  · subst h
    rw [if_pos rfl]
    by_cases h2 : i = k
    · subst h2
      simp [sft]
    · have : ((sft K0.length (j, k, o)).1 == K0.length + j && (sft K0.length (j, k, o)).2.1 == i) = false := by simp [sft, Ne.symm h2]
      rw [this]
      simp [h2]
  · rw [if_neg h]
    have : ((sft K0.length (j, k, o)).1 == q && (sft K0.length (j, k, o)).2.1 == i) = false := by
      simp [sft]
      intro h3; exact absurd h3.symm h
    rw [this]
/-- a part's cells are the object's own -/
theorem mk_nest {K0 R0 s0 L rl s L2 r2 s2} : mk (K0 ++ L) (rl.map (sft K0.length) ++ R0) (s0 + s) L2 r2 s2 = mk K0 R0 s0 (L ++ L2) (r2.map (sft L.length) ++ rl) (s + s2) := by
  unfold mk
  rw [List.append_assoc, List.map_append, List.length_append, List.map_map, List.append_assoc, Nat.add_assoc]
  congr 3
  funext p
  unfold sft
  simp [Nat.add_assoc]
theorem mk_sh {K0 R0 s0 L rl s} {ci off : Nat} (h1 : ((List.range (xktL ci).length).all fun j => Nat.ble (off + j + 1) L.length && decide (L.getD (off + j) (9, 0) = (xktL ci).getD j (9, 0))) = true) (h2 : ((xrL ci).all fun q => decide (xlk rl (off + q.1) q.2.1 = some (off + q.2.2))) = true) : sh ci (mk K0 R0 s0 L rl s) (K0.length + off) := by
  refine ⟨fun j hj => ?_, fun q hq => ?_⟩
  · have := List.all_eq_true.mp h1 j (List.mem_range.mpr hj)
    simp only [Bool.and_eq_true, decide_eq_true_eq] at this
    rw [Nat.add_assoc]
    exact mk_kd this.2 this.1
  · have := of_decide_eq_true (List.all_eq_true.mp h2 q hq)
    rw [Nat.add_assoc, Nat.add_assoc]
    exact mk_rf this
/-- lists of references stay inside -/
def xin (rl : List (Nat × Nat × Nat)) (n : Nat) : Prop := ∀ p ∈ rl, p.1 < n
theorem xin_d {rl : List (Nat × Nat × Nat)} {n : Nat} (h : (rl.all fun p => decide (p.1 < n)) = true) : xin rl n := fun p hp => of_decide_eq_true (List.all_eq_true.mp h p hp)
theorem xin_nest {K0 : List (Nat × Nat)} {R0 rl : List (Nat × Nat × Nat)} {L : List (Nat × Nat)} (h0 : xin R0 K0.length) (h : xin rl L.length) : xin (rl.map (sft K0.length) ++ R0) (K0 ++ L).length := fun p hp => by
  rw [List.length_append]
  rcases List.mem_append.mp hp with h1 | h1
  · obtain ⟨z, hz, rfl⟩ := List.mem_map.mp h1
    have := h z hz
    unfold sft
    simp only
    omega
  · have := h0 p h1
    omega
def Xq (l : Launch) (g : xG) (d : Nat) (mm : xM) (pc : Nat) (L st : List xV) (A : xA) (R : xN) (A' : xA) (P : xN → Prop) : Prop := ∃ R', Ex l g d mm pc L st A R none A' R' ∧ P R'
section XQ
variable {l : Launch} {g : xG} {d : Nat} {mm : xM} {pc : Nat} {L st : List xV} {A A' : xA} {R : xN} {P : xN → Prop}
theorem xq_st {pc' : Nat} {L' st' : List xV} {A1 : xA} {R1 : xN} (h : ∀ R', Ex l g d mm pc' L' st' A1 R1 none A' R' → Ex l g d mm pc L st A R none A' R') (k : Xq l g d mm pc' L' st' A1 R1 A' P) : Xq l g d mm pc L st A R A' P := by
  obtain ⟨R', h1, h2⟩ := k
  exact ⟨R', h _ h1, h2⟩
theorem xq_end {R' : xN} (h : Ex l g d mm pc L st A R none A' R') (hP : P R') : Xq l g d mm pc L st A R A' P := ⟨R', h, hP⟩
theorem xq_callI {cal : xM} {idx n b : Nat} {As L0 st0 : List xV} {A1 : xA} {P1 : xN → Prop} (hd : decode mm.2.1 pc = .ok (.invokespecial idx, 3)) (hM : xMI mm.1.cls idx cal n) (hn : As.length = n) (hst0 : As.reverse ++ (xR b :: st) = st0) (hL0 : xent (xR b :: As) cal.2.2.1 = L0) (hset : (xR b :: As).all xset = true) (hlen : Nat.ble (xexp (xR b :: As)).length cal.2.2.1 = true) (hsz : Nat.ble (xsz st) 8 = true) (h1 : Xq l g d cal 0 L0 [] A R A1 P1) (kk : ∀ R1, P1 R1 → Xq l g (d + 1) mm (pc + 3) L st A1 R1 A' P) : Xq l g (d + 1) mm pc L st0 A R A' P := by
  obtain ⟨R1, h2, h3⟩ := h1
  obtain ⟨R', h4, h5⟩ := kk R1 h3
  exact ⟨R', e_callI hd hM hn hst0 hL0 hset hlen hsz h2 h4, h5⟩
theorem xq_callJ {cal : xM} {idx n b : Nat} {As L0 st0 : List xV} {A1 : xA} {P1 : xN → Prop} (hd : decode mm.2.1 pc = .ok (.invokespecial idx, 3)) (hM : xMJ mm.1.cls idx cal n) (hn : As.length = n) (hst0 : As.reverse ++ (xR b :: st) = st0) (hL0 : xent (xR b :: As) cal.2.2.1 = L0) (hset : (xR b :: As).all xset = true) (hlen : Nat.ble (xexp (xR b :: As)).length cal.2.2.1 = true) (hsz : Nat.ble (xsz st) 8 = true) (h1 : Xq l g d cal 0 L0 [] A R A1 P1) (kk : ∀ R1, P1 R1 → Xq l g (d + 1) mm (pc + 3) L st A1 R1 A' P) : Xq l g (d + 1) mm pc L st0 A R A' P := by
  obtain ⟨R1, h2, h3⟩ := h1
  obtain ⟨R', h4, h5⟩ := kk R1 h3
  exact ⟨R', e_callJ hd hM hn hst0 hL0 hset hlen hsz h2 h4, h5⟩
/-- a call that makes nothing -/
theorem xq_callV {β : Type} {cal : xM} {idx n ci b : Nat} {As L0 st0 : List xV} {rr1 : β → Option xV} {RR1 : β → xN} {f : Option β} {v : β} (hd : decode mm.2.1 pc = .ok (.invokevirtual idx, 3)) (hM : xMV mm.1.cls idx cal n ci) (hkb : A.1 b = (0, ci)) (hn : As.length = n) (hst0 : As.reverse ++ (xR b :: st) = st0) (hL0 : xent (xR b :: As) cal.2.2.1 = L0) (hset : (xR b :: As).all xset = true) (hlen : Nat.ble (xexp (xR b :: As)).length cal.2.2.1 = true) (hsz : Nat.ble (xsz st) 8 = true) (h1 : Ev l g d cal 0 L0 [] A R rr1 RR1 f) (hf : f = some v) (hokr : okr cal.2.2.2 (rr1 v)) (kk : Xq l g (d + 1) mm (pc + 3) L ((rr1 v).toList ++ st) A (RR1 v) A' P) : Xq l g (d + 1) mm pc L st0 A R A' P := by
  obtain ⟨R', h4, h5⟩ := kk
  exact ⟨R', e_callV hd hM hkb hn hst0 hL0 hset hlen hsz hokr (h1 v hf) h4, h5⟩
variable {K0 : List (Nat × Nat)} {R0 : List (Nat × Nat × Nat)} {s0 s : Nat} {Lk : List (Nat × Nat)} {rl : List (Nat × Nat × Nat)} {r : Option xV} {R' : xN}
theorem e_newa_m {n : Int} {L2 : List (Nat × Nat)} {j s2 : Nat} (hd : decode mm.2.1 pc = .ok (.newarray .int, 2)) (h1 : Cond.arrayClass .int ∈ wG) (h0 : 0 ≤ n) (hn : n ≤ 100000) (hR0 : xin R0 K0.length) (hR : (rl.all fun p => decide (p.1 < Lk.length)) = true) (hL2 : Lk ++ [(1, n.toNat)] = L2) (hj : Lk.length = j) (hs2 : s + n.toNat = s2)
    (k : Ex l g d mm (pc + 2) L (xR (K0.length + j) :: st) (mk K0 R0 s0 L2 rl s2) (xzero R (K0.length + j)) r A' R') : Ex l g d mm pc L (xI n :: st) (mk K0 R0 s0 Lk rl s) R r A' R' := by
  subst hL2; subst hj; subst hs2
  refine e_newa hd h1 h0 hn ?_
  rw [mk_top, mk_alloc (xin_d hR) hR0]
  exact k
theorem e_anew2_m {n : Int} {idx : Nat} {L2 : List (Nat × Nat)} {j s2 : Nat} (hd : decode mm.2.1 pc = .ok (.anewarray idx, 3)) (h1 : Cond.classLink mm.1.cls idx RX0 ∈ wG) (h0 : 0 ≤ n) (hn : n ≤ 100000) (hR0 : xin R0 K0.length) (hR : (rl.all fun p => decide (p.1 < Lk.length)) = true) (hL2 : Lk ++ [(2, n.toNat)] = L2) (hj : Lk.length = j) (hs2 : s + n.toNat = s2)
    (k : Ex l g d mm (pc + 3) L (xR (K0.length + j) :: st) (mk K0 R0 s0 L2 rl s2) (xzero R (K0.length + j)) r A' R') : Ex l g d mm pc L (xI n :: st) (mk K0 R0 s0 Lk rl s) R r A' R' := by
  subst hL2; subst hj; subst hs2
  refine e_anew2 hd h1 h0 hn ?_
  rw [mk_top, mk_alloc (xin_d hR) hR0]
  exact k
theorem e_anew3_m {n : Int} {idx : Nat} {L2 : List (Nat × Nat)} {j s2 : Nat} (hd : decode mm.2.1 pc = .ok (.anewarray idx, 3)) (h1 : Cond.classLink mm.1.cls idx RX8 ∈ wG) (h0 : 0 ≤ n) (hn : n ≤ 100000) (hR0 : xin R0 K0.length) (hR : (rl.all fun p => decide (p.1 < Lk.length)) = true) (hL2 : Lk ++ [(3, n.toNat)] = L2) (hj : Lk.length = j) (hs2 : s + n.toNat = s2)
    (k : Ex l g d mm (pc + 3) L (xR (K0.length + j) :: st) (mk K0 R0 s0 L2 rl s2) (xmone R (K0.length + j)) r A' R') : Ex l g d mm pc L (xI n :: st) (mk K0 R0 s0 Lk rl s) R r A' R' := by
  subst hL2; subst hj; subst hs2
  refine e_anew3 hd h1 h0 hn ?_
  rw [mk_top, mk_alloc (xin_d hR) hR0]
  exact k
theorem e_new_m {idx ci : Nat} {L2 : List (Nat × Nat)} {j s2 : Nat} (hd : decode mm.2.1 pc = .ok (.new idx, 3)) (hci : ci < 10) (hdf : ∀ k, k < (xct ci).2.2 → xkd (xty ci k) ≤ 3) (h1 : Cond.classLink mm.1.cls idx (xct ci).1 ∈ wG) (h2 : Cond.instantiable (xct ci).1 (xct ci).2.2 ∈ wG) (h3 : Cond.initialized (xct ci).1 ∈ wG) (hR0 : xin R0 K0.length) (hR : (rl.all fun p => decide (p.1 < Lk.length)) = true) (hL2 : Lk ++ [(0, ci)] = L2) (hj : Lk.length = j) (hs2 : s + (xct ci).2.2 = s2)
    (k : Ex l g d mm (pc + 3) L (xR (K0.length + j) :: st) (mk K0 R0 s0 L2 rl s2) (xzero R (K0.length + j)) r A' R') : Ex l g d mm pc L st (mk K0 R0 s0 Lk rl s) R r A' R' := by
  subst hL2; subst hj; subst hs2
  refine e_new hd hci hdf h1 h2 h3 ?_
  rw [mk_top, mk_alloc (xin_d hR) hR0]
  exact k
theorem e_putr_m {b a idx ci k j o : Nat} (hd : decode mm.2.1 pc = .ok (.putfield idx, 3)) (hf : xGF mm.1.cls idx ci k) (hk : (mk K0 R0 s0 Lk rl s).1 a = (0, ci)) (hfin : ((xct ci).2.1 k).2.2.2 = false ∨ (mm.1.name = "<init>" ∧ ((xct ci).2.1 k).1 = mm.1.cls)) (ht : xkd (xty ci k) = 2) (ha : a = K0.length + j) (hb : b = K0.length + o) (kk : Ex l g d mm (pc + 3) L st (mk K0 R0 s0 Lk ((j, k, o) :: rl) s) R r A' R') : Ex l g d mm pc L (xR b :: xR a :: st) (mk K0 R0 s0 Lk rl s) R r A' R' := by
  subst ha; subst hb
  refine e_putr hd hf hk hfin ht ?_
  rw [mk_putr]
  exact kk
theorem e_aast2_m {n : Nat} {i : Int} {j o k : Nat} (hd : decode mm.2.1 pc = .ok (.aastore, 1)) (hk : (mk K0 R0 s0 Lk rl s).1 (K0.length + j) = (2, n)) (hkb : (mk K0 R0 s0 Lk rl s).1 (K0.length + o) = (0, 0)) (h0 : 0 ≤ i) (hn : i < (n : Int)) (hi : i.toNat = k) (kk : Ex l g d mm (pc + 1) L st (mk K0 R0 s0 Lk ((j, k, o) :: rl) s) R r A' R') : Ex l g d mm pc L (xR (K0.length + o) :: xI i :: xR (K0.length + j) :: st) (mk K0 R0 s0 Lk rl s) R r A' R' := by
  subst hi
  refine e_aast2 hd hk hkb h0 hn ?_
  rw [mk_putr]
  exact kk
/-- the callee's cells, told as its caller tells them -/
theorem xq_nest {Lk2 L3 : List (Nat × Nat)} {r2 : List (Nat × Nat × Nat)} {s2 s3 s4 : Nat} {cal : xM} {b : Nat} {P1 : xN → Prop} {L0 : List xV} {Lk1 : List (Nat × Nat)} (h : Xq l g d cal 0 L0 [] (mk (K0 ++ Lk) (rl.map (sft K0.length) ++ R0) (s0 + s) Lk1 [] s2) R (mk (K0 ++ Lk) (rl.map (sft K0.length) ++ R0) (s0 + s) Lk2 r2 s3) P1) (hL : Lk ++ Lk1 = L3) (hs4 : s + s2 = s4) (hb : b = (K0 ++ Lk).length) : Xq l g d cal 0 L0 [] (mk K0 R0 s0 L3 rl s4) R (mk K0 R0 s0 (Lk ++ Lk2) (r2.map (sft Lk.length) ++ rl) (s + s3)) P1 := by
  rw [mk_nest, mk_nest] at h
  subst hL; subst hs4
  exact h
end XQ
