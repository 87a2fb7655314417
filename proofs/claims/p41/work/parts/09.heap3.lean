section XN1
variable {l : Launch} {g : xG} {d : Nat} {mm : xM} {pc : Nat} {L st : List xV} {A : xA} {R : xN} {r : Option xV} {A' : xA} {R' : xN}
def xalloc (A : xA) (kd : Nat × Nat) (n : Nat) : xA := (fun q => if q = A.2.2.1 then kd else A.1 q, fun q => if q = A.2.2.1 then (fun _ => none) else A.2.1 q, A.2.2.1 + 1, A.2.2.2 + n)
def xzero (R : xN) (a : Nat) : xN := fun q => if q = a then (fun _ => 0) else R q
def xmone (R : xN) (a : Nat) : xN := fun q => if q = a then (fun _ => -1) else R q
theorem xmone_at {a : Nat} : xmone R a a = fun _ => -1 := by simp [xmone]
theorem xalloc_k {kd : Nat × Nat} {n : Nat} : (xalloc A kd n).1 A.2.2.1 = kd := by simp [xalloc]
theorem xalloc_r {kd : Nat × Nat} {n : Nat} : (xalloc A kd n).2.1 A.2.2.1 = fun _ => none := by simp [xalloc]
theorem xzero_at {a : Nat} : xzero R a a = fun _ => 0 := by simp [xzero]
theorem xok_alloc {kd : Nat × Nat} {n : Nat} {R1 : xN} (h : xok A R) (hk : kd.1 = 0 → kd.2 < 10) (hz : ∀ k, i4 (R1 A.2.2.1 k)) (hR1 : ∀ q, q ≠ A.2.2.1 → R1 q = R q) : xok (xalloc A kd n) R1 := by
  refine ⟨fun q k => ?_, fun q hq => ?_, fun q => ?_⟩
  · by_cases hq : q = A.2.2.1
    · subst hq
      rw [xalloc_k]
      split
      · exact i4_8 (hz k)
      · exact hz k
    · rw [hR1 q hq]
      simp only [xalloc, if_neg hq]
      exact h.1 q k
  · have hq' : A.2.2.1 + 1 ≤ q := hq
    simp only [xalloc]
    rw [if_neg (by omega)]
    exact h.2.1 q (by omega)
  · by_cases hq : q = A.2.2.1
    · subst hq
      rw [xalloc_k]
      exact hk
    · simp only [xalloc, if_neg hq]
      exact h.2.2 q
theorem xRel_push {H : Heap} {locs : List Loc} {kd : Nat × Nat} {n : Nat} {cell : Cell} {R1 : xN} (hz : ∀ k, i4 (R1 A.2.2.1 k)) (hR1 : ∀ q, q ≠ A.2.2.1 → R1 q = R q) (hr : xRel g A R H locs) (hat : va_at g.1 vwCl (xB g + A.2.2.1, xcl g (xalloc A kd n) R1 A.2.2.1) (H.push cell)) (hk : kd.1 = 0 → kd.2 < 10) : xRel g (xalloc A kd n) R1 (H.push cell) locs := by
  refine ⟨fun k q hq => ?_, ?_, xok_alloc hr.2.2.1 hk hz hR1, ?_, fun q h1 h2 => ?_, hr.2.2.2.2.2⟩
  · obtain ⟨hk, rfl⟩ := xren_inv hq
    by_cases ha : k = A.2.2.1
    · subst ha; exact hat
    · have hlt : k < A.2.2.1 := by
        have hk' : k < A.2.2.1 + 1 := hk
        omega
      rw [xcl_ne (A := A) (R := R) (by simp [xalloc, ha]) (by simp [xalloc, ha]) (hR1 k ha)]
      refine (hr.1 k _ (xren_at hlt)).kept ?_
      rw [Array.getElem?_push, if_neg]
      rw [hr.2.1]
      show ¬ (xB g + k = _)
      omega
  · rw [Array.size_push, hr.2.1]; rfl
  · rw [Array.size_push]
    exact Nat.le_succ_of_le hr.2.2.2.1
  · rw [Array.getElem?_push, if_neg]
    · exact hr.2.2.2.2.1 q h1 h2
    · intro h
      exact h2 (show xB g ≤ q by rw [h, hr.2.1]; exact Nat.le_add_right _ _)
theorem xdef {ty : FieldType} (h : xkd ty ≤ 3) : defaultValue ty = xfv g ty 0 none := by cases ty <;> first | rfl | simp [xkd] at h
theorem e_stepA {pc' : Nat} {st' : List xV} {kd : Nat × Nat} {n : Nat} {R1 : xN}
    (h : ∀ (p : Program) (e : Env) (Rm : Room) (s : State) (m : MethodId) (args : Array Value) (below : List Frame) (meth : Method) (c : Code) (H : Heap) (locs : List Loc) (cells slots : Nat) (Q : State → Prop) (ls : Array Slot),
      xC g mm d p Rm s m args meth c → xRel g A R H locs → oks st → cells + 1 ≤ Rm.cells → slots + n ≤ Rm.slots →
      (∀ (H1 : Heap), xRel g (xalloc A kd n) R1 H1 locs → oks st' → W p l e Rm s m args below meth c H1 locs (cells + 1) (slots + n) Q (F0 m pc' ls (st'.map (xval g)))) →
      W p l e Rm s m args below meth c H locs cells slots Q (F0 m pc ls (st.map (xval g))))
    (k : Ex l g d mm pc' L st' (xalloc A kd n) R1 r A' R') : Ex l g d mm pc L st A R r A' R' := by
  have hm : A.2.2.1 + 1 ≤ A'.2.2.1 ∧ A.2.2.2 + n ≤ A'.2.2.2 := k.1
  refine ⟨⟨by omega, by omega⟩, fun p e Rm s m args below meth c H locs cells slots Q ls C hr hl hL ho hs h1 h2 kk => ?_⟩
  have e1 : cells + 1 + (A'.2.2.1 - (A.2.2.1 + 1)) = cells + (A'.2.2.1 - A.2.2.1) := by omega
  have e2 : slots + n + (A'.2.2.2 - (A.2.2.2 + n)) = slots + (A'.2.2.2 - A.2.2.2) := by omega
  refine h p e Rm s m args below meth c H locs cells slots Q ls C hr hs (by omega) (by omega) fun H1 hr1 hs' => ?_
  refine k.2 p e Rm s m args below meth c H1 locs (cells + 1) (slots + n) Q ls C hr1 hl hL ho hs' ?_ ?_ ?_
  · show cells + 1 + (A'.2.2.1 - (A.2.2.1 + 1)) ≤ _
    rw [e1]; exact h1
  · show slots + n + (A'.2.2.2 - (A.2.2.2 + n)) ≤ _
    rw [e2]; exact h2
  · intro H' locs' pc' ls' vs' q1 q2
    show W p l e Rm s m args below meth c H' locs' (cells + 1 + (A'.2.2.1 - (A.2.2.1 + 1))) (slots + n + (A'.2.2.2 - (A.2.2.2 + n))) Q _
    rw [e1, e2]
    exact kk H' locs' pc' ls' vs' q1 q2
theorem e_new {idx ci : Nat} (hd : decode mm.2.1 pc = .ok (.new idx, 3)) (hci : ci < 10) (hdf : ∀ k, k < (xct ci).2.2 → xkd (xty ci k) ≤ 3) (h1 : Cond.classLink mm.1.cls idx (xct ci).1 ∈ wG) (h2 : Cond.instantiable (xct ci).1 (xct ci).2.2 ∈ wG) (h3 : Cond.initialized (xct ci).1 ∈ wG)
    (k : Ex l g d mm (pc + 3) L (xR A.2.2.1 :: st) (xalloc A (0, ci) (xct ci).2.2) (xzero R A.2.2.1) r A' R') : Ex l g d mm pc L st A R r A' R' :=
  e_stepA (fun p e Rm s m args below meth c H locs cells slots Q ls C hr hs hc1 hc2 kk => by
    obtain ⟨hx, hb, hml, hown, hts, hname, hfr, hlo, hKK⟩ := C
    refine W.newc hx hb hown (hts _ h1) (hts _ h2) (hts _ h3) rfl hd hc1 hc2 fun cC kC f1 f2 f3 f4 => ?_
    have hfac := xfac ci hci
    have hKn := hKK.1.1 ci _ hfac.1
    have hcC : cC = g.1.1 ci := Option.some.inj (f1.symm.trans hKn.2.1)
    subst hcC
    have hB := u_born (o := H.size) (H := H.push ({ cls := g.1.1 ci, slots := kC.instanceTypes.map defaultValue, vm := .none } : Cell)) (xty ci) hts hfac.2.1 hKn f2 (by rw [Array.getElem?_push_size]; rfl) hfac.2.2.1
    have := kk _ (xRel_push (R1 := xzero R A.2.2.1) (fun k => by rw [xzero_at]; exact i4_0) (fun q hq => by simp [xzero, hq]) (cell := { cls := g.1.1 ci, slots := kC.instanceTypes.map defaultValue, vm := .none }) hr (by
      rw [xcl0 xalloc_k, xalloc_r, xzero_at, ← hr.2.1]
      refine ⟨xct ci, hfac.1, hB.to fun j hj => ?_⟩
      unfold vp_V
      rw [List.getD_eq_getElem?_getD, List.getElem?_map, List.getElem?_range hj]
      exact xdef (hdf j hj)) (fun _ => hci)) (oks_cons (v := xR A.2.2.1) trivial hs)
    rw [hr.2.1]
    exact this) k
theorem e_newa {n : Int} (hd : decode mm.2.1 pc = .ok (.newarray .int, 2)) (h1 : Cond.arrayClass .int ∈ wG) (h0 : 0 ≤ n) (hn : n ≤ 100000)
    (k : Ex l g d mm (pc + 2) L (xR A.2.2.1 :: st) (xalloc A (1, n.toNat) n.toNat) (xzero R A.2.2.1) r A' R') : Ex l g d mm pc L (xI n :: st) A R r A' R' :=
  e_stepA (fun p e Rm s m args below meth c H locs cells slots Q ls C hr hs hc1 hc2 kk => by
    obtain ⟨hx, hb, hml, hown, hts, hname, hfr, hlo, hKK⟩ := C
    have hcl : (Int32.ofInt n).toNatClampNeg = n.toNat := by
      show ((Int32.ofInt n).toInt).toNat = n.toNat
      rw [o4_in (oks_hd hs)]
    refine W.newa hx hb (atype := .int) (hts _ h1) rfl hd (n := Int32.ofInt n) rfl (fun h => absurd ((o4_lt (oks_hd hs) i4_0).mp h) (by omega)) (by rw [hcl]; show n.toNat * 4 ≤ _; omega) hc1 (by rw [hcl]; exact hc2) fun cA kA comp f1 f2 f3 => ?_
    have hRA := (hKK.1.2 0 _ rfl).2
    have hcA : cA = g.2.1.1 := Option.some.inj (f1.symm.trans hRA)
    subst hcA
    rw [hcl, arrV_new]
    have := kk _ (xRel_push (R1 := xzero R A.2.2.1) (fun k => by rw [xzero_at]; exact i4_0) (fun q hq => by simp [xzero, hq]) (cell := arrV g.2.1.1 n.toNat (fun _ => defaultValue (newarray.typeOf .int))) hr (by
      rw [xcl1 xalloc_k, xzero_at, ← hr.2.1]
      show (H.push _)[H.size]? = some (vp_cell _ _)
      rw [Array.getElem?_push_size, vp_cell_i]
      rfl) (fun h => by cases h)) (oks_cons (v := xR A.2.2.1) trivial (oks_tl hs))
    rw [hr.2.1]
    exact this) k
theorem e_anew2 {n : Int} {idx : Nat} (hd : decode mm.2.1 pc = .ok (.anewarray idx, 3)) (h1 : Cond.classLink mm.1.cls idx RX0 ∈ wG) (h0 : 0 ≤ n) (hn : n ≤ 100000)
    (k : Ex l g d mm (pc + 3) L (xR A.2.2.1 :: st) (xalloc A (2, n.toNat) n.toNat) (xzero R A.2.2.1) r A' R') : Ex l g d mm pc L (xI n :: st) A R r A' R' :=
  e_stepA (fun p e Rm s m args below meth c H locs cells slots Q ls C hr hs hc1 hc2 kk => by
    obtain ⟨hx, hb, hml, hown, hts, hname, hfr, hlo, hKK⟩ := C
    have hcl : (Int32.ofInt n).toNatClampNeg = n.toNat := by
      show ((Int32.ofInt n).toInt).toNat = n.toNat
      rw [o4_in (oks_hd hs)]
    refine W.anew hx hb hown (hts _ h1) (va_AO.use hKK.2.2.1) rfl hd (n := Int32.ofInt n) rfl (fun h => absurd ((o4_lt (oks_hd hs) i4_0).mp h) (by omega)) (by rw [hcl]; omega) hc1 (by rw [hcl]; exact hc2) fun cA kA comp f1 f2 f3 f4 => ?_
    obtain ⟨kA', comp', g1, g2, g3, g4⟩ := (hKK.1.2 1 _ rfl).2
    have hcA : cA = g.2.1.2.1 := Option.some.inj (f1.symm.trans g4)
    subst hcA
    rw [hcl, arrV_new]
    have := kk _ (xRel_push (R1 := xzero R A.2.2.1) (fun k => by rw [xzero_at]; exact i4_0) (fun q hq => by simp [xzero, hq]) (cell := arrV g.2.1.2.1 n.toNat (fun _ => Value.null)) hr (by
      rw [xcl2 xalloc_k, xalloc_r, ← hr.2.1]
      show (H.push _)[H.size]? = some (vp_cell _ _)
      rw [Array.getElem?_push_size, vp_cell_q]
      rfl) (fun h => by cases h)) (oks_cons (v := xR A.2.2.1) trivial (oks_tl hs))
    rw [hr.2.1]
    exact this) k
theorem e_anew3 {n : Int} {idx : Nat} (hd : decode mm.2.1 pc = .ok (.anewarray idx, 3)) (h1 : Cond.classLink mm.1.cls idx RX8 ∈ wG) (h0 : 0 ≤ n) (hn : n ≤ 100000)
    (k : Ex l g d mm (pc + 3) L (xR A.2.2.1 :: st) (xalloc A (3, n.toNat) n.toNat) (xmone R A.2.2.1) r A' R') : Ex l g d mm pc L (xI n :: st) A R r A' R' :=
  e_stepA (fun p e Rm s m args below meth c H locs cells slots Q ls C hr hs hc1 hc2 kk => by
    obtain ⟨hx, hb, hml, hown, hts, hname, hfr, hlo, hKK⟩ := C
    have hcl : (Int32.ofInt n).toNatClampNeg = n.toNat := by
      show ((Int32.ofInt n).toInt).toNat = n.toNat
      rw [o4_in (oks_hd hs)]
    refine W.anew hx hb hown (hts _ h1) (va_AO.use hKK.2.2.2.1) rfl hd (n := Int32.ofInt n) rfl (fun h => absurd ((o4_lt (oks_hd hs) i4_0).mp h) (by omega)) (by rw [hcl]; omega) hc1 (by rw [hcl]; exact hc2) fun cA kA comp f1 f2 f3 f4 => ?_
    obtain ⟨kA', comp', g1, g2, g3, g4⟩ := (hKK.1.2 2 _ rfl).2
    have hcA : cA = g.2.1.2.2 := Option.some.inj (f1.symm.trans g4)
    subst hcA
    rw [hcl, arrV_new]
    have := kk _ (xRel_push (R1 := xmone R A.2.2.1) (fun k => by rw [xmone_at]; show i4 (-1); unfold i4; omega) (fun q hq => by simp [xmone, hq]) (cell := arrV g.2.1.2.2 n.toNat (fun _ => Value.null)) hr (by
      rw [xcl3 xalloc_k, xmone_at, ← hr.2.1]
      show (H.push _)[H.size]? = some (vp_cell _ _)
      rw [Array.getElem?_push_size, vp_cell_q]
      rfl) (fun h => by cases h)) (oks_cons (v := xR A.2.2.1) trivial (oks_tl hs))
    rw [hr.2.1]
    exact this) k
end XN1
