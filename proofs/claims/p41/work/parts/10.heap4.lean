def xsz (st : List xV) : Nat := (st.map fun v => if xlg v = true then 2 else 1).sum
theorem xsz_eq (g : xG) : ∀ st : List xV, ((st.map (xval g)).map fun v => v.category).sum = xsz st := by
  intro st
  induction st with
  | nil => rfl
  | cons v st ih =>
    unfold xsz at ih ⊢
    simp only [List.map_cons, List.sum_cons]
    rw [ih]
    congr 1
    match v with
    | .inl _ => rfl
    | .inr (.inl _) => rfl
    | .inr (.inr (.inl _)) => rfl
    | .inr (.inr (.inr (.inl _))) => exact va_rf_cat _
    | .inr (.inr (.inr (.inr _))) => rfl
section XN2
variable {l : Launch} {g : xG} {d : Nat} {mm : xM} {pc : Nat} {L st : List xV} {A : xA} {R : xN} {r : Option xV} {A' : xA} {R' : xN}
/-- a reference is put into an array of references -/
theorem e_aast2 {a b n : Nat} {i : Int} (hd : decode mm.2.1 pc = .ok (.aastore, 1)) (hk : A.1 a = (2, n)) (hkb : A.1 b = (0, 0)) (h0 : 0 ≤ i) (hn : i < (n : Int)) (kk : Ex l g d mm (pc + 1) L st (xrf A a i.toNat b) R r A' R') : Ex l g d mm pc L (xR b :: xI i :: xR a :: st) A R r A' R' := by
  refine e_stepM (A1 := xrf A a i.toNat b) rfl (fun p e Rm s m args below meth c H locs cells slots Q ls C hr hl hL ho hs kk => ?_) rfl kk
  have hi := i4_nat (oks_hd (oks_tl hs)) h0 hn
  have hK := C.2.2.2.2.2.2.2.2.1
  have hfac := xfac 0 (by decide)
  have hvb := hr.1 b _ (xren_at (xlt hr hkb (by decide)))
  rw [xcl0 hkb] at hvb
  obtain ⟨r', hr', cellV, g1, g2, g3, -⟩ := hvb
  have hcls := (hK.1 0 _ hfac.1).2
  obtain ⟨kC, hkC, -⟩ := hcls.2
  have hat := hr.1 a _ (xren_at (xlt hr hk (by decide)))
  rw [xcl2 hk] at hat
  obtain ⟨kA, comp, k1, k2, k3, -⟩ := (hK.2 1 _ rfl).2
  have hcomp : comp = g.1.1 0 := Option.some.inj (k3.symm.trans hcls.1)
  subst hcomp
  refine W.aast C.1 C.2.1 (v := xB g + b) (j := Int32.ofInt i) hat (fun q h => by cases h) (fun h => by cases h) k1 k2 rfl hkC ⟨fun q => hi.1 (Or.inl q), ?_⟩ g1 (fun q h => by rw [g3] at h; cases h) (by rw [g2]; exact hkC) (by rw [g2]; exact va_assign hcls) rfl rfl hd fun H1 e z oq => ?_
  · show _ < (arrV _ _ _).slots.size
    rw [arrV_size]
    exact Nat.not_le.mp fun q => hi.1 (Or.inr q)
  · refine kk H1 _ (xRel_set (A1 := xrf A a i.toNat b) hr rfl ?_ z oq (fun q hq => xcl_ne (A1 := xrf A a i.toNat b) rfl (xrf_ne hq) rfl) hr.2.2.1 (fun q hq => by rw [List.mem_singleton.mp hq])) (oks_tl (oks_tl (oks_tl hs))) rfl
    rw [xcl2 (A := xrf A a i.toNat b) hk]
    show H1[xB g + a]? = some (vp_cell _ _)
    rw [e, vp_cell_q, vp_cell_q, arrV_store, hi.2]
    congr 2
    funext q
    by_cases hq : q = i.toNat
    · subst hq; simp [updV, xrf, va_rf]
    · simp [updV, xrf, hq]
theorem e_aast3 {a b n : Nat} {i : Int} (hd : decode mm.2.1 pc = .ok (.aastore, 1)) (hk : A.1 a = (3, n)) (hkb : A.1 b = (0, 8)) (h0 : 0 ≤ i) (hn : i < (n : Int)) (hbn : (b : Int) ≤ 2147483647) (kk : Ex l g d mm (pc + 1) L st A (xup R a i.toNat (b : Int)) r A' R') : Ex l g d mm pc L (xR b :: xI i :: xR a :: st) A R r A' R' := by
  refine e_stepM rfl (fun p e Rm s m args below meth c H locs cells slots Q ls C hr hl hL ho hs kk => ?_) rfl kk
  have hi := i4_nat (oks_hd (oks_tl hs)) h0 hn
  have hK := C.2.2.2.2.2.2.2.2.1
  have hfac := xfac 8 (by decide)
  have hvb := hr.1 b _ (xren_at (xlt hr hkb (by decide)))
  rw [xcl0 hkb] at hvb
  obtain ⟨r', hr', cellV, g1, g2, g3, -⟩ := hvb
  have hcls := (hK.1 8 _ hfac.1).2
  obtain ⟨kC, hkC, -⟩ := hcls.2
  have hat := hr.1 a _ (xren_at (xlt hr hk (by decide)))
  rw [xcl3 hk] at hat
  obtain ⟨kA, comp, k1, k2, k3, -⟩ := (hK.2 2 _ rfl).2
  have hcomp : comp = g.1.1 8 := Option.some.inj (k3.symm.trans hcls.1)
  subst hcomp
  refine W.aast C.1 C.2.1 (v := xB g + b) (j := Int32.ofInt i) hat (fun q h => by cases h) (fun h => by cases h) k1 k2 rfl hkC ⟨fun q => hi.1 (Or.inl q), ?_⟩ g1 (fun q h => by rw [g3] at h; cases h) (by rw [g2]; exact hkC) (by rw [g2]; exact va_assign hcls) rfl rfl hd fun H1 e z oq => ?_
  · show _ < (arrV _ _ _).slots.size
    rw [arrV_size]
    exact Nat.not_le.mp fun q => hi.1 (Or.inr q)
  · refine kk H1 _ (xRel_set hr rfl ?_ z oq (fun q hq => xcl_ne rfl rfl (xup_ne hq)) (xok_up hr.2.2.1 (by
      rw [hk]
      show i4 _
      unfold i4; omega)) (fun q hq => by rw [List.mem_singleton.mp hq])) (oks_tl (oks_tl (oks_tl hs))) rfl
    rw [xcl3 hk]
    show H1[xB g + a]? = some (vp_cell _ _)
    rw [e, vp_cell_q, vp_cell_q, arrV_store, hi.2]
    congr 2
    funext q
    by_cases hq : q = i.toNat
    · subst hq; simp [updV, xup, va_rf]; rw [if_neg (by omega)]
    · simp [updV, xup, hq]
def xcpy (R : xN) (a0 a : Nat) (sp dp n : Nat) : xN := fun q => if q = a then va_cpy (R a0) (R a) sp dp n else R q
theorem i4_nn {i : Int} (h : i4 i) (h0 : 0 ≤ i) : ¬ Int32.ofInt i < 0 ∧ (Int32.ofInt i).toNatClampNeg = i.toNat ∧ (Int32.ofInt i).toInt = (i.toNat : Int) := by
  refine ⟨fun q => absurd ((o4_lt h i4_0).mp q) (by omega), ?_, ?_⟩
  · show ((Int32.ofInt i).toInt).toNat = i.toNat
    rw [o4_in h]
  · rw [o4_in h]; omega
theorem e_copy {a0 a n0 n1 idx : Nat} {sp dp n : Int} (hd : decode mm.2.1 pc = .ok (.invokestatic idx, 3)) (w1 : Cond.methodLink mm.1.cls idx arraycopyName ∈ wG) (w2 : Cond.native arraycopyName ∈ wG) (w3 : Cond.static arraycopyName ∈ wG) (w4 : Cond.initialized "java/lang/System" ∈ wG)
    (hk0 : A.1 a0 = (1, n0)) (hk1 : A.1 a = (1, n1)) (h1 : 0 ≤ sp) (h2 : 0 ≤ dp) (h3 : 0 ≤ n) (h4 : sp.toNat + n.toNat ≤ n0) (h5 : dp.toNat + n.toNat ≤ n1) (hst : Nat.ble (xsz st) 8 = true)
    (kk : Ex l g (d + 1) mm (pc + 3) L st A (xcpy R a0 a sp.toNat dp.toNat n.toNat) r A' R') : Ex l g (d + 1) mm pc L (xI n :: xI dp :: xR a :: xI sp :: xR a0 :: st) A R r A' R' := by
  refine e_stepM rfl (fun p e Rm s m args below meth c H locs cells slots Q ls C hr hl hL ho hs kk => ?_) rfl kk
  have hn := i4_nn (oks_hd hs) h3
  have hdp := i4_nn (oks_hd (oks_tl hs)) h2
  have hsp := i4_nn (oks_hd (oks_tl (oks_tl (oks_tl hs)))) h1
  obtain ⟨hx, hb, hml, hown, hts, hname, hfr, hlo, hKK⟩ := C
  have hst' := Nat.le_of_ble_eq_true hst
  intro T hT X
  have hc0 := hr.1 a0 _ (xren_at (xlt hr hk0 (by decide)))
  have hc1 := hr.1 a _ (xren_at (xlt hr hk1 (by decide)))
  rw [xcl1 hk0] at hc0
  rw [xcl1 hk1] at hc1
  have hc0 : H[xB g + a0]? = some (vp_cell g.2.1.1 (n0, .inl fun j => Int32.ofInt (R a0 j))) := hc0
  have hc1 : H[xB g + a]? = some (vp_cell g.2.1.1 (n1, .inl fun j => Int32.ofInt (R a j))) := hc1
  obtain ⟨-, k0, hkk0, cm0, hkind0⟩ := (hKK.1.2 0 _ rfl).1 n0 (fun j => .int (Int32.ofInt (R a0 j)))
  obtain ⟨vm', X', step⟩ := X.arraycopy hx hown (hts _ w1) (hts _ w2) (hts _ w3) (hts _ w4) (src := xB g + a0) (dst := xB g + a) (cs := vp_cell g.2.1.1 (n0, .inl fun j => Int32.ofInt (R a0 j))) (cd := vp_cell g.2.1.1 (n1, .inl fun j => Int32.ofInt (R a j))) (srcPos := Int32.ofInt sp) (destPos := Int32.ofInt dp) (n := Int32.ofInt n) (by rw [hT]; exact hc0) (by rw [hT]; exact hc1)
    (fun _ h => by cases h) (fun _ h => by cases h) (fun h => by cases h) (fun h => by cases h) hkk0 hkk0 hkind0 hkind0 (by simp [refKind]) hsp.1 hdp.1 hn.1
    (by rw [hsp.2.2, hn.2.2]; show ¬ _ > ((arrV _ n0 _).slots.size : Int); rw [arrV_size]; omega)
    (by rw [hdp.2.2, hn.2.2]; show ¬ _ > ((arrV _ n1 _).slots.size : Int); rw [arrV_size]; omega)
    (fun vm₁ _ i hi => by
      have hi' : i < n.toNat := by rw [← hn.2.1]; exact hi
      have e0 : (vp_cell g.2.1.1 (n0, .inl fun j => Int32.ofInt (R a0 j))).slots.getD ((Int32.ofInt sp).toNatClampNeg + i) .null = .int (Int32.ofInt (R a0 (sp.toNat + i))) := by
        show (arrV _ n0 _).slots.getD _ _ = _
        rw [hsp.2.1, Array.getD_eq_getD_getElem?, arrV_read _ _ (by omega)]
        rfl
      refine ⟨?_, ?_⟩
      · rw [e0]; rfl
      · rw [e0]; exact trivial)
    (g := F0 m pc ls ((xI n :: xI dp :: xR a :: xI sp :: xR a0 :: st).map (xval g))) rfl (by rw [hml]; exact hl.1) (rest := st.map (xval g)) rfl (by rw [hb]; exact hd) (by omega) (by
      show 2 * 0 + ((st.map (xval g)).map fun v => v.category).sum + (7 + 11) ≤ _
      rw [xsz_eq]; omega)
  have h4' : (Int32.ofInt sp).toNatClampNeg + (Int32.ofInt n).toNatClampNeg ≤ n0 := by rw [hsp.2.1, hn.2.1]; exact h4
  have e1 : copied (vp_cell g.2.1.1 (n0, .inl fun j => Int32.ofInt (R a0 j))) (vp_cell g.2.1.1 (n1, .inl fun j => Int32.ofInt (R a j))) (Int32.ofInt sp) (Int32.ofInt dp) (Int32.ofInt n) = vp_cell g.2.1.1 (n1, .inl (va_cpy (fun j => Int32.ofInt (R a0 j)) (fun j => Int32.ofInt (R a j)) (Int32.ofInt sp).toNatClampNeg (Int32.ofInt dp).toNatClampNeg (Int32.ofInt n).toNatClampNeg)) := va_copied (fun z => .int z) g.2.1.1 g.2.1.1 (n0 := n0) (n1 := n1) (fun j => Int32.ofInt (R a0 j)) (fun j => Int32.ofInt (R a j)) h4'
  rw [e1] at X' step
  have hl1 : xB g + a < H.size := (Array.getElem?_eq_some_iff.mp hc1).1
  generalize hH1 : H.setIfInBounds (xB g + a) (vp_cell g.2.1.1 (n1, .inl (va_cpy (fun j => Int32.ofInt (R a0 j)) (fun j => Int32.ofInt (R a j)) (Int32.ofInt sp).toNatClampNeg (Int32.ofInt dp).toNatClampNeg (Int32.ofInt n).toNatClampNeg))) = H1
  have hheap : ((T.setVm vm').setCell (xB g + a) (vp_cell g.2.1.1 (n1, .inl (va_cpy (fun j => Int32.ofInt (R a0 j)) (fun j => Int32.ofInt (R a j)) (Int32.ofInt sp).toNatClampNeg (Int32.ofInt dp).toNatClampNeg (Int32.ofInt n).toNatClampNeg)))).heap = H1 := by rw [← hH1, ← hT]; rfl
  have oq : ∀ q : Nat, q ≠ xB g + a → H1[q]? = H[q]? := fun q hq => by rw [← hH1]; simp [Array.getElem?_setIfInBounds, Ne.symm hq]
  have hrel : ∀ Lc : List Loc, (∀ q ∈ Lc, q.base = xB g + a) → xRel g A (xcpy R a0 a sp.toNat dp.toNat n.toNat) H1 (locs ++ Lc) := fun Lc hLc => xRel_set hr rfl (by
      rw [xcl1 hk1]
      show H1[xB g + a]? = some (vp_cell _ _)
      rw [← hH1, Array.getElem?_setIfInBounds, if_pos rfl, if_pos hl1, hsp.2.1, hdp.2.1, hn.2.1]
      congr 3
      congr 1
      funext j
      unfold xcpy va_cpy
      simp only [if_true]
      split <;> rfl) (by rw [← hH1]; simp) oq (fun q hq => xcl_ne rfl rfl (by unfold xcpy; rw [if_neg hq])) (by
      refine ⟨fun q k => ?_, hr.2.2.1.2⟩
      unfold xcpy
      by_cases hq : q = a
      · subst hq
        rw [if_pos rfl, hk1]
        show i4 _
        unfold va_cpy
        split
        · exact xrngA hr hk0
        · exact xrngA hr hk1
      · rw [if_neg hq]; exact hr.2.2.1.1 q k) hLc
  obtain ⟨t, a1, b1⟩ := kk H1 (locs ++ ((vp_cell g.2.1.1 (n0, .inl fun j => Int32.ofInt (R a0 j))).stretch (Int32.ofInt sp).toNatClampNeg (Int32.ofInt n).toNatClampNeg).zipIdx.map fun q => ⟨xB g + a, (Int32.ofInt dp).toNatClampNeg + q.2⟩) (hrel _ (fun q hq => by
      obtain ⟨z, -, hz⟩ := List.mem_map.mp hq
      subst hz
      rfl)) (oks_tl (oks_tl (oks_tl (oks_tl (oks_tl hs))))) rfl _ hheap X'
  exact ⟨t, step t a1, b1⟩
theorem e_max {a b : Int} {idx : Nat} (hd : decode mm.2.1 pc = .ok (.invokestatic idx, 3)) (w1 : Cond.methodLink mm.1.cls idx Lib.Math.max.name ∈ wG) (w2 : Cond.static Lib.Math.max.name ∈ wG) (w3 : Cond.initialized "java/lang/Math" ∈ wG) (w4 : Cond.code Lib.Math.max.name Lib.Math.max.code 2 (some .int) ∈ wG) (hst : Nat.ble (xsz st) 8 = true)
    (kk : Ex l g (d + 1) mm (pc + 3) L (xI (if a < b then b else a) :: st) A R r A' R') : Ex l g (d + 1) mm pc L (xI b :: xI a :: st) A R r A' R' := by
  have hm := kk.1
  refine ⟨hm, fun p e Rm s m args below meth c H locs cells slots Q ls C hr hl hL ho hs h1 h2 k2 => ?_⟩
  have hs2 : oks (xI (if a < b then b else a) :: st) := oks_cons (show i4 _ by split <;> first | exact oks_hd hs | exact oks_hd (oks_tl hs)) (oks_tl (oks_tl hs))
  obtain ⟨hx, hb, hml, hown, hts, hname, hfr, hlo, hKK⟩ := id C
  refine va_mmax hx hb (hml.trans hl.1.symm) hown (hts _ w1) (hts _ w2) (hts _ w3) (hts _ w4) (by omega) (by
    rw [xsz_eq]; have := Nat.le_of_ble_eq_true hst; omega) (by omega) (by omega) hd ?_
  have := kk.2 p e Rm s m args below meth c H locs cells slots Q ls C hr hl hL ho hs2 h1 h2 k2
  have e0 : (if Int32.ofInt a < Int32.ofInt b then Int32.ofInt b else Int32.ofInt a) = Int32.ofInt (if a < b then b else a) := by
    by_cases h : a < b
    · rw [if_pos h, if_pos ((o4_lt (oks_hd (oks_tl hs)) (oks_hd hs)).mpr h)]
    · rw [if_neg h, if_neg (fun q => h ((o4_lt (oks_hd (oks_tl hs)) (oks_hd hs)).mp q))]
  rw [e0]
  exact this
theorem e_min {a b : Int} {idx : Nat} (hd : decode mm.2.1 pc = .ok (.invokestatic idx, 3)) (w1 : Cond.methodLink mm.1.cls idx Lib.Math.min.name ∈ wG) (w2 : Cond.static Lib.Math.min.name ∈ wG) (w3 : Cond.initialized "java/lang/Math" ∈ wG) (w4 : Cond.code Lib.Math.min.name Lib.Math.min.code 2 (some .int) ∈ wG) (hst : Nat.ble (xsz st) 8 = true)
    (kk : Ex l g (d + 1) mm (pc + 3) L (xI (if b < a then b else a) :: st) A R r A' R') : Ex l g (d + 1) mm pc L (xI b :: xI a :: st) A R r A' R' := by
  have hm := kk.1
  refine ⟨hm, fun p e Rm s m args below meth c H locs cells slots Q ls C hr hl hL ho hs h1 h2 k2 => ?_⟩
  have hs2 : oks (xI (if b < a then b else a) :: st) := oks_cons (show i4 _ by split <;> first | exact oks_hd hs | exact oks_hd (oks_tl hs)) (oks_tl (oks_tl hs))
  obtain ⟨hx, hb, hml, hown, hts, hname, hfr, hlo, hKK⟩ := id C
  refine va_mmin hx hb (hml.trans hl.1.symm) hown (hts _ w1) (hts _ w2) (hts _ w3) (hts _ w4) (by omega) (by
    rw [xsz_eq]; have := Nat.le_of_ble_eq_true hst; omega) (by omega) (by omega) hd ?_
  have := kk.2 p e Rm s m args below meth c H locs cells slots Q ls C hr hl hL ho hs2 h1 h2 k2
  have e0 : (if Int32.ofInt b < Int32.ofInt a then Int32.ofInt b else Int32.ofInt a) = Int32.ofInt (if b < a then b else a) := by
    by_cases h : b < a
    · rw [if_pos h, if_pos ((o4_lt (oks_hd hs) (oks_hd (oks_tl hs))).mpr h)]
    · rw [if_neg h, if_neg (fun q => h ((o4_lt (oks_hd hs) (oks_hd (oks_tl hs))).mp q))]
  rw [e0]
  exact this
theorem e_obj {a idx : Nat} (hd : decode mm.2.1 pc = .ok (.invokespecial idx, 3)) (w1 : Cond.methodLink mm.1.cls idx Lib.objectInit ∈ wG) (w2 : Cond.instanceMethod Lib.objectInit ∈ wG) (w3 : Cond.code Lib.objectInit ⟨#[0xb1]⟩ 1 none ∈ wG) (hst : Nat.ble (xsz st) 8 = true) (kk : Ex l g (d + 1) mm (pc + 3) L st A R r A' R') : Ex l g (d + 1) mm pc L (xR a :: st) A R r A' R' :=
  e_step (fun p e Rm s m args below meth c H locs cells slots Q ls C hr hl hL ho hs kk =>
    W.objInit C.1 C.2.1 C.2.2.2.1 (C.2.2.2.2.1 _ w1) (C.2.2.2.2.1 _ w2) (C.2.2.2.2.1 _ w3) rfl (hl.1.trans C.2.2.1.symm) (rest := st.map (xval g)) rfl hd (by have := C.2.2.2.2.2.2.1; omega) (by
      have h8 := C.2.2.2.2.2.2.2.1
      have := Nat.le_of_ble_eq_true hst
      show 2 * 0 + ((st.map (xval g)).map fun v => v.category).sum + 12 ≤ _
      rw [xsz_eq]; omega) (kk ls hl hL ho (oks_tl hs))) kk
end XN2
