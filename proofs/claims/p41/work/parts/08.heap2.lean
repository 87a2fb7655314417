section XW
variable {l : Launch} {g : xG} {d : Nat} {mm : xM} {pc : Nat} {L st : List xV} {A : xA} {R : xN} {r : Option xV} {A' : xA} {R' : xN}
theorem xok_up {a k : Nat} {v : Int} (h : xok A R) (hv : if xwd (A.1 a) k = true then i8 v else i4 v) : xok A (xup R a k v) := by
  refine ⟨fun q j => ?_, h.2⟩
  unfold xup
  by_cases hq : q = a
  · subst hq
    simp only [if_true]
    by_cases hj : j = k
    · subst hj; simp only [if_true]; exact hv
    · simp only [if_neg hj]; exact h.1 q j
  · simp only [if_neg hq]; exact h.1 q j
/-- what a write of a field leaves, in the kit's words -/
theorem xput_at {s : State} {args : Array Value} {own : String} {H H1 : Heap} {locs : List Loc} {a ci k : Nat} {cell : Cell} {A1 : xA} {R1 : xN} {v : Value} (hts : ∀ w ∈ wG, w.before args s = true) (hK : va_K g.1 vwCl (xtys g) s) (hr : xRel g A R H locs) (hk : A.1 a = (0, ci)) (hkN : k < (xct ci).2.2)
    (q2 : cell.cls = g.1.1 ci) (q3 : cell.vm = .none) (q4 : ∀ j, j < (xct ci).2.2 → cell.slots[g.1.2 ci j]? = some (vp_V ((List.range (xct ci).2.2).map fun k => xfv g (xty ci k) (R a k) (A.2.1 a k)) j)) (e1 : H1[xB g + a]? = some (cell.setSlot (g.1.2 ci k) v))
    (hk1 : A1.1 a = (0, ci)) (hv : xfv g (xty ci k) (R1 a k) (A1.2.1 a k) = v) (hne : ∀ j, j ≠ k → R1 a j = R a j ∧ A1.2.1 a j = A.2.1 a j) : va_at g.1 vwCl (xB g + a, xcl g A1 R1 a) H1 := by
  have hci := xci hr hk
  have hap := va_apart (own := own) hts (xfac ci hci).2.1 (xty ci) (xfac ci hci).2.2.1 (xfac ci hci).2.2.2 hK (xfac ci hci).1
  rw [xcl0 hk1]
  refine ⟨xct ci, (xfac ci hci).1, t_OB.to (V := updV (vp_V ((List.range (xct ci).2.2).map fun k => xfv g (xty ci k) (R a k) (A.2.1 a k))) k v) ⟨_, e1, q2, q3, t_set q4 hap hkN v⟩ (fun j hj => ?_)⟩
  unfold updV vp_V
  rw [List.getD_eq_getElem?_getD, List.getD_eq_getElem?_getD, xfld hj, xfld hj]
  by_cases hjk : j = k
  · subst hjk; simp [hv]
  · simp [hjk, (hne j hjk).1, (hne j hjk).2]
theorem narrow_i (x : Int32) : narrow .int (.int x) = .int x := rfl
theorem e_put {v : xV} {A1 : xA} {R1 : xN} {a idx ci k : Nat} (hd : decode mm.2.1 pc = .ok (.putfield idx, 3)) (hf : xGF mm.1.cls idx ci k) (hk : A.1 a = (0, ci)) (hfin : ((xct ci).2.1 k).2.2.2 = false ∨ (mm.1.name = "<init>" ∧ ((xct ci).2.1 k).1 = mm.1.cls))
    (hn : okv v → narrow (xty ci k) (xval g v) = xval g v) (hfit : okv v → fits (xty ci k) (xval g v) = true) (hA1 : A1.1 = A.1) (hA2 : A1.2.2 = A.2.2) (hv : xfv g (xty ci k) (R1 a k) (A1.2.1 a k) = xval g v) (hne : ∀ j, j ≠ k → R1 a j = R a j ∧ A1.2.1 a j = A.2.1 a j) (hq : ∀ q, q ≠ a → R1 q = R q ∧ A1.2.1 q = A.2.1 q) (hok : okv v → xok A R → xok A1 R1)
    (kk : Ex l g d mm (pc + 3) L st A1 R1 r A' R') : Ex l g d mm pc L (v :: xR a :: st) A R r A' R' := by
  refine e_stepM hA2 (fun p e Rm s m args below meth c H locs cells slots Q ls C hr hl hL ho hs kk => ?_) rfl kk
  obtain ⟨hx, hb, hml, hown, hts, hname, hfr, hlo, hKK⟩ := C
  have hci := xci hr hk
  have hfac := xfac ci hci
  have hin : ∀ w ∈ u_ws (xct ci).1 (xct ci).2.1 (xct ci).2.2, w ∈ wG := hfac.2.1
  have hK := hKK.1
  have hat := hr.1 a _ (xren_at (xlt hr hk (by decide)))
  rw [xcl0 hk] at hat
  obtain ⟨r', h1, cell, q1, q2, q3, q4⟩ := hat
  have hr' : r' = xct ci := Option.some.inj (h1.symm.trans hfac.1)
  subst hr'
  obtain ⟨hS, hfc, kC, hkC, hkind⟩ := hK.1 ci _ hfac.1
  obtain ⟨cf, kf, fi, f, hi, hsl⟩ := hS k hf.1
  have hlay := hts _ (hin _ (u_in_lay hf.1))
  have hst := (u_facts hfc hkC (u_lays hts hin hf.1) hi).1
  have hokv := oks_hd hs
  have fin : ∀ H1 : Heap, H1[xB g + a]? = some (cell.setSlot f.slot (xval g v)) → H1.size = H.size → (∀ q, q ≠ xB g + a → H1[q]? = H[q]?) → W p l e Rm s m args below meth c H1 (locs ++ [⟨xB g + a, f.slot⟩]) cells slots Q (F0 m (pc + 3) ls (st.map (xval g))) := fun H1 e1 e2 e3 => by
    rw [hsl] at e1
    exact kk H1 _ (xRel_set hr hA2 (xput_at (own := mm.1.cls) hts hK hr hk hf.1 q2 q3 q4 e1 (by rw [hA1]; exact hk) hv hne) e2 e3 (fun q hqa => xcl_ne (by rw [hA1]) (hq q hqa).2 (hq q hqa).1) (hok hokv hr.2.2.1) (fun q hq => by rw [List.mem_singleton.mp hq])) (oks_tl (oks_tl hs)) rfl
  by_cases hfinal : ((xct ci).2.1 k).2.2.2 = false
  · unfold u_lay at hlay
    rw [if_neg (by rw [hfinal]; decide)] at hlay
    have h6 := u_store hfc hkC hkind hlay hi (hfac.2.2.1 k hf.1) (hn hokv) (hfit hokv)
    exact W.putK hx hb (f := f) ⟨hown, hts _ hf.2, ⟨_, _, _, hi⟩, hst⟩ (by rw [q2]; exact h6) q1 q3 (by rw [hsl]; exact k2_hasslot (q4 k hf.1)) rfl rfl hd fin
  · have hft : ((xct ci).2.1 k).2.2.2 = true := by
      cases hz : ((xct ci).2.1 k).2.2.2 with
      | true => rfl
      | false => exact absurd hz hfinal
    obtain ⟨hini, hdecl⟩ := hfin.resolve_left hfinal
    unfold u_lay at hlay
    rw [if_pos hft] at hlay
    have hcf : m.cls = cf := by
      obtain ⟨_, _, c', _, _, _, -, -, hf', -, -, -, hown2, -⟩ := Cond.laysFinal_spec hlay
      have e1 : c' = cf := by have := hi.symm.trans hf'; simp at this; exact this.1.symm
      rw [hdecl] at hown2
      rw [← e1]; exact Option.some.inj (hown.symm.trans hown2)
    have h6 := u_fits hfc hkC hkind (Or.inr hlay) hi (hfac.2.2.1 k hf.1) (hn hokv) (hfit hokv)
    exact W.putFinK hx hb hown (hts _ hf.2) hi hst hcf (hname.trans hini) (by rw [q2]; exact h6) q1 q3 (by rw [hsl]; exact k2_hasslot (q4 k hf.1)) rfl rfl hd fin
theorem xup_at {a k : Nat} {v : Int} : xup R a k v a k = v := by unfold xup; simp
theorem xup_nk {a k j : Nat} {v : Int} (h : j ≠ k) : xup R a k v a j = R a j := by unfold xup; simp [h]
theorem xkd0 {ty : FieldType} (h : xkd ty = 0) : ty = .int := by cases ty <;> first | rfl | simp [xkd] at h
theorem xkd1 {ty : FieldType} (h : xkd ty = 1) : ty = .long := by cases ty <;> first | rfl | simp [xkd] at h
theorem xkd3 {ty : FieldType} (h : xkd ty = 3) : ty = .boolean := by cases ty <;> first | rfl | simp [xkd] at h
theorem e_puti {v : Int} {a idx ci k : Nat} (hd : decode mm.2.1 pc = .ok (.putfield idx, 3)) (hf : xGF mm.1.cls idx ci k) (hk : A.1 a = (0, ci)) (hfin : ((xct ci).2.1 k).2.2.2 = false ∨ (mm.1.name = "<init>" ∧ ((xct ci).2.1 k).1 = mm.1.cls)) (ht : xkd (xty ci k) = 0) (kk : Ex l g d mm (pc + 3) L st A (xup R a k v) r A' R') : Ex l g d mm pc L (xI v :: xR a :: st) A R r A' R' := by
  have h0 := xkd0 ht
  exact e_put hd hf hk hfin (fun _ => by rw [h0]; rfl) (fun _ => by rw [h0]; rfl) rfl rfl (by rw [xfv0 (Or.inl ht), xup_at]; rfl) (fun j hj => ⟨xup_nk hj, rfl⟩) (fun q hq => ⟨xup_ne hq, rfl⟩) (fun hv h => xok_up h (by rw [hk, xwd0 (by omega)]; exact hv)) kk
theorem e_putz {v : Int} {a idx ci k : Nat} (hd : decode mm.2.1 pc = .ok (.putfield idx, 3)) (hf : xGF mm.1.cls idx ci k) (hk : A.1 a = (0, ci)) (hfin : ((xct ci).2.1 k).2.2.2 = false ∨ (mm.1.name = "<init>" ∧ ((xct ci).2.1 k).1 = mm.1.cls)) (ht : xkd (xty ci k) = 3) (h01 : v = 0 ∨ v = 1) (kk : Ex l g d mm (pc + 3) L st A (xup R a k v) r A' R') : Ex l g d mm pc L (xI v :: xR a :: st) A R r A' R' := by
  have h0 := xkd3 ht
  exact e_put hd hf hk hfin (fun _ => by rw [h0]; rcases h01 with rfl | rfl <;> rfl) (fun _ => by rw [h0]; rcases h01 with rfl | rfl <;> rfl) rfl rfl (by rw [xfv0 (Or.inr ht), xup_at]; rfl) (fun j hj => ⟨xup_nk hj, rfl⟩) (fun q hq => ⟨xup_ne hq, rfl⟩) (fun hv h => xok_up h (by rw [hk, xwd0 (by omega)]; exact hv)) kk
theorem e_putl {v : Int} {a idx ci k : Nat} (hd : decode mm.2.1 pc = .ok (.putfield idx, 3)) (hf : xGF mm.1.cls idx ci k) (hk : A.1 a = (0, ci)) (hfin : ((xct ci).2.1 k).2.2.2 = false ∨ (mm.1.name = "<init>" ∧ ((xct ci).2.1 k).1 = mm.1.cls)) (ht : xkd (xty ci k) = 1) (kk : Ex l g d mm (pc + 3) L st A (xup R a k v) r A' R') : Ex l g d mm pc L (xL v :: xR a :: st) A R r A' R' := by
  have h0 := xkd1 ht
  exact e_put hd hf hk hfin (fun _ => by rw [h0]; rfl) (fun _ => by rw [h0]; rfl) rfl rfl (by rw [xfv1 ht, xup_at]; rfl) (fun j hj => ⟨xup_nk hj, rfl⟩) (fun q hq => ⟨xup_ne hq, rfl⟩) (fun hv h => xok_up h (by rw [hk, xwd1 ht]; exact hv)) kk
theorem e_putr {a b idx ci k : Nat} (hd : decode mm.2.1 pc = .ok (.putfield idx, 3)) (hf : xGF mm.1.cls idx ci k) (hk : A.1 a = (0, ci)) (hfin : ((xct ci).2.1 k).2.2.2 = false ∨ (mm.1.name = "<init>" ∧ ((xct ci).2.1 k).1 = mm.1.cls)) (ht : xkd (xty ci k) = 2) (kk : Ex l g d mm (pc + 3) L st (xrf A a k b) R r A' R') : Ex l g d mm pc L (xR b :: xR a :: st) A R r A' R' := by
  refine e_put (A1 := xrf A a k b) hd hf hk hfin (fun _ => ?_) (fun _ => ?_) rfl rfl ?_ (fun j hj => ⟨rfl, ?_⟩) (fun q hq => ⟨rfl, xrf_ne hq⟩) (fun _ h => h) kk
  · cases h : xty ci k <;> rw [h] at ht <;> first | rfl | simp [xkd] at ht
  · cases h : xty ci k <;> rw [h] at ht <;> first | rfl | simp [xkd] at ht
  · rw [xfv2 ht]; simp [xrf, va_rf, xval]
  · simp [xrf, hj]
theorem i4_nat {i : Int} {n : Nat} (h : i4 i) (h0 : 0 ≤ i) (hn : i < (n : Int)) : vp_in (Int32.ofInt i) n ∧ (Int32.ofInt i).toNatClampNeg = i.toNat := by
  refine ⟨vp_in_iff.mpr (by rw [o4_in h]; exact ⟨h0, hn⟩), ?_⟩
  show ((Int32.ofInt i).toInt).toNat = i.toNat
  rw [o4_in h]
theorem e_iald {a n : Nat} {i : Int} (hd : decode mm.2.1 pc = .ok (.iaload, 1)) (hk : A.1 a = (1, n)) (h0 : 0 ≤ i) (hn : i < (n : Int)) (kk : Ex l g d mm (pc + 1) L (xI (R a i.toNat) :: st) A R r A' R') : Ex l g d mm pc L (xI i :: xR a :: st) A R r A' R' :=
  e_step (fun p e Rm s m args below meth c H locs cells slots Q ls C hr hl hL ho hs kk => by
    have hi := i4_nat (oks_hd hs) h0 hn
    refine va_iald (f := fun j => Int32.ofInt (R a j)) C.1 C.2.1 C.2.2.2.2.2.2.2.2.1 hr.1 a 0 (by rw [xren_at (xlt hr hk (by decide)), xcl1 hk]) rfl hi.1 hd ?_
    rw [hi.2]
    exact kk ls hl hL ho (oks_cons (v := xI (R a i.toNat)) (xrngA hr hk) (oks_tl (oks_tl hs)))) kk
theorem e_iast {a n : Nat} {i v : Int} (hd : decode mm.2.1 pc = .ok (.iastore, 1)) (hk : A.1 a = (1, n)) (h0 : 0 ≤ i) (hn : i < (n : Int)) (kk : Ex l g d mm (pc + 1) L st A (xup R a i.toNat v) r A' R') : Ex l g d mm pc L (xI v :: xI i :: xR a :: st) A R r A' R' := by
  refine e_stepM rfl (fun p e Rm s m args below meth c H locs cells slots Q ls C hr hl hL ho hs kk => ?_) rfl kk
  have hi := i4_nat (oks_hd (oks_tl hs)) h0 hn
  have hat := hr.1 a _ (xren_at (xlt hr hk (by decide)))
  rw [xcl1 hk] at hat
  refine W.iast C.1 C.2.1 (j := Int32.ofInt i) (x := Int32.ofInt v) hat ((C.2.2.2.2.2.2.2.2.1.2 0 _ rfl).1 n (fun j => .int (Int32.ofInt (R a j)))) (fun q => by cases q) (by show ¬ (_ ∨ (arrV _ _ _).slots.size ≤ _); rw [arrV_size]; exact hi.1) rfl rfl hd fun H1 e z oq => ?_
  refine kk H1 _ (xRel_set hr rfl ?_ z oq (fun q hq => xcl_ne rfl rfl (xup_ne hq)) (xok_up hr.2.2.1 (by rw [hk]; exact oks_hd hs)) (fun q hq => by rw [List.mem_singleton.mp hq])) (oks_tl (oks_tl (oks_tl hs))) rfl
  rw [xcl1 hk]
  show H1[xB g + a]? = some (vp_cell _ _)
  rw [e, vp_cell_i, vp_cell_i, arrV_store, hi.2]
  congr 2
  funext q
  by_cases hq : q = i.toNat
  · subst hq; simp [updV, xup]
  · simp [updV, xup, hq]
theorem e_alen {a n : Nat} (hd : decode mm.2.1 pc = .ok (.arraylength, 1)) (hk : A.1 a = (1, n)) (hn : i4 (n : Int)) (kk : Ex l g d mm (pc + 1) L (xI (n : Int) :: st) A R r A' R') : Ex l g d mm pc L (xR a :: st) A R r A' R' :=
  e_step (fun p e Rm s m args below meth c H locs cells slots Q ls C hr hl hL ho hs kk =>
    va_alen C.1 C.2.1 C.2.2.2.2.2.2.2.2.1 hr.1 a 0 (by rw [xren_at (xlt hr hk (by decide)), xcl1 hk]) rfl (v := Int32.ofInt (n : Int)) rfl hd (kk ls hl hL ho (oks_cons (v := xI (n : Int)) hn (oks_tl hs)))) kk
theorem e_aald2 {a b n : Nat} {i : Int} (hd : decode mm.2.1 pc = .ok (.aaload, 1)) (hk : A.1 a = (2, n)) (h0 : 0 ≤ i) (hn : i < (n : Int)) (hb : A.2.1 a i.toNat = some b) (kk : Ex l g d mm (pc + 1) L (xR b :: st) A R r A' R') : Ex l g d mm pc L (xI i :: xR a :: st) A R r A' R' :=
  e_step (fun p e Rm s m args below meth c H locs cells slots Q ls C hr hl hL ho hs kk => by
    have hi := i4_nat (oks_hd hs) h0 hn
    refine va_aldq (C := RX0) C.1 C.2.1 C.2.2.2.2.2.2.2.2.1 hr.1 a 1 (by rw [xren_at (xlt hr hk (by decide)), xcl2 hk]) rfl hi.1 hd ?_
    simp only [hi.2, hb]
    exact kk ls hl hL ho (oks_cons (v := xR b) trivial (oks_tl (oks_tl hs)))) kk
theorem xrng3 {H : Heap} {locs : List Loc} {a n k : Nat} (hr : xRel g A R H locs) (h : A.1 a = (3, n)) : i4 (R a k) := by
  have := hr.2.2.1.1 a k
  rw [h] at this
  simpa [xwd] using this
theorem e_aald3 {a n : Nat} {i : Int} (hd : decode mm.2.1 pc = .ok (.aaload, 1)) (hk : A.1 a = (3, n)) (h0 : 0 ≤ i) (hn : i < (n : Int)) (hb : 0 ≤ R a i.toNat) (kk : Ex l g d mm (pc + 1) L (xR (R a i.toNat).toNat :: st) A R r A' R') : Ex l g d mm pc L (xI i :: xR a :: st) A R r A' R' :=
  e_step (fun p e Rm s m args below meth c H locs cells slots Q ls C hr hl hL ho hs kk => by
    have hi := i4_nat (oks_hd hs) h0 hn
    refine va_aldq (C := RX8) C.1 C.2.1 C.2.2.2.2.2.2.2.2.1 hr.1 a 2 (by rw [xren_at (xlt hr hk (by decide)), xcl3 hk]) rfl hi.1 hd ?_
    simp only [hi.2]
    rw [if_neg (by omega)]
    exact kk ls hl hL ho (oks_cons (v := xR (R a i.toNat).toNat) trivial (oks_tl (oks_tl hs)))) kk
end XW
