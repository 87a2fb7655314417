def xMc (cal : xM) (n : Nat) : Prop := Cond.code cal.1 cal.2.1 cal.2.2.1 cal.2.2.2 ∈ wG ∧ Cond.initialized cal.1.cls ∈ wG ∧ (cal.1.cls ≠ "java/lang/invoke/MethodHandle" ∧ cal.1.cls ≠ "java/lang/invoke/VarHandle" ∧ (parseMethodDescriptor cal.1.desc).map (fun d => d.parameters.length) = some n) ∧ plainName cal.1.cls = true ∧ Nat.ble cal.2.2.1 17 = true
def xMV (own : String) (idx : Nat) (cal : xM) (n ci : Nat) : Prop := xMc cal n ∧ Cond.methodLink own idx cal.1 ∈ wG ∧ Cond.instanceMethod cal.1 ∈ wG ∧ Cond.selects cal.1.cls cal.1 cal.1 ∈ wG ∧ cal.1.cls = (xct ci).1
def xMS (own : String) (idx : Nat) (cal : xM) (n : Nat) : Prop := xMc cal n ∧ Cond.methodLink own idx cal.1 ∈ wG ∧ Cond.static cal.1 ∈ wG
def xMN (own : String) (idx : Nat) (cal : xM) (n : Nat) : Prop := xMc cal n ∧ (∃ host, Cond.methodLinkNest own idx cal.1 host ∈ xnest) ∧ Cond.static cal.1 ∈ wG
def xMI (own : String) (idx : Nat) (cal : xM) (n : Nat) : Prop := xMc cal n ∧ Cond.methodLink own idx cal.1 ∈ wG ∧ Cond.instanceMethod cal.1 ∈ wG ∧ cal.1.name = "<init>" ∧ cal.2.2.2 = none
def xMJ (own : String) (idx : Nat) (cal : xM) (n : Nat) : Prop := xMc cal n ∧ (∃ host, Cond.methodLinkNest own idx cal.1 host ∈ xnest) ∧ Cond.instanceMethod cal.1 ∈ wG ∧ cal.1.name = "<init>" ∧ cal.2.2.2 = none
theorem xws_good {cal : xM} {n : Nat} (h : xMc cal n) : GoodIn wG (xws cal) := fun w hw => by
  rcases List.mem_cons.mp hw with e | e
  · rw [e]; exact wG_goodIn _ h.1
  · exact wG_goodIn _ e
theorem xgo {α β : Type} {c : List α} {a : List α} {b : List α} : (c ++ a).reverse ++ b = a.reverse ++ (c.reverse ++ b) := by rw [List.reverse_append, List.append_assoc]
section XC
variable {l : Launch} {g : xG} {d : Nat} {mm : xM} {pc : Nat} {L st : List xV} {A : xA} {R : xN} {r : Option xV} {A' : xA} {R' : xN}
/-- behind any call -/
theorem e_call {cal : xM} {n : Nat} {As L0 st0 : List xV} {r1 : Option xV} {A1 : xA} {R1 : xN} (hM : xMc cal n) (hoS : oks st0 → oks st ∧ oks As) (hL0 : xent As cal.2.2.1 = L0) (hset : As.all xset = true) (hlen : Nat.ble (xexp As).length cal.2.2.1 = true) (hokr : okr cal.2.2.2 r1) (h1 : Ex l g d cal 0 L0 [] A R r1 A1 R1)
    (hrun : ∀ (p : Program) (e : Env) (Rm : Room) (s : State) (m : MethodId) (args : Array Value) (below : List Frame) (meth : Method) (c : Code) (H : Heap) (locs : List Loc) (cells slots : Nat) (ls : Array Slot), xC g mm (d + 1) p Rm s m args meth c → xRel g A R H locs → ls.size = mm.2.2.1 →
      (∀ U : State, U.heap = H → s.WarmedH U.vm → xPc g A R As ((As.map (xval g)).toArray) U) → (cells + (A1.2.2.1 - A.2.2.1) ≤ Rm.cells ∧ slots + (A1.2.2.2 - A.2.2.2) ≤ Rm.slots) → 
      Met l cal.1 (xws cal) (xrm d (A1.2.2.1 - A.2.2.1) (A1.2.2.2 - A.2.2.2)) (xPc g A R As) (xQc g A1 R1 r1) (A1.2.2.1 - A.2.2.1) (A1.2.2.2 - A.2.2.2) (fun q => xB g ≤ q) →
      va_Run p l e Rm s m args below meth c H locs cells slots (A1.2.2.1 - A.2.2.1) (A1.2.2.2 - A.2.2.2) (F0 m pc ls (st0.map (xval g))) (st.map (xval g)) (xQc g A1 R1 r1 ((As.map (xval g)).toArray)) (fun q => xB g ≤ q))
    (kk : Ex l g (d + 1) mm (pc + 3) L (r1.toList ++ st) A1 R1 r A' R') : Ex l g (d + 1) mm pc L st0 A R r A' R' := by
  have m1 := h1.1
  have m2 := kk.1
  refine ⟨⟨by omega, by omega⟩, fun p e Rm s m args below meth c H locs cells slots Q ls C hr hl hL ho hs hc1 hc2 k2 => ?_⟩
  obtain ⟨hoks, hoA⟩ := hoS hs
  subst hL0
  have hMet := h1.met hokr hM.2.2.2.1 (List.all_eq_true.mp hset) hoA (Nat.le_of_ble_eq_true hlen)
  have hR := hrun p e Rm s m args below meth c H locs cells slots ls C hr hl.1 (fun U hU hW => ⟨rfl, by rw [hU]; exact hr.nil, C.2.2.2.2.2.2.2.2.warm hW⟩) ⟨by omega, by omega⟩ hMet
  intro T hT X
  obtain ⟨v, st₀, t, T', Lc, h0, X', hLc, e1, e2, ⟨hv, hrel, hvr⟩, step⟩ := hR T hT X
  have hv' : v = r1.map (xval g) := Outcome.returned.inj hv
  subst hv'
  have hstk : (r1.map (xval g)).toList ++ st.map (xval g) = (r1.toList ++ st).map (xval g) := by cases r1 <;> rfl
  have hokr1 : oks (r1.toList ++ st) := by
    intro w hw
    rcases List.mem_append.mp hw with h | h
    · exact hvr w (by cases r1 with
        | none => exact absurd h List.not_mem_nil
        | some z => rw [List.mem_singleton.mp h])
    · exact hoks w h
  obtain ⟨t2, a1, b1⟩ := kk.2 p e Rm s m args below meth c t.heap (locs ++ Lc) (cells + (A1.2.2.1 - A.2.2.1)) (slots + (A1.2.2.2 - A.2.2.2)) Q ls C (hrel.loc hr hLc) hl hL ho hokr1 (by omega) (by omega) (fun H' locs' pc' ls' vs' q1 q2 => by
    have z1 : cells + (A1.2.2.1 - A.2.2.1) + (A'.2.2.1 - A1.2.2.1) = cells + (A'.2.2.1 - A.2.2.1) := by omega
    have z2 : slots + (A1.2.2.2 - A.2.2.2) + (A'.2.2.2 - A1.2.2.2) = slots + (A'.2.2.2 - A.2.2.2) := by omega
    rw [z1, z2]
    exact k2 H' locs' pc' ls' vs' q1 q2) T' e1 X'
  refine ⟨t2, step t2 ?_, b1⟩
  rw [← hstk] at a1
  exact a1
theorem oks_app {a b : List xV} (h : oks (a ++ b)) : oks a ∧ oks b := ⟨fun v hv => h v (List.mem_append_left _ hv), fun v hv => h v (List.mem_append_right _ hv)⟩
theorem oks_rev {a : List xV} (h : oks a.reverse) : oks a := fun v hv => h v (List.mem_reverse.mpr hv)
theorem xrest {cs : List xV} (h : Nat.ble (xsz cs) 8 = true) {ls : Array Slot} {m : MethodId} {pc : Nat} {st0 : List Value} : 2 * (F0 m pc ls st0).monitorRoom + ((cs.map (xval g)).map fun v => v.category).sum ≤ 8 := lv_room (by rw [xsz_eq]; exact Nat.le_of_ble_eq_true h)
/-- a method of an object, of its own class -/
theorem e_callV {cal : xM} {idx n ci b : Nat} {As L0 st0 : List xV} {r1 : Option xV} {A1 : xA} {R1 : xN} (hd : decode mm.2.1 pc = .ok (.invokevirtual idx, 3)) (hM : xMV mm.1.cls idx cal n ci) (hkb : A.1 b = (0, ci)) (hn : As.length = n) (hst0 : As.reverse ++ (xR b :: st) = st0) (hL0 : xent (xR b :: As) cal.2.2.1 = L0) (hset : (xR b :: As).all xset = true) (hlen : Nat.ble (xexp (xR b :: As)).length cal.2.2.1 = true) (hsz : Nat.ble (xsz st) 8 = true) (hokr : okr cal.2.2.2 r1) (h1 : Ex l g d cal 0 L0 [] A R r1 A1 R1) (kk : Ex l g (d + 1) mm (pc + 3) L (r1.toList ++ st) A1 R1 r A' R') : Ex l g (d + 1) mm pc L st0 A R r A' R' := by
  subst hst0
  refine e_call hM.1 (fun h => ⟨oks_tl (oks_app h).2, oks_cons (oks_hd (oks_app h).2) (oks_rev (oks_app h).1)⟩) hL0 hset hlen hokr h1 (fun p e Rm s m args below meth c H locs cells slots ls C hr hls hP hc hMet => ?_) kk
  obtain ⟨hx, hb, hml, hown, hts, hname, hfr, hlo, hKK⟩ := C
  obtain ⟨⟨w1, w2, w3, w4, w5⟩, w6, w7, w8, w9⟩ := hM
  have hcell := hr.1 b _ (xren_at (xlt hr hkb (by decide)))
  rw [xcl0 hkb] at hcell
  have hfac := xfac ci (xci hr hkb)
  obtain ⟨r', hr', cellV, g1, g2, g3, -⟩ := hcell
  have hcls := (hKK.1.1 ci _ hfac.1).2
  have hcb : CallB Rm s args mm.1.cls idx cal.1 cal.2.1 cal.2.2.1 cal.2.2.2 (xws cal) (xrm d (A1.2.2.1 - A.2.2.1) (A1.2.2.2 - A.2.2.2)) (A1.2.2.1 - A.2.2.1) (A1.2.2.2 - A.2.2.2) n :=
    callB_of n hts (xws_good ⟨w1, w2, w3, w4, w5⟩) rfl rfl rfl (hts _ w2) (hts _ w6) w3 ⟨hfr, by
      have := Nat.le_of_ble_eq_true w5
      show 8 + (cal.2.2.1 + 11) + 36 * d ≤ Rm.locals
      omega⟩
  exact va_runV (As := As.map (xval g)) (rest := st.map (xval g)) (C := (xct ci).1) (nL := mm.2.2.1) (g := F0 m pc ls ((As.reverse ++ (xR b :: st)).map (xval g))) ⟨hx, hb, hml, hown, hts⟩ hMet ⟨hcb, hts _ w7, by rw [← w9]; exact hts _ w8⟩ ⟨xPc.calling, ⟨cellV, g1, by rw [g3]; rfl, by rw [g2]; exact hcls.1⟩, hP⟩ rfl (by rw [List.length_map]; exact hn) hls (by rw [List.map_append, List.map_reverse]; rfl) (xrest hsz) hd hc
theorem e_callS {cal : xM} {idx n : Nat} {As L0 st0 : List xV} {r1 : Option xV} {A1 : xA} {R1 : xN} (hd : decode mm.2.1 pc = .ok (.invokestatic idx, 3)) (hM : xMS mm.1.cls idx cal n) (hn : As.length = n) (hst0 : As.reverse ++ st = st0) (hL0 : xent As cal.2.2.1 = L0) (hset : As.all xset = true) (hlen : Nat.ble (xexp As).length cal.2.2.1 = true) (hsz : Nat.ble (xsz st) 8 = true) (hokr : okr cal.2.2.2 r1) (h1 : Ex l g d cal 0 L0 [] A R r1 A1 R1) (kk : Ex l g (d + 1) mm (pc + 3) L (r1.toList ++ st) A1 R1 r A' R') : Ex l g (d + 1) mm pc L st0 A R r A' R' := by
  subst hst0
  refine e_call hM.1 (fun h => ⟨(oks_app h).2, oks_rev (oks_app h).1⟩) hL0 hset hlen hokr h1 (fun p e Rm s m args below meth c H locs cells slots ls C hr hls hP hc hMet => ?_) kk
  obtain ⟨hx, hb, hml, hown, hts, hname, hfr, hlo, hKK⟩ := C
  obtain ⟨⟨w1, w2, w3, w4, w5⟩, w6, w7⟩ := hM
  have hcb : CallB Rm s args mm.1.cls idx cal.1 cal.2.1 cal.2.2.1 cal.2.2.2 (xws cal) (xrm d (A1.2.2.1 - A.2.2.1) (A1.2.2.2 - A.2.2.2)) (A1.2.2.1 - A.2.2.1) (A1.2.2.2 - A.2.2.2) n :=
    callB_of n hts (xws_good ⟨w1, w2, w3, w4, w5⟩) rfl rfl rfl (hts _ w2) (hts _ w6) w3 ⟨hfr, by
      have := Nat.le_of_ble_eq_true w5
      show 8 + (cal.2.2.1 + 11) + 36 * d ≤ Rm.locals
      omega⟩
  exact va_runS (As := As.map (xval g)) (rest := st.map (xval g)) (nL := mm.2.2.1) (g := F0 m pc ls ((As.reverse ++ st).map (xval g))) ⟨hx, hb, hml, hown, hts⟩ hMet ⟨hcb, hts _ w7⟩ ⟨xPc.calling, hP⟩ rfl (by rw [List.length_map]; exact hn) hls (by rw [List.map_append, List.map_reverse]) (xrest hsz) hd hc
theorem e_callN {cal : xM} {idx n : Nat} {As L0 st0 : List xV} {r1 : Option xV} {A1 : xA} {R1 : xN} (hd : decode mm.2.1 pc = .ok (.invokestatic idx, 3)) (hM : xMN mm.1.cls idx cal n) (hn : As.length = n) (hst0 : As.reverse ++ st = st0) (hL0 : xent As cal.2.2.1 = L0) (hset : As.all xset = true) (hlen : Nat.ble (xexp As).length cal.2.2.1 = true) (hsz : Nat.ble (xsz st) 8 = true) (hokr : okr cal.2.2.2 r1) (h1 : Ex l g d cal 0 L0 [] A R r1 A1 R1) (kk : Ex l g (d + 1) mm (pc + 3) L (r1.toList ++ st) A1 R1 r A' R') : Ex l g (d + 1) mm pc L st0 A R r A' R' := by
  subst hst0
  refine e_call hM.1 (fun h => ⟨(oks_app h).2, oks_rev (oks_app h).1⟩) hL0 hset hlen hokr h1 (fun p e Rm s m args below meth c H locs cells slots ls C hr hls hP hc hMet => ?_) kk
  obtain ⟨hx, hb, hml, hown, hts, hname, hfr, hlo, hKK⟩ := C
  obtain ⟨⟨w1, w2, w3, w4, w5⟩, ⟨host, w6⟩, w7⟩ := hM
  have hcn := va_cnB (R := Rm) (args := args) (mc := A1.2.2.1 - A.2.2.1) (ms := A1.2.2.2 - A.2.2.2) (rm := xrm d (A1.2.2.1 - A.2.2.1) (A1.2.2.2 - A.2.2.2)) n hts (xws_good ⟨w1, w2, w3, w4, w5⟩) rfl rfl rfl (hKK.2.1 _ w6) (hts _ w2) w3 ⟨hfr, by
      have := Nat.le_of_ble_eq_true w5
      show 8 + (cal.2.2.1 + 11) + 36 * d ≤ Rm.locals
      omega⟩
  exact va_runSN (As := As.map (xval g)) (rest := st.map (xval g)) (nL := mm.2.2.1) (g := F0 m pc ls ((As.reverse ++ st).map (xval g))) ⟨hx, hb, hml, hown, hts⟩ hMet ⟨hcn, hts _ w7, trivial⟩ ⟨xPc.calling, hP⟩ rfl (by rw [List.length_map]; exact hn) hls (by rw [List.map_append, List.map_reverse]) (xrest hsz) hd hc
theorem e_callI {cal : xM} {idx n b : Nat} {As L0 st0 : List xV} {A1 : xA} {R1 : xN} (hd : decode mm.2.1 pc = .ok (.invokespecial idx, 3)) (hM : xMI mm.1.cls idx cal n) (hn : As.length = n) (hst0 : As.reverse ++ (xR b :: st) = st0) (hL0 : xent (xR b :: As) cal.2.2.1 = L0) (hset : (xR b :: As).all xset = true) (hlen : Nat.ble (xexp (xR b :: As)).length cal.2.2.1 = true) (hsz : Nat.ble (xsz st) 8 = true) (h1 : Ex l g d cal 0 L0 [] A R none A1 R1) (kk : Ex l g (d + 1) mm (pc + 3) L st A1 R1 r A' R') : Ex l g (d + 1) mm pc L st0 A R r A' R' := by
  subst hst0
  have hret := hM.2.2.2.2
  refine e_call (r1 := none) hM.1 (fun h => ⟨oks_tl (oks_app h).2, oks_cons (oks_hd (oks_app h).2) (oks_rev (oks_app h).1)⟩) hL0 hset hlen (by rw [hret]; exact trivial) h1 (fun p e Rm s m args below meth c H locs cells slots ls C hr hls hP hc hMet => ?_) kk
  obtain ⟨hx, hb, hml, hown, hts, hname, hfr, hlo, hKK⟩ := C
  obtain ⟨⟨w1, w2, w3, w4, w5⟩, w6, w7, w8, w9⟩ := hM
  have hcb : CallB Rm s args mm.1.cls idx cal.1 cal.2.1 cal.2.2.1 none (xws cal) (xrm d (A1.2.2.1 - A.2.2.1) (A1.2.2.2 - A.2.2.2)) (A1.2.2.1 - A.2.2.1) (A1.2.2.2 - A.2.2.2) n :=
    callB_of (ws' := wG) n hts (xws_good ⟨w1, w2, w3, w4, w5⟩) (by rw [xws, hret]) rfl rfl (hts _ w2) (hts _ w6) w3 ⟨hfr, by
      have := Nat.le_of_ble_eq_true w5
      show 8 + (cal.2.2.1 + 11) + 36 * d ≤ Rm.locals
      omega⟩
  exact va_runI (As := As.map (xval g)) (b := xB g + b) (rest := st.map (xval g)) (nL := mm.2.2.1) (g := F0 m pc ls ((As.reverse ++ (xR b :: st)).map (xval g))) ⟨hx, hb, hml, hown, hts⟩ hMet ⟨hcb, w8, hts _ w7⟩ ⟨xPc.calling, hP⟩ rfl (by rw [List.length_map]; exact hn) hls (by rw [List.map_append, List.map_reverse]; rfl) (xrest hsz) hd hc
theorem e_callJ {cal : xM} {idx n b : Nat} {As L0 st0 : List xV} {A1 : xA} {R1 : xN} (hd : decode mm.2.1 pc = .ok (.invokespecial idx, 3)) (hM : xMJ mm.1.cls idx cal n) (hn : As.length = n) (hst0 : As.reverse ++ (xR b :: st) = st0) (hL0 : xent (xR b :: As) cal.2.2.1 = L0) (hset : (xR b :: As).all xset = true) (hlen : Nat.ble (xexp (xR b :: As)).length cal.2.2.1 = true) (hsz : Nat.ble (xsz st) 8 = true) (h1 : Ex l g d cal 0 L0 [] A R none A1 R1) (kk : Ex l g (d + 1) mm (pc + 3) L st A1 R1 r A' R') : Ex l g (d + 1) mm pc L st0 A R r A' R' := by
  subst hst0
  have hret := hM.2.2.2.2
  refine e_call (r1 := none) hM.1 (fun h => ⟨oks_tl (oks_app h).2, oks_cons (oks_hd (oks_app h).2) (oks_rev (oks_app h).1)⟩) hL0 hset hlen (by rw [hret]; exact trivial) h1 (fun p e Rm s m args below meth c H locs cells slots ls C hr hls hP hc hMet => ?_) kk
  obtain ⟨hx, hb, hml, hown, hts, hname, hfr, hlo, hKK⟩ := C
  obtain ⟨⟨w1, w2, w3, w4, w5⟩, ⟨host, w6⟩, w7, w8, w9⟩ := hM
  have hcn := va_cnB (R := Rm) (args := args) (bytes := cal.2.1) (maxL := cal.2.2.1) (ret := none) (ws := xws cal) (ws' := wG) (mc := A1.2.2.1 - A.2.2.1) (ms := A1.2.2.2 - A.2.2.2) (rm := xrm d (A1.2.2.1 - A.2.2.1) (A1.2.2.2 - A.2.2.2)) n hts (xws_good ⟨w1, w2, w3, w4, w5⟩) (by rw [xws, hret]) rfl rfl (hKK.2.1 _ w6) (hts _ w2) w3 ⟨hfr, by
      have := Nat.le_of_ble_eq_true w5
      show 8 + (cal.2.2.1 + 11) + 36 * d ≤ Rm.locals
      omega⟩
  exact va_runIN (As := As.map (xval g)) (b := xB g + b) (rest := st.map (xval g)) (nL := mm.2.2.1) (g := F0 m pc ls ((As.reverse ++ (xR b :: st)).map (xval g))) ⟨hx, hb, hml, hown, hts⟩ hMet ⟨hcn, w8, hts _ w7⟩ ⟨xPc.calling, hP⟩ rfl (by rw [List.length_map]; exact hn) hls (by rw [List.map_append, List.map_reverse]; rfl) (xrest hsz) hd hc
end XC
