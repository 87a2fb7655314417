/-! The judgement Ex: from here this method comes to its end with this answer and these cells. -/
/-- the words that stay true from state to state -/
def wG : List Cond := lw_tbl.filter (fun w => goodWord w)
theorem wG_sub : ∀ w ∈ wG, w ∈ lw_tbl := fun w h => (List.mem_filter.mp h).1
theorem wG_good : ∀ w ∈ wG, goodWord w = true := fun w h => by simpa using (List.mem_filter.mp h).2
theorem wG_goodIn : GoodIn wG wG := fun w h => ⟨h, good_of_word (wG_good w h)⟩
theorem wG_t {w : Cond} (i : Nat) (h : tables_1[i]? = some w) (hg : goodWord w = true) : w ∈ wG := List.mem_filter.mpr ⟨List.mem_append_right _ (List.mem_of_getElem? h), by simpa using hg⟩
theorem wG_p {y : MethodName} {n : Nat} (i : Nat) (h : lw_privs[i]? = some (y, n)) (hg : goodWord (.selects y.cls y y) = true) : Cond.selects y.cls y y ∈ wG :=
  List.mem_filter.mpr ⟨List.mem_append_left _ (List.mem_map.mpr ⟨(y, n), List.mem_of_getElem? h, rfl⟩), by simpa using hg⟩
theorem tb_t {w : Cond} (i : Nat) (h : tables_1[i]? = some w) : w ∈ lw_tbl := List.mem_append_right _ (List.mem_of_getElem? h)
/-- the types of a class's fields -/
def xty (ci : Nat) : Nat → FieldType := match ci with
  | 0 => tyX0
  | 1 => tyX1
  | 2 => tyX2
  | 3 => tyX3
  | 4 => tyX4
  | 5 => tyX5
  | 6 => tyX6
  | 7 => tyX7
  | 8 => tyX8
  | 9 => tyX9
  | _ => tyX10
def xct (ci : Nat) : vw_C := match ci with
  | 0 => (RX0, TX0, 10)
  | 1 => (RX1, TX1, 2)
  | 2 => (RX2, TX2, 7)
  | 3 => (RX3, TX3, 8)
  | 4 => (RX4, TX4, 2)
  | 5 => (RX5, TX5, 4)
  | 6 => (RX6, TX6, 4)
  | 7 => (RX7, TX7, 4)
  | 8 => (RX8, TX8, 3)
  | 9 => (RX9, TX9, 9)
  | _ => (RX10, TX10, 0)
def xfv (g : xG) (ty : FieldType) (i : Int) (o : Option Nat) : Value := match ty with
  | .long => .long (Int64.ofInt i)
  | .object _ => va_rf (o.map (fun b => xB g + b))
  | .array _ => va_rf (o.map (fun b => xB g + b))
  | _ => .int (Int32.ofInt i)
def xcl (g : xG) (A : xA) (R : xN) (q : Nat) : va_E := match A.1 q with
  | (0, ci) => .inr (ci, (List.range (xct ci).2.2).map fun k => xfv g (xty ci k) (R q k) (A.2.1 q k))
  | (1, n) => .inl (g.2.1.1, n, .inl fun j => Int32.ofInt (R q j))
  | (2, n) => .inl (g.2.1.2.1, n, .inr (.inr (.inr (.inr fun j => (A.2.1 q j).map (fun b => xB g + b)))))
  | (_, n) => .inl (g.2.1.2.2, n, .inr (.inr (.inr (.inr fun j => if R q j < 0 then none else some (xB g + (R q j).toNat)))))
def xren (g : xG) (A : xA) (R : xN) : va_W := (List.range A.2.2.1).map fun q => (xB g + q, xcl g A R q)
/-- the one field that is long: word of the reference -/
def xwd (kd : Nat × Nat) (k : Nat) : Bool := match kd with
  | (0, ci) => (match xty ci k with | .long => true | _ => false)
  | _ => false
def xok (A : xA) (R : xN) : Prop := (∀ q k, if xwd (A.1 q) k = true then i8 (R q k) else i4 (R q k)) ∧ (∀ q, A.2.2.1 ≤ q → A.1 q = (9, 0)) ∧ ∀ q, (A.1 q).1 = 0 → (A.1 q).2 < 10
def xRel (g : xG) (A : xA) (R : xN) (H : Heap) (locs : List Loc) : Prop := va_P g.1 vwCl (xren g A R) H ∧ H.size = xB g + A.2.2.1 ∧ xok A R ∧ va_S (fun q => xB g ≤ q) g.2.2.1 H locs
def xtys (g : xG) : List (ClassId × FieldType) := [(g.2.1.1, .int), (g.2.1.2.1, .object RX0), (g.2.1.2.2, .object RX8)]
def xnest : List Cond := tables_1.filter (fun w => match w with | .methodLinkNest _ _ _ _ => true | .fieldLinkNest _ _ _ _ _ _ => true | _ => false)
def xStr (g : xG) (U : State) : Prop := ∃ b, g.2.2.2.1 300 = some b ∧ b < g.2.2.1.size ∧ va_X b g.2.2.2.2.1 g.2.2.2.2.2 U g.2.2.1
def xK (g : xG) (U : State) : Prop := va_K g.1 vwCl (xtys g) U ∧ (∀ w ∈ xnest, va_Nw w U) ∧ va_AO RX0 U ∧ va_AO RX8 U ∧ xStr g U
theorem xnest_warm {w : Cond} (hw : w ∈ xnest) {s U : State} (hW : s.WarmedH U.vm) (h : va_Nw w s) : va_Nw w U := by
  have h2 := (List.mem_filter.mp hw).2
  cases w with
  | methodLinkNest a i x h => exact va_Nw.warmM hW (by assumption)
  | fieldLinkNest a i b n d h => exact va_Nw.warmF hW (by assumption)
  | _ => simp at h2
theorem xK.warm {g : xG} {s U : State} (hW : s.WarmedH U.vm) (h : xK g s) : xK g U := by
  obtain ⟨h1, h2, h3, h4, b, h10, h11, h12⟩ := h
  exact ⟨va_K.moved hW.alike h1, fun w hw => xnest_warm hw hW (h2 w hw), va_AO.moved hW.alike h3, va_AO.moved hW.alike h4, b, h10, h11, va_X.moved hW.alike h12⟩
def xC (g : xG) (mm : xM) (d : Nat) (p : Program) (Rm : Room) (s : State) (m : MethodId) (args : Array Value) (meth : Method) (c : Code) : Prop :=
  p.tables.exec = Jvm.exec ∧ c.code = mm.2.1 ∧ c.maxLocals = mm.2.2.1 ∧ s.vm.findClass mm.1.cls = some m.cls ∧ (∀ w ∈ wG, w.before args s = true) ∧ meth.name = mm.1.name ∧ d ≤ Rm.frames ∧ 36 * d ≤ Rm.locals ∧ xK g s
/-- the instruction that hands an answer back -/
def xend (mm : xM) (g : xG) (pc : Nat) (r : Option xV) (vs : List Value) : Prop := match r with
  | none => decode mm.2.1 pc = .ok (.return_, 1) ∧ vs = []
  | some (.inl i) => decode mm.2.1 pc = .ok (.ireturn, 1) ∧ vs = [.int (Int32.ofInt i)] ∧ i4 i
  | some (.inr (.inl _)) => False
  | some v => decode mm.2.1 pc = .ok (.areturn, 1) ∧ vs = [xval g v]
def Ex (l : Launch) (g : xG) (d : Nat) (mm : xM) (pc : Nat) (L st : List xV) (A : xA) (R : xN) (r : Option xV) (A' : xA) (R' : xN) : Prop :=
  (A.2.2.1 ≤ A'.2.2.1 ∧ A.2.2.2 ≤ A'.2.2.2) ∧ ∀ (p : Program) (e : Env) (Rm : Room) (s : State) (m : MethodId) (args : Array Value) (below : List Frame) (meth : Method) (c : Code) (H : Heap) (locs : List Loc) (cells slots : Nat) (Q : State → Prop) (ls : Array Slot),
    xC g mm d p Rm s m args meth c → xRel g A R H locs → lv_has ls mm.2.2.1 (xls g 0 L) → L.length = mm.2.2.1 → oks L → oks st →
    cells + (A'.2.2.1 - A.2.2.1) ≤ Rm.cells → slots + (A'.2.2.2 - A.2.2.2) ≤ Rm.slots →
    (∀ (H' : Heap) (locs' : List Loc) (pc' : Nat) (ls' : Array Slot) (vs' : List Value), xRel g A' R' H' locs' → xend mm g pc' r vs' → W p l e Rm s m args below meth c H' locs' (cells + (A'.2.2.1 - A.2.2.1)) (slots + (A'.2.2.2 - A.2.2.2)) Q (F0 m pc' ls' vs')) →
    W p l e Rm s m args below meth c H locs cells slots Q (F0 m pc ls (st.map (xval g)))
section XE
variable {l : Launch} {g : xG} {d : Nat} {mm : xM} {pc : Nat} {L st : List xV} {A : xA} {R : xN} {r : Option xV} {A' : xA} {R' : xN}
theorem e_step {pc' : Nat} {L' st' : List xV}
    (h : ∀ (p : Program) (e : Env) (Rm : Room) (s : State) (m : MethodId) (args : Array Value) (below : List Frame) (meth : Method) (c : Code) (H : Heap) (locs : List Loc) (cells slots : Nat) (Q : State → Prop) (ls : Array Slot),
      xC g mm d p Rm s m args meth c → xRel g A R H locs → lv_has ls mm.2.2.1 (xls g 0 L) → L.length = mm.2.2.1 → oks L → oks st →
      (∀ ls' : Array Slot, lv_has ls' mm.2.2.1 (xls g 0 L') → L'.length = mm.2.2.1 → oks L' → oks st' → W p l e Rm s m args below meth c H locs cells slots Q (F0 m pc' ls' (st'.map (xval g)))) →
      W p l e Rm s m args below meth c H locs cells slots Q (F0 m pc ls (st.map (xval g))))
    (k : Ex l g d mm pc' L' st' A R r A' R') : Ex l g d mm pc L st A R r A' R' :=
  ⟨k.1, fun p e Rm s m args below meth c H locs cells slots Q ls C hr hl hL ho hs h1 h2 kk =>
    h p e Rm s m args below meth c H locs cells slots Q ls C hr hl hL ho hs fun ls' hl' hL' ho' hs' =>
      k.2 p e Rm s m args below meth c H locs cells slots Q ls' C hr hl' hL' ho' hs' h1 h2 kk⟩
theorem e_br {P : Prop} {pct pcf : Nat} {st' : List xV}
    (h : ∀ (p : Program) (e : Env) (Rm : Room) (s : State) (m : MethodId) (args : Array Value) (below : List Frame) (meth : Method) (c : Code) (H : Heap) (locs : List Loc) (cells slots : Nat) (Q : State → Prop) (ls : Array Slot),
      xC g mm d p Rm s m args meth c → oks st → 
      (P → oks st' → W p l e Rm s m args below meth c H locs cells slots Q (F0 m pct ls (st'.map (xval g)))) →
      (¬ P → oks st' → W p l e Rm s m args below meth c H locs cells slots Q (F0 m pcf ls (st'.map (xval g)))) →
      W p l e Rm s m args below meth c H locs cells slots Q (F0 m pc ls (st.map (xval g))))
    (kt : P → Ex l g d mm pct L st' A R r A' R') (kf : ¬ P → Ex l g d mm pcf L st' A R r A' R') : Ex l g d mm pc L st A R r A' R' := by
  have hm : A.2.2.1 ≤ A'.2.2.1 ∧ A.2.2.2 ≤ A'.2.2.2 := by
    by_cases hP : P
    · exact (kt hP).1
    · exact (kf hP).1
  exact ⟨hm, fun p e Rm s m args below meth c H locs cells slots Q ls C hr hl hL ho hs h1 h2 kk =>
    h p e Rm s m args below meth c H locs cells slots Q ls C hs
      (fun hP hs' => (kt hP).2 p e Rm s m args below meth c H locs cells slots Q ls C hr hl hL ho hs' h1 h2 kk)
      (fun hP hs' => (kf hP).2 p e Rm s m args below meth c H locs cells slots Q ls C hr hl hL ho hs' h1 h2 kk)⟩
theorem e_iconst {n : Int} (hd : decode mm.2.1 pc = .ok (.iconst n, 1)) (hn : i4 n) (k : Ex l g d mm (pc + 1) L (xI n :: st) A R r A' R') : Ex l g d mm pc L st A R r A' R' :=
  e_step (fun p e Rm s m args below meth c H locs cells slots Q ls C hr hl hL ho hs kk => lv_iconst C.1 C.2.1 hd rfl (kk ls hl hL ho (oks_cons (v := xI n) hn hs))) k
theorem e_bipush {n : Int} (hd : decode mm.2.1 pc = .ok (.bipush n, 2)) (hv : (Int8.ofInt n).toInt32 = Int32.ofInt n) (hn : i4 n) (k : Ex l g d mm (pc + 2) L (xI n :: st) A R r A' R') : Ex l g d mm pc L st A R r A' R' :=
  e_step (fun p e Rm s m args below meth c H locs cells slots Q ls C hr hl hL ho hs kk => lv_bipush C.1 C.2.1 hd hv (kk ls hl hL ho (oks_cons (v := xI n) hn hs))) k
theorem e_sipush {n : Int} (hd : decode mm.2.1 pc = .ok (.sipush n, 3)) (hv : (Int16.ofInt n).toInt32 = Int32.ofInt n) (hn : i4 n) (k : Ex l g d mm (pc + 3) L (xI n :: st) A R r A' R') : Ex l g d mm pc L st A R r A' R' :=
  e_step (fun p e Rm s m args below meth c H locs cells slots Q ls C hr hl hL ho hs kk => lv_sipush C.1 C.2.1 hd hv (kk ls hl hL ho (oks_cons (v := xI n) hn hs))) k
theorem e_lconst {n : Fin 2} {i : Int} (hd : decode mm.2.1 pc = .ok (.lconst n, 1)) (hv : Int64.ofNat (n : Nat) = Int64.ofInt i) (hn : i8 i) (k : Ex l g d mm (pc + 1) L (xL i :: st) A R r A' R') : Ex l g d mm pc L st A R r A' R' :=
  e_step (fun p e Rm s m args below meth c H locs cells slots Q ls C hr hl hL ho hs kk => lv_lconst C.1 C.2.1 hd hv (kk ls hl hL ho (oks_cons (v := xL i) hn hs))) k
theorem e_ldc2 {i : Int} {index : Nat} (hd : decode mm.2.1 pc = .ok (.ldc2_w index, 3)) (hw : Cond.constantLong mm.1.cls index (Int64.ofInt i) ∈ wG) (hn : i8 i) (k : Ex l g d mm (pc + 3) L (xL i :: st) A R r A' R') : Ex l g d mm pc L st A R r A' R' :=
  e_step (fun p e Rm s m args below meth c H locs cells slots Q ls C hr hl hL ho hs kk => W.ldc2 C.1 C.2.1 C.2.2.2.1 (C.2.2.2.2.1 _ hw) rfl hd (kk ls hl hL ho (oks_cons (v := xL i) hn hs))) k
theorem e_ldcw {i : Int} {index : Nat} (hd : decode mm.2.1 pc = .ok (.ldc_w index, 3)) (hw : Cond.constant mm.1.cls index (Int32.ofInt i) ∈ wG) (hn : i4 i) (k : Ex l g d mm (pc + 3) L (xI i :: st) A R r A' R') : Ex l g d mm pc L st A R r A' R' :=
  e_step (fun p e Rm s m args below meth c H locs cells slots Q ls C hr hl hL ho hs kk => lv_ldcw C.1 C.2.1 C.2.2.2.1 (C.2.2.2.2.1 _ hw) hd (kk ls hl hL ho (oks_cons (v := xI i) hn hs))) k
theorem e_iload_n {j : Fin 4} {i : Nat} {x : Int} (hd : decode mm.2.1 pc = .ok (.iload_n j, 1)) (hi : (j : Nat) = i) (hk : L[i]? = some (xI x)) (k : Ex l g d mm (pc + 1) L (xI x :: st) A R r A' R') : Ex l g d mm pc L st A R r A' R' :=
  e_step (fun p e Rm s m args below meth c H locs cells slots Q ls C hr hl hL ho hs kk => lv_iload_n C.1 C.2.1 hd hi (xget hl hk rfl) (kk ls hl hL ho (oks_cons (oks_at ho hk) hs))) k
theorem e_iload {i : Nat} {x : Int} (hd : decode mm.2.1 pc = .ok (.iload i, 2)) (hk : L[i]? = some (xI x)) (k : Ex l g d mm (pc + 2) L (xI x :: st) A R r A' R') : Ex l g d mm pc L st A R r A' R' :=
  e_step (fun p e Rm s m args below meth c H locs cells slots Q ls C hr hl hL ho hs kk => lv_iload C.1 C.2.1 hd (xget hl hk rfl) (kk ls hl hL ho (oks_cons (oks_at ho hk) hs))) k
theorem e_lload_n {j : Fin 4} {i : Nat} {x : Int} (hd : decode mm.2.1 pc = .ok (.lload_n j, 1)) (hi : (j : Nat) = i) (hk : L[i]? = some (xL x)) (k : Ex l g d mm (pc + 1) L (xL x :: st) A R r A' R') : Ex l g d mm pc L st A R r A' R' :=
  e_step (fun p e Rm s m args below meth c H locs cells slots Q ls C hr hl hL ho hs kk => lv_lload_n C.1 C.2.1 hd hi (xget hl hk rfl) (kk ls hl hL ho (oks_cons (oks_at ho hk) hs))) k
theorem e_lload {i : Nat} {x : Int} (hd : decode mm.2.1 pc = .ok (.lload i, 2)) (hk : L[i]? = some (xL x)) (k : Ex l g d mm (pc + 2) L (xL x :: st) A R r A' R') : Ex l g d mm pc L st A R r A' R' :=
  e_step (fun p e Rm s m args below meth c H locs cells slots Q ls C hr hl hL ho hs kk => lv_lload C.1 C.2.1 hd (xget hl hk rfl) (kk ls hl hL ho (oks_cons (oks_at ho hk) hs))) k
theorem e_aload_n {j : Fin 4} {i : Nat} {x : Nat} (hd : decode mm.2.1 pc = .ok (.aload_n j, 1)) (hi : (j : Nat) = i) (hk : L[i]? = some (xR x)) (k : Ex l g d mm (pc + 1) L (xR x :: st) A R r A' R') : Ex l g d mm pc L st A R r A' R' :=
  e_step (fun p e Rm s m args below meth c H locs cells slots Q ls C hr hl hL ho hs kk => lv_aload_n C.1 C.2.1 hd hi (xget hl hk rfl) (kk ls hl hL ho (oks_cons (oks_at ho hk) hs))) k
theorem e_aload {i : Nat} {x : Nat} (hd : decode mm.2.1 pc = .ok (.aload i, 2)) (hk : L[i]? = some (xR x)) (k : Ex l g d mm (pc + 2) L (xR x :: st) A R r A' R') : Ex l g d mm pc L st A R r A' R' :=
  e_step (fun p e Rm s m args below meth c H locs cells slots Q ls C hr hl hL ho hs kk => lv_aload C.1 C.2.1 hd (xget hl hk rfl) (kk ls hl hL ho (oks_cons (oks_at ho hk) hs))) k
def xsok (k : Nat) : Bool := decide (k = 300)
theorem xsref {p : Program} {Rm : Room} {s : State} {m : MethodId} {args : Array Value} {meth : Method} {c : Code} (C : xC g mm d p Rm s m args meth c) {x : Nat} (hx : xsok x = true) : ∃ a, g.2.2.2.1 x = some a := by
  obtain ⟨b, h10, -⟩ := C.2.2.2.2.2.2.2.2.2.2.2.2
  unfold xsok at hx
  simp only [decide_eq_true_eq] at hx
  subst hx; exact ⟨_, h10⟩
theorem e_aload_nS {j : Fin 4} {i : Nat} {x : Nat} (hd : decode mm.2.1 pc = .ok (.aload_n j, 1)) (hi : (j : Nat) = i) (hk : L[i]? = some (xS x)) (hx : xsok x = true) (k : Ex l g d mm (pc + 1) L (xS x :: st) A R r A' R') : Ex l g d mm pc L st A R r A' R' :=
  e_step (fun p e Rm s m args below meth c H locs cells slots Q ls C hr hl hL ho hs kk => by
    obtain ⟨a, ha⟩ := xsref C hx
    have e0 : xval g (xS x) = .ref a := by show va_rf (g.2.2.2.1 x) = _; rw [ha]; rfl
    have h1 := xget hl hk rfl
    have h2 := kk ls hl hL ho (oks_cons (oks_at ho hk) hs)
    simp only [List.map] at h2
    rw [e0] at h1 h2
    exact lv_aload_n C.1 C.2.1 hd hi h1 h2) k
theorem e_istore_n {j : Fin 4} {i : Nat} {x : Int} {L' : List xV} (hd : decode mm.2.1 pc = .ok (.istore_n j, 1)) (hi : (j : Nat) = i) (hn : Nat.ble (i + 1) mm.2.2.1 = true) (hL' : xst1 L i (xI x) = L') (k : Ex l g d mm (pc + 1) L' st A R r A' R') : Ex l g d mm pc L (xI x :: st) A R r A' R' :=
  e_step (fun p e Rm s m args below meth c H locs cells slots Q ls C hr hl hL ho hs kk => lv_istore_n C.1 C.2.1 hd hi hl (Nat.le_of_ble_eq_true hn) rfl fun ls' h' => by
    subst hL'
    exact kk ls' (xls_st1 (v := xI x) h') (by rw [xst1_len]; exact hL) (oks_st1 ho (oks_hd hs)) (oks_tl hs)) k
theorem e_istore {i : Nat} {x : Int} {L' : List xV} (hd : decode mm.2.1 pc = .ok (.istore i, 2)) (hn : Nat.ble (i + 1) mm.2.2.1 = true) (hL' : xst1 L i (xI x) = L') (k : Ex l g d mm (pc + 2) L' st A R r A' R') : Ex l g d mm pc L (xI x :: st) A R r A' R' :=
  e_step (fun p e Rm s m args below meth c H locs cells slots Q ls C hr hl hL ho hs kk => lv_istore C.1 C.2.1 hd hl (Nat.le_of_ble_eq_true hn) rfl fun ls' h' => by
    subst hL'
    exact kk ls' (xls_st1 (v := xI x) h') (by rw [xst1_len]; exact hL) (oks_st1 ho (oks_hd hs)) (oks_tl hs)) k
theorem e_lstore_n {j : Fin 4} {i : Nat} {x : Int} {L' : List xV} (hd : decode mm.2.1 pc = .ok (.lstore_n j, 1)) (hi : (j : Nat) = i) (hn : Nat.ble (i + 2) mm.2.2.1 = true) (hL' : xst2 L i (xL x) = L') (k : Ex l g d mm (pc + 1) L' st A R r A' R') : Ex l g d mm pc L (xL x :: st) A R r A' R' :=
  e_step (fun p e Rm s m args below meth c H locs cells slots Q ls C hr hl hL ho hs kk => lv_lstore_n C.1 C.2.1 hd hi hl (Nat.le_of_ble_eq_true hn) rfl fun ls' h' => by
    subst hL'
    exact kk ls' (xls_st2 (v := xL x) h') (by rw [xst2_len]; exact hL) (oks_st2 ho (oks_hd hs)) (oks_tl hs)) k
theorem e_astore_n {j : Fin 4} {i : Nat} {x : Nat} {L' : List xV} (hd : decode mm.2.1 pc = .ok (.astore_n j, 1)) (hi : (j : Nat) = i) (hn : Nat.ble (i + 1) mm.2.2.1 = true) (hL' : xst1 L i (xR x) = L') (k : Ex l g d mm (pc + 1) L' st A R r A' R') : Ex l g d mm pc L (xR x :: st) A R r A' R' :=
  e_step (fun p e Rm s m args below meth c H locs cells slots Q ls C hr hl hL ho hs kk => lv_astore_n C.1 C.2.1 hd hi hl (Nat.le_of_ble_eq_true hn) rfl fun ls' h' => by
    subst hL'
    exact kk ls' (xls_st1 (v := xR x) h') (by rw [xst1_len]; exact hL) (oks_st1 ho (oks_hd hs)) (oks_tl hs)) k
theorem e_astore {i : Nat} {x : Nat} {L' : List xV} (hd : decode mm.2.1 pc = .ok (.astore i, 2)) (hn : Nat.ble (i + 1) mm.2.2.1 = true) (hL' : xst1 L i (xR x) = L') (k : Ex l g d mm (pc + 2) L' st A R r A' R') : Ex l g d mm pc L (xR x :: st) A R r A' R' :=
  e_step (fun p e Rm s m args below meth c H locs cells slots Q ls C hr hl hL ho hs kk => lv_astore C.1 C.2.1 hd hl (Nat.le_of_ble_eq_true hn) rfl fun ls' h' => by
    subst hL'
    exact kk ls' (xls_st1 (v := xR x) h') (by rw [xst1_len]; exact hL) (oks_st1 ho (oks_hd hs)) (oks_tl hs)) k
theorem e_iinc {i : Nat} {n x y : Int} {L' : List xV} (hd : decode mm.2.1 pc = .ok (.iinc i n, 3)) (hn : Nat.ble (i + 1) mm.2.2.1 = true) (hk : L[i]? = some (xI x)) (hy : w4 (x + n) = y) (hL' : xst1 L i (xI y) = L') (k : Ex l g d mm (pc + 3) L' st A R r A' R') : Ex l g d mm pc L st A R r A' R' :=
  e_step (fun p e Rm s m args below meth c H locs cells slots Q ls C hr hl hL ho hs kk => by
    obtain ⟨j, hj⟩ := List.getElem?_of_mem (xls_mem (g := g) (i := 0) hk rfl)
    rw [Nat.zero_add] at hj
    refine lv_iinc (v := Int32.ofInt y) C.1 C.2.1 hd hl hj (by rw [← hy, o4_w, Int32.ofInt_add]) (Nat.le_of_ble_eq_true hn) rfl fun ls' h' => ?_
    subst hL'
    exact kk ls' (xls_st1 (v := xI y) h') (by rw [xst1_len]; exact hL) (oks_st1 ho (by rw [← hy]; exact w4_in _)) hs) k
theorem e_iadd {a b : Int} (hd : decode mm.2.1 pc = .ok (.iadd, 1)) (k : Ex l g d mm (pc + 1) L (xI (w4 (a + b)) :: st) A R r A' R') : Ex l g d mm pc L (xI b :: xI a :: st) A R r A' R' :=
  e_step (fun p e Rm s m args below meth c H locs cells slots Q ls C hr hl hL ho hs kk => lv_iadd C.1 C.2.1 hd (by
    have := kk ls hl hL ho (oks_cons (w4_in _) (oks_tl (oks_tl hs)))
    simp only [List.map, xval, o4_w, Int32.ofInt_add] at this
    exact this)) k
theorem e_isub {a b : Int} (hd : decode mm.2.1 pc = .ok (.isub, 1)) (k : Ex l g d mm (pc + 1) L (xI (w4 (a - b)) :: st) A R r A' R') : Ex l g d mm pc L (xI b :: xI a :: st) A R r A' R' :=
  e_step (fun p e Rm s m args below meth c H locs cells slots Q ls C hr hl hL ho hs kk => lv_isub C.1 C.2.1 hd (by
    have := kk ls hl hL ho (oks_cons (w4_in _) (oks_tl (oks_tl hs)))
    simp only [List.map, xval, o4_w, Int32.ofInt_sub] at this
    exact this)) k
theorem e_imul {a b : Int} (hd : decode mm.2.1 pc = .ok (.imul, 1)) (k : Ex l g d mm (pc + 1) L (xI (w4 (a * b)) :: st) A R r A' R') : Ex l g d mm pc L (xI b :: xI a :: st) A R r A' R' :=
  e_step (fun p e Rm s m args below meth c H locs cells slots Q ls C hr hl hL ho hs kk => lv_imul C.1 C.2.1 hd (by
    have := kk ls hl hL ho (oks_cons (w4_in _) (oks_tl (oks_tl hs)))
    simp only [List.map, xval, o4_w, Int32.ofInt_mul] at this
    exact this)) k
end XE
section XE2
variable {l : Launch} {g : xG} {d : Nat} {mm : xM} {pc : Nat} {L st : List xV} {A : xA} {R : xN} {r : Option xV} {A' : xA} {R' : xN}
/-- the rest of a division, as the machine works it out -/
theorem o4_div {a b : Int} (ha : i4 a) (hb : i4 b) : Int32.ofInt a / Int32.ofInt b = Int32.ofInt (w4 (a.tdiv b)) := Int32.toInt_inj.mp (by rw [Int32.toInt_div, o4_in ha, o4_in hb, o4_toInt, w4_id (w4_in _)]; exact w4_b _)
theorem o4_rem {a b : Int} (ha : i4 a) (hb : i4 b) (h0 : b ≠ 0) : Int32.ofInt a - Int32.ofInt a / Int32.ofInt b * Int32.ofInt b = Int32.ofInt (a.tmod b) := by
  rw [o4_div ha hb, o4_w, ← Int32.ofInt_mul, ← Int32.ofInt_sub]
  congr 1
  rw [Int.tmod_def, Int.mul_comm b]
theorem tmod_i4 {a b : Int} (hb : i4 b) (h0 : b ≠ 0) : i4 (a.tmod b) := by
  unfold i4 at hb ⊢
  have h1 := Int.natAbs_tmod a b
  have h2 : (a.tmod b).natAbs < b.natAbs := by
    rw [h1]; exact Nat.mod_lt _ (by omega)
  omega
theorem e_idiv {a b : Int} (hd : decode mm.2.1 pc = .ok (.idiv, 1)) (h0 : b ≠ 0) (k : Ex l g d mm (pc + 1) L (xI (w4 (a.tdiv b)) :: st) A R r A' R') : Ex l g d mm pc L (xI b :: xI a :: st) A R r A' R' :=
  e_step (fun p e Rm s m args below meth c H locs cells slots Q ls C hr hl hL ho hs kk => lv_idiv C.1 C.2.1 hd (fun h => h0 ((o4_z (oks_hd hs)).mp h)) (by
    have := kk ls hl hL ho (oks_cons (w4_in _) (oks_tl (oks_tl hs)))
    rw [o4_div (oks_hd (oks_tl hs)) (oks_hd hs)]
    exact this)) k
theorem e_irem {a b : Int} (hd : decode mm.2.1 pc = .ok (.irem, 1)) (h0 : b ≠ 0) (k : Ex l g d mm (pc + 1) L (xI (a.tmod b) :: st) A R r A' R') : Ex l g d mm pc L (xI b :: xI a :: st) A R r A' R' :=
  e_step (fun p e Rm s m args below meth c H locs cells slots Q ls C hr hl hL ho hs kk => lv_irem C.1 C.2.1 hd (fun h => h0 ((o4_z (oks_hd hs)).mp h)) (by
    have := kk ls hl hL ho (oks_cons (tmod_i4 (oks_hd hs) h0) (oks_tl (oks_tl hs)))
    rw [o4_rem (oks_hd (oks_tl hs)) (oks_hd hs) h0]
    exact this)) k
def b4and (a b : Int) : Int := (Int32.ofInt a &&& Int32.ofInt b).toInt
def b4or (a b : Int) : Int := (Int32.ofInt a ||| Int32.ofInt b).toInt
def b4xor (a b : Int) : Int := (Int32.ofInt a ^^^ Int32.ofInt b).toInt
def b4shl (a b : Int) : Int := (Int32.ofInt a <<< (Int32.ofInt b &&& 31)).toInt
def b4shr (a b : Int) : Int := (Int32.ofInt a >>> (Int32.ofInt b &&& 31)).toInt
def b4ushr (a b : Int) : Int := ((Int32.ofInt a).toUInt32 >>> ((Int32.ofInt b).toUInt32 &&& Int32.toUInt32 31)).toInt32.toInt
def xcmp (a b : Int) : Int := if b < a then 1 else if a = b then 0 else -1
theorem e_iand {a b : Int} (hd : decode mm.2.1 pc = .ok (.iand, 1)) (k : Ex l g d mm (pc + 1) L (xI (b4and a b) :: st) A R r A' R') : Ex l g d mm pc L (xI b :: xI a :: st) A R r A' R' :=
  e_step (fun p e Rm s m args below meth c H locs cells slots Q ls C hr hl hL ho hs kk => lv_iand C.1 C.2.1 hd (by
    have := kk ls hl hL ho (oks_cons (i4_of _) (oks_tl (oks_tl hs)))
    simp only [List.map, xval, b4and, Int32.ofInt_toInt] at this
    exact this)) k
theorem e_ior {a b : Int} (hd : decode mm.2.1 pc = .ok (.ior, 1)) (k : Ex l g d mm (pc + 1) L (xI (b4or a b) :: st) A R r A' R') : Ex l g d mm pc L (xI b :: xI a :: st) A R r A' R' :=
  e_step (fun p e Rm s m args below meth c H locs cells slots Q ls C hr hl hL ho hs kk => lv_ior C.1 C.2.1 hd (by
    have := kk ls hl hL ho (oks_cons (i4_of _) (oks_tl (oks_tl hs)))
    simp only [List.map, xval, b4or, Int32.ofInt_toInt] at this
    exact this)) k
theorem e_ixor {a b : Int} (hd : decode mm.2.1 pc = .ok (.ixor, 1)) (k : Ex l g d mm (pc + 1) L (xI (b4xor a b) :: st) A R r A' R') : Ex l g d mm pc L (xI b :: xI a :: st) A R r A' R' :=
  e_step (fun p e Rm s m args below meth c H locs cells slots Q ls C hr hl hL ho hs kk => lv_ixor C.1 C.2.1 hd (by
    have := kk ls hl hL ho (oks_cons (i4_of _) (oks_tl (oks_tl hs)))
    simp only [List.map, xval, b4xor, Int32.ofInt_toInt] at this
    exact this)) k
theorem e_ishl {a b : Int} (hd : decode mm.2.1 pc = .ok (.ishl, 1)) (k : Ex l g d mm (pc + 1) L (xI (b4shl a b) :: st) A R r A' R') : Ex l g d mm pc L (xI b :: xI a :: st) A R r A' R' :=
  e_step (fun p e Rm s m args below meth c H locs cells slots Q ls C hr hl hL ho hs kk => lv_ishl C.1 C.2.1 hd (by
    have := kk ls hl hL ho (oks_cons (i4_of _) (oks_tl (oks_tl hs)))
    simp only [List.map, xval, b4shl, Int32.ofInt_toInt] at this
    exact this)) k
theorem e_ishr {a b : Int} (hd : decode mm.2.1 pc = .ok (.ishr, 1)) (k : Ex l g d mm (pc + 1) L (xI (b4shr a b) :: st) A R r A' R') : Ex l g d mm pc L (xI b :: xI a :: st) A R r A' R' :=
  e_step (fun p e Rm s m args below meth c H locs cells slots Q ls C hr hl hL ho hs kk => lv_ishr C.1 C.2.1 hd (by
    have := kk ls hl hL ho (oks_cons (i4_of _) (oks_tl (oks_tl hs)))
    simp only [List.map, xval, b4shr, Int32.ofInt_toInt] at this
    exact this)) k
theorem e_iushr {a b : Int} (hd : decode mm.2.1 pc = .ok (.iushr, 1)) (k : Ex l g d mm (pc + 1) L (xI (b4ushr a b) :: st) A R r A' R') : Ex l g d mm pc L (xI b :: xI a :: st) A R r A' R' :=
  e_step (fun p e Rm s m args below meth c H locs cells slots Q ls C hr hl hL ho hs kk => lv_iushr (v := ((Int32.ofInt a).toUInt32 >>> ((Int32.ofInt b).toUInt32 &&& Int32.toUInt32 31)).toInt32) C.1 C.2.1 hd rfl (by
    have := kk ls hl hL ho (oks_cons (i4_of _) (oks_tl (oks_tl hs)))
    simp only [List.map, xval, b4ushr, Int32.ofInt_toInt] at this
    exact this)) k
theorem e_i2l {a : Int} (hd : decode mm.2.1 pc = .ok (.i2l, 1)) (k : Ex l g d mm (pc + 1) L (xL a :: st) A R r A' R') : Ex l g d mm pc L (xI a :: st) A R r A' R' :=
  e_step (fun p e Rm s m args below meth c H locs cells slots Q ls C hr hl hL ho hs kk => lv_i2l (v := Int64.ofInt a) C.1 C.2.1 hd (Int64.toInt_inj.mp (by rw [Int32.toInt_toInt64, o4_in (oks_hd hs), o8_in (i4_8 (oks_hd hs))]))
    (kk ls hl hL ho (oks_cons (show okv (xL a) from i4_8 (oks_hd hs)) (oks_tl hs)))) k
theorem o8_cmp {a b : Int} (ha : i8 a) (hb : i8 b) : lg_cmp (Int64.ofInt a) (Int64.ofInt b) = Int32.ofInt (xcmp a b) := by
  unfold lg_cmp xcmp
  simp only [gt_iff_lt, Int64.lt_iff_toInt_lt, ← Int64.toInt_inj, o8_in ha, o8_in hb]
  split
  · rfl
  · split
    · rfl
    · rfl
theorem xcmp_in (a b : Int) : i4 (xcmp a b) := by
  unfold xcmp i4
  split
  · omega
  · split <;> omega
theorem e_lcmp {a b : Int} (hd : decode mm.2.1 pc = .ok (.lcmp, 1)) (k : Ex l g d mm (pc + 1) L (xI (xcmp a b) :: st) A R r A' R') : Ex l g d mm pc L (xL b :: xL a :: st) A R r A' R' :=
  e_step (fun p e Rm s m args below meth c H locs cells slots Q ls C hr hl hL ho hs kk => W.lcmp C.1 C.2.1 hd (by
    rw [o8_cmp (oks_hd (oks_tl hs)) (oks_hd hs)]
    exact kk ls hl hL ho (oks_cons (xcmp_in _ _) (oks_tl (oks_tl hs))))) k
theorem e_ladd {a b : Int} (hd : decode mm.2.1 pc = .ok (.ladd, 1)) (k : Ex l g d mm (pc + 1) L (xL (w8 (a + b)) :: st) A R r A' R') : Ex l g d mm pc L (xL b :: xL a :: st) A R r A' R' :=
  e_step (fun p e Rm s m args below meth c H locs cells slots Q ls C hr hl hL ho hs kk => lv_ladd C.1 C.2.1 hd (by
    have := kk ls hl hL ho (oks_cons (w8_in _) (oks_tl (oks_tl hs)))
    simp only [List.map, xval, o8_w, Int64.ofInt_add] at this
    exact this)) k
theorem e_lsub {a b : Int} (hd : decode mm.2.1 pc = .ok (.lsub, 1)) (k : Ex l g d mm (pc + 1) L (xL (w8 (a - b)) :: st) A R r A' R') : Ex l g d mm pc L (xL b :: xL a :: st) A R r A' R' :=
  e_step (fun p e Rm s m args below meth c H locs cells slots Q ls C hr hl hL ho hs kk => lv_lsub C.1 C.2.1 hd (by
    have := kk ls hl hL ho (oks_cons (w8_in _) (oks_tl (oks_tl hs)))
    simp only [List.map, xval, o8_w, Int64.ofInt_sub] at this
    exact this)) k
theorem e_lmul {a b : Int} (hd : decode mm.2.1 pc = .ok (.lmul, 1)) (k : Ex l g d mm (pc + 1) L (xL (w8 (a * b)) :: st) A R r A' R') : Ex l g d mm pc L (xL b :: xL a :: st) A R r A' R' :=
  e_step (fun p e Rm s m args below meth c H locs cells slots Q ls C hr hl hL ho hs kk => lv_lmul C.1 C.2.1 hd (by
    have := kk ls hl hL ho (oks_cons (w8_in _) (oks_tl (oks_tl hs)))
    simp only [List.map, xval, o8_w, Int64.ofInt_mul] at this
    exact this)) k
theorem e_dupI {a : Int} (hd : decode mm.2.1 pc = .ok (.dup, 1)) (k : Ex l g d mm (pc + 1) L (xI a :: xI a :: st) A R r A' R') : Ex l g d mm pc L (xI a :: st) A R r A' R' :=
  e_step (fun p e Rm s m args below meth c H locs cells slots Q ls C hr hl hL ho hs kk => lv_dup C.1 C.2.1 hd rfl (kk ls hl hL ho (oks_cons (oks_hd hs) hs))) k
theorem e_dupR {a : Nat} (hd : decode mm.2.1 pc = .ok (.dup, 1)) (k : Ex l g d mm (pc + 1) L (xR a :: xR a :: st) A R r A' R') : Ex l g d mm pc L (xR a :: st) A R r A' R' :=
  e_step (fun p e Rm s m args below meth c H locs cells slots Q ls C hr hl hL ho hs kk => lv_dup C.1 C.2.1 hd rfl (kk ls hl hL ho (oks_cons (oks_hd hs) hs))) k
theorem e_dup2 {a : Int} {b : Nat} (hd : decode mm.2.1 pc = .ok (.dup2, 1)) (k : Ex l g d mm (pc + 1) L (xI a :: xR b :: xI a :: xR b :: st) A R r A' R') : Ex l g d mm pc L (xI a :: xR b :: st) A R r A' R' :=
  e_step (fun p e Rm s m args below meth c H locs cells slots Q ls C hr hl hL ho hs kk => lv_dup2_11 C.1 C.2.1 hd rfl rfl (kk ls hl hL ho (oks_cons (oks_hd hs) (oks_cons (oks_hd (oks_tl hs)) hs)))) k
theorem e_pop {a : Int} (hd : decode mm.2.1 pc = .ok (.pop, 1)) (k : Ex l g d mm (pc + 1) L st A R r A' R') : Ex l g d mm pc L (xI a :: st) A R r A' R' :=
  e_step (fun p e Rm s m args below meth c H locs cells slots Q ls C hr hl hL ho hs kk => lv_pop C.1 C.2.1 hd rfl (kk ls hl hL ho (oks_tl hs))) k
theorem e_goto {off : Int} {tgt : Nat} (hd : decode mm.2.1 pc = .ok (.goto off, 3)) (ht : (pc : Int) + off = (tgt : Int)) (k : Ex l g d mm tgt L st A R r A' R') : Ex l g d mm pc L st A R r A' R' :=
  e_step (fun p e Rm s m args below meth c H locs cells slots Q ls C hr hl hL ho hs kk => lv_goto C.1 C.2.1 hd ht (kk ls hl hL ho hs)) k
theorem e_ifeq {a off : Int} {tgt : Nat} (hd : decode mm.2.1 pc = .ok (.ifCond .eq off, 3)) (ht : (pc : Int) + off = (tgt : Int)) (kt : a = 0 → Ex l g d mm tgt L st A R r A' R') (kf : ¬ a = 0 → Ex l g d mm (pc + 3) L st A R r A' R') : Ex l g d mm pc L (xI a :: st) A R r A' R' :=
  e_br (P := a = 0) (fun p e Rm s m args below meth c H locs cells slots Q ls C hs kt kf => lv_if_eq C.1 C.2.1 hd ht (fun h => kt ((o4_z (oks_hd hs)).mp h) (oks_tl hs)) (fun h => kf (fun q => h ((o4_z (oks_hd hs)).mpr q)) (oks_tl hs))) kt kf
theorem e_ifne {a off : Int} {tgt : Nat} (hd : decode mm.2.1 pc = .ok (.ifCond .ne off, 3)) (ht : (pc : Int) + off = (tgt : Int)) (kf : a = 0 → Ex l g d mm (pc + 3) L st A R r A' R') (kt : ¬ a = 0 → Ex l g d mm tgt L st A R r A' R') : Ex l g d mm pc L (xI a :: st) A R r A' R' :=
  e_br (P := a = 0) (fun p e Rm s m args below meth c H locs cells slots Q ls C hs kt kf => lv_if_ne C.1 C.2.1 hd ht (fun h => kf (fun q => h ((o4_z (oks_hd hs)).mpr q)) (oks_tl hs)) (fun h => kt ((o4_z (oks_hd hs)).mp h) (oks_tl hs))) kf kt
theorem e_iflt {a off : Int} {tgt : Nat} (hd : decode mm.2.1 pc = .ok (.ifCond .lt off, 3)) (ht : (pc : Int) + off = (tgt : Int)) (kt : a < 0 → Ex l g d mm tgt L st A R r A' R') (kf : ¬ a < 0 → Ex l g d mm (pc + 3) L st A R r A' R') : Ex l g d mm pc L (xI a :: st) A R r A' R' :=
  e_br (P := a < 0) (fun p e Rm s m args below meth c H locs cells slots Q ls C hs kt kf => lv_if_lt C.1 C.2.1 hd ht (fun h => kt ((o4_lt (oks_hd hs) i4_0).mp h) (oks_tl hs)) (fun h => kf (fun q => h ((o4_lt (oks_hd hs) i4_0).mpr q)) (oks_tl hs))) kt kf
theorem e_ifge {a off : Int} {tgt : Nat} (hd : decode mm.2.1 pc = .ok (.ifCond .ge off, 3)) (ht : (pc : Int) + off = (tgt : Int)) (kt : 0 ≤ a → Ex l g d mm tgt L st A R r A' R') (kf : ¬ 0 ≤ a → Ex l g d mm (pc + 3) L st A R r A' R') : Ex l g d mm pc L (xI a :: st) A R r A' R' :=
  e_br (P := 0 ≤ a) (fun p e Rm s m args below meth c H locs cells slots Q ls C hs kt kf => lv_if_ge C.1 C.2.1 hd ht (fun h => kt ((o4_le i4_0 (oks_hd hs)).mp h) (oks_tl hs)) (fun h => kf (fun q => h ((o4_le i4_0 (oks_hd hs)).mpr q)) (oks_tl hs))) kt kf
theorem e_ifgt {a off : Int} {tgt : Nat} (hd : decode mm.2.1 pc = .ok (.ifCond .gt off, 3)) (ht : (pc : Int) + off = (tgt : Int)) (kt : 0 < a → Ex l g d mm tgt L st A R r A' R') (kf : ¬ 0 < a → Ex l g d mm (pc + 3) L st A R r A' R') : Ex l g d mm pc L (xI a :: st) A R r A' R' :=
  e_br (P := 0 < a) (fun p e Rm s m args below meth c H locs cells slots Q ls C hs kt kf => lv_if_gt C.1 C.2.1 hd ht (fun h => kt ((o4_lt i4_0 (oks_hd hs)).mp h) (oks_tl hs)) (fun h => kf (fun q => h ((o4_lt i4_0 (oks_hd hs)).mpr q)) (oks_tl hs))) kt kf
theorem e_ifle {a off : Int} {tgt : Nat} (hd : decode mm.2.1 pc = .ok (.ifCond .le off, 3)) (ht : (pc : Int) + off = (tgt : Int)) (kt : a ≤ 0 → Ex l g d mm tgt L st A R r A' R') (kf : ¬ a ≤ 0 → Ex l g d mm (pc + 3) L st A R r A' R') : Ex l g d mm pc L (xI a :: st) A R r A' R' :=
  e_br (P := a ≤ 0) (fun p e Rm s m args below meth c H locs cells slots Q ls C hs kt kf => lv_if_le C.1 C.2.1 hd ht (fun h => kt ((o4_le (oks_hd hs) i4_0).mp h) (oks_tl hs)) (fun h => kf (fun q => h ((o4_le (oks_hd hs) i4_0).mpr q)) (oks_tl hs))) kt kf
theorem e_ceq {a b off : Int} {tgt : Nat} (hd : decode mm.2.1 pc = .ok (.if_icmp .eq off, 3)) (ht : (pc : Int) + off = (tgt : Int)) (kt : a = b → Ex l g d mm tgt L st A R r A' R') (kf : ¬ a = b → Ex l g d mm (pc + 3) L st A R r A' R') : Ex l g d mm pc L (xI b :: xI a :: st) A R r A' R' :=
  e_br (P := a = b) (fun p e Rm s m args below meth c H locs cells slots Q ls C hs kt kf => lv_icmp_eq C.1 C.2.1 hd ht (fun h => kt ((o4_inj (oks_hd (oks_tl hs)) (oks_hd hs)).mp h) (oks_tl (oks_tl hs))) (fun h => kf (fun q => h ((o4_inj (oks_hd (oks_tl hs)) (oks_hd hs)).mpr q)) (oks_tl (oks_tl hs)))) kt kf
theorem e_cne {a b off : Int} {tgt : Nat} (hd : decode mm.2.1 pc = .ok (.if_icmp .ne off, 3)) (ht : (pc : Int) + off = (tgt : Int)) (kf : a = b → Ex l g d mm (pc + 3) L st A R r A' R') (kt : ¬ a = b → Ex l g d mm tgt L st A R r A' R') : Ex l g d mm pc L (xI b :: xI a :: st) A R r A' R' :=
  e_br (P := a = b) (fun p e Rm s m args below meth c H locs cells slots Q ls C hs kt kf => lv_icmp_ne C.1 C.2.1 hd ht (fun h => kf (fun q => h ((o4_inj (oks_hd (oks_tl hs)) (oks_hd hs)).mpr q)) (oks_tl (oks_tl hs))) (fun h => kt ((o4_inj (oks_hd (oks_tl hs)) (oks_hd hs)).mp h) (oks_tl (oks_tl hs)))) kf kt
theorem e_clt {a b off : Int} {tgt : Nat} (hd : decode mm.2.1 pc = .ok (.if_icmp .lt off, 3)) (ht : (pc : Int) + off = (tgt : Int)) (kt : a < b → Ex l g d mm tgt L st A R r A' R') (kf : ¬ a < b → Ex l g d mm (pc + 3) L st A R r A' R') : Ex l g d mm pc L (xI b :: xI a :: st) A R r A' R' :=
  e_br (P := a < b) (fun p e Rm s m args below meth c H locs cells slots Q ls C hs kt kf => lv_icmp_lt C.1 C.2.1 hd ht (fun h => kt ((o4_lt (oks_hd (oks_tl hs)) (oks_hd hs)).mp h) (oks_tl (oks_tl hs))) (fun h => kf (fun q => h ((o4_lt (oks_hd (oks_tl hs)) (oks_hd hs)).mpr q)) (oks_tl (oks_tl hs)))) kt kf
theorem e_cge {a b off : Int} {tgt : Nat} (hd : decode mm.2.1 pc = .ok (.if_icmp .ge off, 3)) (ht : (pc : Int) + off = (tgt : Int)) (kt : b ≤ a → Ex l g d mm tgt L st A R r A' R') (kf : ¬ b ≤ a → Ex l g d mm (pc + 3) L st A R r A' R') : Ex l g d mm pc L (xI b :: xI a :: st) A R r A' R' :=
  e_br (P := b ≤ a) (fun p e Rm s m args below meth c H locs cells slots Q ls C hs kt kf => lv_icmp_ge C.1 C.2.1 hd ht (fun h => kt ((o4_le (oks_hd hs) (oks_hd (oks_tl hs))).mp h) (oks_tl (oks_tl hs))) (fun h => kf (fun q => h ((o4_le (oks_hd hs) (oks_hd (oks_tl hs))).mpr q)) (oks_tl (oks_tl hs)))) kt kf
theorem e_cgt {a b off : Int} {tgt : Nat} (hd : decode mm.2.1 pc = .ok (.if_icmp .gt off, 3)) (ht : (pc : Int) + off = (tgt : Int)) (kt : b < a → Ex l g d mm tgt L st A R r A' R') (kf : ¬ b < a → Ex l g d mm (pc + 3) L st A R r A' R') : Ex l g d mm pc L (xI b :: xI a :: st) A R r A' R' :=
  e_br (P := b < a) (fun p e Rm s m args below meth c H locs cells slots Q ls C hs kt kf => lv_icmp_gt C.1 C.2.1 hd ht (fun h => kt ((o4_lt (oks_hd hs) (oks_hd (oks_tl hs))).mp h) (oks_tl (oks_tl hs))) (fun h => kf (fun q => h ((o4_lt (oks_hd hs) (oks_hd (oks_tl hs))).mpr q)) (oks_tl (oks_tl hs)))) kt kf
theorem e_cle {a b off : Int} {tgt : Nat} (hd : decode mm.2.1 pc = .ok (.if_icmp .le off, 3)) (ht : (pc : Int) + off = (tgt : Int)) (kt : a ≤ b → Ex l g d mm tgt L st A R r A' R') (kf : ¬ a ≤ b → Ex l g d mm (pc + 3) L st A R r A' R') : Ex l g d mm pc L (xI b :: xI a :: st) A R r A' R' :=
  e_br (P := a ≤ b) (fun p e Rm s m args below meth c H locs cells slots Q ls C hs kt kf => lv_icmp_le C.1 C.2.1 hd ht (fun h => kt ((o4_le (oks_hd (oks_tl hs)) (oks_hd hs)).mp h) (oks_tl (oks_tl hs))) (fun h => kf (fun q => h ((o4_le (oks_hd (oks_tl hs)) (oks_hd hs)).mpr q)) (oks_tl (oks_tl hs)))) kt kf
theorem e_tout {dflt lo hi : Int} {offs : Array Int} {len tgt : Nat} {a : Int} (hd : decode mm.2.1 pc = .ok (.tableswitch dflt lo hi offs, len)) (h : a < lo ∨ hi < a) (ht : (pc : Int) + dflt = (tgt : Int)) (k : Ex l g d mm tgt L st A R r A' R') : Ex l g d mm pc L (xI a :: st) A R r A' R' :=
  e_step (fun p e Rm s m args below meth c H locs cells slots Q ls C hr hl hL ho hs kk => lv_tableOut C.1 C.2.1 hd (by rw [o4_in (oks_hd hs)]; exact h) ht (kk ls hl hL ho (oks_tl hs))) k
theorem e_tin {dflt lo hi : Int} {offs : Array Int} {len tgt : Nat} {a off : Int} (hd : decode mm.2.1 pc = .ok (.tableswitch dflt lo hi offs, len)) (h1 : ¬ a < lo) (h2 : ¬ hi < a) (ho' : offs[(a - lo).toNat]? = some off) (ht : (pc : Int) + off = (tgt : Int)) (k : Ex l g d mm tgt L st A R r A' R') : Ex l g d mm pc L (xI a :: st) A R r A' R' :=
  e_step (fun p e Rm s m args below meth c H locs cells slots Q ls C hr hl hL ho hs kk => lv_tableIn C.1 C.2.1 hd (by rw [o4_in (oks_hd hs)]; exact h1) (by rw [o4_in (oks_hd hs)]; exact h2) (by rw [o4_in (oks_hd hs)]; exact ho') ht (kk ls hl hL ho (oks_tl hs))) k
theorem e_look {dflt : Int} {ps : Array (Int × Int)} {len : Nat} {a off : Int} {tgt : Nat} (hd : decode mm.2.1 pc = .ok (.lookupswitch dflt ps, len)) (hp : (ps.toList.zip (ps.toList.drop 1)).all (fun (a, next) => a.1 < next.1) = true) (ho' : Op.lookupswitch.offset ps.toList dflt a = off) (ht : (pc : Int) + off = (tgt : Int)) (k : Ex l g d mm tgt L st A R r A' R') : Ex l g d mm pc L (xI a :: st) A R r A' R' :=
  e_step (fun p e Rm s m args below meth c H locs cells slots Q ls C hr hl hL ho hs kk => lv_lookup C.1 C.2.1 hd hp (by rw [o4_in (oks_hd hs)]; exact ho') ht (kk ls hl hL ho (oks_tl hs))) k
/-- the end: an answer is handed back -/
theorem e_iret {a : Int} (hd : decode mm.2.1 pc = .ok (.ireturn, 1)) : Ex l g d mm pc L [xI a] A R (some (xI a)) A R :=
  ⟨⟨Nat.le_refl _, Nat.le_refl _⟩, fun p e Rm s m args below meth c H locs cells slots Q ls C hr hl hL ho hs h1 h2 kk => by
    have := kk H locs pc ls [.int (Int32.ofInt a)] hr ⟨hd, rfl, oks_hd hs⟩
    rw [Nat.sub_self, Nat.sub_self] at this
    exact this⟩
theorem e_vret (hd : decode mm.2.1 pc = .ok (.return_, 1)) : Ex l g d mm pc L [] A R none A R :=
  ⟨⟨Nat.le_refl _, Nat.le_refl _⟩, fun p e Rm s m args below meth c H locs cells slots Q ls C hr hl hL ho hs h1 h2 kk => by
    have := kk H locs pc ls [] hr ⟨hd, rfl⟩
    rw [Nat.sub_self, Nat.sub_self] at this
    exact this⟩
theorem e_aret {a : Nat} (hd : decode mm.2.1 pc = .ok (.areturn, 1)) : Ex l g d mm pc L [xR a] A R (some (xR a)) A R :=
  ⟨⟨Nat.le_refl _, Nat.le_refl _⟩, fun p e Rm s m args below meth c H locs cells slots Q ls C hr hl hL ho hs h1 h2 kk => by
    have := kk H locs pc ls [.ref (xB g + a)] hr ⟨hd, rfl⟩
    rw [Nat.sub_self, Nat.sub_self] at this
    exact this⟩
theorem e_aretS {a : Nat} (hd : decode mm.2.1 pc = .ok (.areturn, 1)) : Ex l g d mm pc L [xS a] A R (some (xS a)) A R :=
  ⟨⟨Nat.le_refl _, Nat.le_refl _⟩, fun p e Rm s m args below meth c H locs cells slots Q ls C hr hl hL ho hs h1 h2 kk => by
    have := kk H locs pc ls [va_rf (g.2.2.2.1 a)] hr ⟨hd, rfl⟩
    rw [Nat.sub_self, Nat.sub_self] at this
    exact this⟩
end XE2
