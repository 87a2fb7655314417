/-! Ev: Ex with an answer that a function works out; the rows that a program lays. -/
def xz (b : Bool) : Int := if b = true then 1 else 0
theorem xz01 (b : Bool) : xz b = 0 ∨ xz b = 1 := by cases b <;> simp [xz]
theorem xz_in (b : Bool) : i4 (xz b) := by cases b <;> simp [xz, i4]
def xlet {α β : Type} (a : α) (f : α → β) : β := f a
def xfgt (L : List xV) (is : List Nat) : List xV := is.foldl (fun L i => L.set i xU) L
theorem xfg1 {g : xG} {ls : Array Slot} {n : Nat} {L : List xV} {i : Nat} (h : lv_has ls n (xls g 0 L)) : lv_has ls n (xls g 0 (L.set i xU)) := ⟨h.1, h.2.1, fun q hq => by
  obtain ⟨j, v, rfl, hj, hv⟩ := xls_of hq
  rw [List.getElem?_set] at hj
  split at hj
  · split at hj
    · cases hj; simp [xset] at hv
    · cases hj
  · exact h.2.2 _ (by simpa using xls_mem (g := g) (i := 0) hj hv)⟩
theorem oks_set {L : List xV} {i : Nat} (h : oks L) : oks (L.set i xU) := fun v hv => by
  rcases List.mem_or_eq_of_mem_set hv with h1 | h1
  · exact h v h1
  · rw [h1]; exact trivial
def xMVS (own : String) (idx : Nat) (cal : xM) (n : Nat) : Prop := xMc cal n ∧ Cond.methodLink own idx cal.1 ∈ wG ∧ Cond.instanceMethod cal.1 ∈ wG ∧ Cond.selects cal.1.cls cal.1 cal.1 ∈ wG ∧ cal.1.cls = "java/lang/String"
section XEV
variable {α β : Type} {l : Launch} {g : xG} {d : Nat} {mm : xM} {pc : Nat} {L st : List xV} {A : xA} {R : xN}
theorem e_fg1 {i : Nat} {r : Option xV} {A' : xA} {R' : xN} (k : Ex l g d mm pc (L.set i xU) st A R r A' R') : Ex l g d mm pc L st A R r A' R' :=
  e_step (fun p e Rm s m args below meth c H locs cells slots Q ls C hr hl hL ho hs kk => kk ls (xfg1 hl) (by rw [List.length_set]; exact hL) (oks_set ho) hs) k
theorem e_fg {r : Option xV} {A' : xA} {R' : xN} : ∀ (is : List Nat) {L : List xV}, Ex l g d mm pc (xfgt L is) st A R r A' R' → Ex l g d mm pc L st A R r A' R' := by
  intro is
  induction is with
  | nil => intro L k; exact k
  | cons i is ih => intro L k; exact e_fg1 (ih k)
def Ev {α : Type} (l : Launch) (g : xG) (d : Nat) (mm : xM) (pc : Nat) (L st : List xV) (A : xA) (R : xN) (rr : α → Option xV) (RR : α → xN) (res : Option α) : Prop := ∀ v, res = some v → Ex l g d mm pc L st A R (rr v) A (RR v)
variable {rr : α → Option xV} {RR : α → xN} {X Y : Option α}
theorem ev_st {pc' : Nat} {L' st' : List xV} {R1 : xN} (h : ∀ (r : Option xV) (A' : xA) (R' : xN), Ex l g d mm pc' L' st' A R1 r A' R' → Ex l g d mm pc L st A R r A' R') (k : Ev l g d mm pc' L' st' A R1 rr RR X) : Ev l g d mm pc L st A R rr RR X := fun v hv => h _ _ _ (k v hv)
theorem ev_ret {v : α} (h : Ex l g d mm pc L st A R (rr v) A (RR v)) : Ev l g d mm pc L st A R rr RR (some v) := fun w hw => by cases hw; exact h
theorem ev_none : Ev l g d mm pc L st A R rr RR none := fun w hw => by cases hw
theorem ev_letR {X : xN → Option α} (k : ∀ R1, R = R1 → Ev l g d mm pc L st A R1 rr RR (X R1)) : Ev l g d mm pc L st A R rr RR (xlet R X) := k R rfl
theorem ev_leti {t : Int} {X : Int → Option α} (k : ∀ x, t = x → Ev l g d mm pc L (xI x :: st) A R rr RR (X x)) : Ev l g d mm pc L (xI t :: st) A R rr RR (xlet t X) := k t rfl
theorem ev_letx {t : Int} {X : Int → Option α} (k : ∀ x, t = x → Ev l g d mm pc L st A R rr RR (X x)) : Ev l g d mm pc L st A R rr RR (xlet t X) := k t rfl
theorem ev_chk {P : Prop} [Decidable P] (k : P → Ev l g d mm pc L st A R rr RR X) : Ev l g d mm pc L st A R rr RR (if P then X else none) := by
  by_cases h : P
  · rw [if_pos h]; exact k h
  · rw [if_neg h]; exact ev_none
theorem ev_ite {P : Prop} [Decidable P] (kt : P → Ev l g d mm pc L st A R rr RR X) (kf : ¬ P → Ev l g d mm pc L st A R rr RR Y) : Ev l g d mm pc L st A R rr RR (if P then X else Y) := by
  by_cases h : P
  · rw [if_pos h]; exact kt h
  · rw [if_neg h]; exact kf h
/-- a branch: an instruction that goes two ways, and a choice of the function -/
theorem ev_br2 {P : Prop} [Decidable P] {pct pcf : Nat} {st' : List xV} (h : ∀ (r : Option xV) (A' : xA) (R' : xN), (P → Ex l g d mm pct L st' A R r A' R') → (¬ P → Ex l g d mm pcf L st' A R r A' R') → Ex l g d mm pc L st A R r A' R') (kt : P → Ev l g d mm pct L st' A R rr RR X) (kf : ¬ P → Ev l g d mm pcf L st' A R rr RR Y) : Ev l g d mm pc L st A R rr RR (if P then X else Y) := by
  intro v hv
  by_cases hP : P
  · rw [if_pos hP] at hv
    exact h _ _ _ (fun h => kt h v hv) (fun h => absurd hP h)
  · rw [if_neg hP] at hv
    exact h _ _ _ (fun h => absurd h hP) (fun h => kf h v hv)
theorem xz_0 {b : Bool} : xz b = 0 ↔ ¬ b = true := by cases b <;> simp [xz]
theorem e_ifeqz {b : Bool} {off : Int} {tgt : Nat} {r : Option xV} {A' : xA} {R' : xN} (hd : decode mm.2.1 pc = .ok (.ifCond .eq off, 3)) (ht : (pc : Int) + off = (tgt : Int)) (kt : b = true → Ex l g d mm (pc + 3) L st A R r A' R') (kf : ¬ b = true → Ex l g d mm tgt L st A R r A' R') : Ex l g d mm pc L (xI (xz b) :: st) A R r A' R' :=
  e_ifeq hd ht (fun h => kf (xz_0.mp h)) (fun h => kt (by cases b <;> simp [xz] at h ⊢))
theorem e_ifnez {b : Bool} {off : Int} {tgt : Nat} {r : Option xV} {A' : xA} {R' : xN} (hd : decode mm.2.1 pc = .ok (.ifCond .ne off, 3)) (ht : (pc : Int) + off = (tgt : Int)) (kt : b = true → Ex l g d mm tgt L st A R r A' R') (kf : ¬ b = true → Ex l g d mm (pc + 3) L st A R r A' R') : Ex l g d mm pc L (xI (xz b) :: st) A R r A' R' :=
  e_ifne hd ht (fun h => kf (xz_0.mp h)) (fun h => kt (by cases b <;> simp [xz] at h ⊢))
theorem ev_callV {cal : xM} {idx n ci b : Nat} {As L0 st0 : List xV} {rr1 : β → Option xV} {RR1 : β → xN} {f : Option β} {X : β → Option α} (stv : β → List xV) (hd : decode mm.2.1 pc = .ok (.invokevirtual idx, 3)) (hM : xMV mm.1.cls idx cal n ci) (hkb : A.1 b = (0, ci)) (hn : As.length = n) (hst0 : As.reverse ++ (xR b :: st) = st0) (hL0 : xent (xR b :: As) cal.2.2.1 = L0) (hset : (xR b :: As).all xset = true) (hlen : Nat.ble (xexp (xR b :: As)).length cal.2.2.1 = true) (hsz : Nat.ble (xsz st) 8 = true) (h1 : Ev l g d cal 0 L0 [] A R rr1 RR1 f) (hokr : ∀ v, okr cal.2.2.2 (rr1 v)) (hsv : ∀ v, (rr1 v).toList ++ st = stv v) (kk : ∀ v, Ev l g (d + 1) mm (pc + 3) L (stv v) A (RR1 v) rr RR (X v)) : Ev l g (d + 1) mm pc L st0 A R rr RR (f.bind X) := by
  intro v hv
  obtain ⟨w, hw, hx⟩ := Option.bind_eq_some_iff.mp hv
  exact e_callV hd hM hkb hn hst0 hL0 hset hlen hsz (hokr w) (h1 w hw) (by rw [hsv w]; exact kk w v hx)
theorem ev_callS {cal : xM} {idx n : Nat} {As L0 st0 : List xV} {rr1 : β → Option xV} {RR1 : β → xN} {f : Option β} {X : β → Option α} (stv : β → List xV) (hd : decode mm.2.1 pc = .ok (.invokestatic idx, 3)) (hM : xMS mm.1.cls idx cal n) (hn : As.length = n) (hst0 : As.reverse ++ st = st0) (hL0 : xent As cal.2.2.1 = L0) (hset : As.all xset = true) (hlen : Nat.ble (xexp As).length cal.2.2.1 = true) (hsz : Nat.ble (xsz st) 8 = true) (h1 : Ev l g d cal 0 L0 [] A R rr1 RR1 f) (hokr : ∀ v, okr cal.2.2.2 (rr1 v)) (hsv : ∀ v, (rr1 v).toList ++ st = stv v) (kk : ∀ v, Ev l g (d + 1) mm (pc + 3) L (stv v) A (RR1 v) rr RR (X v)) : Ev l g (d + 1) mm pc L st0 A R rr RR (f.bind X) := by
  intro v hv
  obtain ⟨w, hw, hx⟩ := Option.bind_eq_some_iff.mp hv
  exact e_callS hd hM hn hst0 hL0 hset hlen hsz (hokr w) (h1 w hw) (by rw [hsv w]; exact kk w v hx)
theorem ev_callN {cal : xM} {idx n : Nat} {As L0 st0 : List xV} {rr1 : β → Option xV} {RR1 : β → xN} {f : Option β} {X : β → Option α} (stv : β → List xV) (hd : decode mm.2.1 pc = .ok (.invokestatic idx, 3)) (hM : xMN mm.1.cls idx cal n) (hn : As.length = n) (hst0 : As.reverse ++ st = st0) (hL0 : xent As cal.2.2.1 = L0) (hset : As.all xset = true) (hlen : Nat.ble (xexp As).length cal.2.2.1 = true) (hsz : Nat.ble (xsz st) 8 = true) (h1 : Ev l g d cal 0 L0 [] A R rr1 RR1 f) (hokr : ∀ v, okr cal.2.2.2 (rr1 v)) (hsv : ∀ v, (rr1 v).toList ++ st = stv v) (kk : ∀ v, Ev l g (d + 1) mm (pc + 3) L (stv v) A (RR1 v) rr RR (X v)) : Ev l g (d + 1) mm pc L st0 A R rr RR (f.bind X) := by
  intro v hv
  obtain ⟨w, hw, hx⟩ := Option.bind_eq_some_iff.mp hv
  exact e_callN hd hM hn hst0 hL0 hset hlen hsz (hokr w) (h1 w hw) (by rw [hsv w]; exact kk w v hx)
end XEV
