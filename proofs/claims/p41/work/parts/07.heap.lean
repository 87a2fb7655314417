/-! The rows of Ex that read and write cells. -/
theorem wG_list {ws : List Cond} (is : List Nat) (h : ws = is.filterMap (fun i => tables_1[i]?)) (hg : ws.all goodWord = true) : ∀ w ∈ ws, w ∈ wG := by
  intro w hw
  have h1 := List.all_eq_true.mp hg w hw
  rw [h] at hw
  obtain ⟨i, -, hi⟩ := List.mem_filterMap.mp hw
  exact wG_t i hi h1
set_option maxRecDepth 100000 in
theorem iw0 : ∀ w ∈ wsX00, w ∈ wG := wG_list [171, 173, 175, 177, 179, 181, 183, 185, 187, 189] (by decide +kernel) (by decide +kernel)
set_option maxRecDepth 100000 in
theorem iw1 : ∀ w ∈ wsX10, w ∈ wG := wG_list [217, 219] (by decide +kernel) (by decide +kernel)
set_option maxRecDepth 100000 in
theorem iw2 : ∀ w ∈ wsX20, w ∈ wG := wG_list [237, 239, 241, 243, 245, 247, 249] (by decide +kernel) (by decide +kernel)
set_option maxRecDepth 100000 in
theorem iw3 : ∀ w ∈ wsX30, w ∈ wG := wG_list [78, 80, 82, 84, 86, 88, 90, 92] (by decide +kernel) (by decide +kernel)
set_option maxRecDepth 100000 in
theorem iw4 : ∀ w ∈ wsX40, w ∈ wG := wG_list [129, 131] (by decide +kernel) (by decide +kernel)
set_option maxRecDepth 100000 in
theorem iw5 : ∀ w ∈ wsX50, w ∈ wG := wG_list [49, 51, 53, 55] (by decide +kernel) (by decide +kernel)
set_option maxRecDepth 100000 in
theorem iw6 : ∀ w ∈ wsX60, w ∈ wG := wG_list [262, 264, 266, 268] (by decide +kernel) (by decide +kernel)
set_option maxRecDepth 100000 in
theorem iw7 : ∀ w ∈ wsX70, w ∈ wG := wG_list [110, 112, 114, 116] (by decide +kernel) (by decide +kernel)
set_option maxRecDepth 100000 in
theorem iw8 : ∀ w ∈ wsX80, w ∈ wG := wG_list [198, 200, 202] (by decide +kernel) (by decide +kernel)
set_option maxRecDepth 100000 in
theorem iw9 : ∀ w ∈ wsX90, w ∈ wG := wG_list [280, 282, 284, 286, 288, 290, 292, 294, 296] (by decide +kernel) (by decide +kernel)
theorem xfac (ci : Nat) (h : ci < 10) : vwCl[ci]? = some (xct ci) ∧ (∀ w ∈ u_ws (xct ci).1 (xct ci).2.1 (xct ci).2.2, w ∈ wG) ∧ (∀ k, k < (xct ci).2.2 → parseFieldDescriptor ((xct ci).2.1 k).2.2.1 = some (xty ci k)) ∧ ∀ a, a < (xct ci).2.2 → ∀ b, b < (xct ci).2.2 → a ≠ b → ((xct ci).2.1 a).2.1 ≠ ((xct ci).2.1 b).2.1 := by
  match ci, h with
  | 0, _ => exact ⟨rfl, iw0, tyX0_ok, nmX0⟩
  | 1, _ => exact ⟨rfl, iw1, tyX1_ok, nmX1⟩
  | 2, _ => exact ⟨rfl, iw2, tyX2_ok, nmX2⟩
  | 3, _ => exact ⟨rfl, iw3, tyX3_ok, nmX3⟩
  | 4, _ => exact ⟨rfl, iw4, tyX4_ok, nmX4⟩
  | 5, _ => exact ⟨rfl, iw5, tyX5_ok, nmX5⟩
  | 6, _ => exact ⟨rfl, iw6, tyX6_ok, nmX6⟩
  | 7, _ => exact ⟨rfl, iw7, tyX7_ok, nmX7⟩
  | 8, _ => exact ⟨rfl, iw8, tyX8_ok, nmX8⟩
  | 9, _ => exact ⟨rfl, iw9, tyX9_ok, nmX9⟩
def xkd (ty : FieldType) : Nat := match ty with
  | .long => 1
  | .object _ => 2
  | .array _ => 2
  | .int => 0
  | .boolean => 3
  | _ => 4
theorem xfv0 {g : xG} {ty : FieldType} {i : Int} {o : Option Nat} (h : xkd ty = 0 ∨ xkd ty = 3) : xfv g ty i o = .int (Int32.ofInt i) := by cases ty <;> first | rfl | simp [xkd] at h
theorem xfv1 {g : xG} {ty : FieldType} {i : Int} {o : Option Nat} (h : xkd ty = 1) : xfv g ty i o = .long (Int64.ofInt i) := by cases ty <;> first | rfl | simp [xkd] at h
theorem xfv2 {g : xG} {ty : FieldType} {i : Int} {o : Option Nat} (h : xkd ty = 2) : xfv g ty i o = va_rf (o.map (fun b => xB g + b)) := by cases ty <;> first | rfl | simp [xkd] at h
theorem xwd0 {ci k : Nat} (h : xkd (xty ci k) ≠ 1) : xwd (0, ci) k = false := by
  unfold xwd
  simp only
  split
  · rename_i e; rw [e] at h; exact absurd rfl h
  · rfl
theorem xwd1 {ci k : Nat} (h : xkd (xty ci k) = 1) : xwd (0, ci) k = true := by
  unfold xwd
  simp only
  split
  · rfl
  · rename_i e
    exfalso
    cases hx : xty ci k <;> rw [hx] at h e <;> first | exact e rfl | simp [xkd] at h
def xGF (own : String) (idx ci k : Nat) : Prop := k < (xct ci).2.2 ∧ Cond.fieldLink own idx ((xct ci).2.1 k).1 ((xct ci).2.1 k).2.1 ((xct ci).2.1 k).2.2.1 ∈ wG
def xGN (own : String) (idx ci k : Nat) : Prop := k < (xct ci).2.2 ∧ ∃ host, Cond.fieldLinkNest own idx ((xct ci).2.1 k).1 ((xct ci).2.1 k).2.1 ((xct ci).2.1 k).2.2.1 host ∈ xnest
section XH
variable {l : Launch} {g : xG} {d : Nat} {mm : xM} {pc : Nat} {L st : List xV} {A : xA} {R : xN} {r : Option xV} {A' : xA} {R' : xN}
theorem xren_at {q : Nat} (h : q < A.2.2.1) : (xren g A R)[q]? = some (xB g + q, xcl g A R q) := by
  unfold xren
  rw [List.getElem?_map, List.getElem?_range h]
  rfl
theorem xren_inv {k : Nat} {q : Nat × va_E} (h : (xren g A R)[k]? = some q) : k < A.2.2.1 ∧ q = (xB g + k, xcl g A R k) := by
  have hk : k < A.2.2.1 := by
    have := (List.getElem?_eq_some_iff.mp h).1
    unfold xren at this
    rwa [List.length_map, List.length_range] at this
  rw [xren_at hk] at h
  exact ⟨hk, (Option.some.inj h).symm⟩
theorem xcl0 {q ci : Nat} (h : A.1 q = (0, ci)) : xcl g A R q = .inr (ci, (List.range (xct ci).2.2).map fun k => xfv g (xty ci k) (R q k) (A.2.1 q k)) := by
  unfold xcl
  rw [h]
  rfl
theorem xcl1 {q n : Nat} (h : A.1 q = (1, n)) : xcl g A R q = .inl (g.2.1.1, n, .inl fun j => Int32.ofInt (R q j)) := by
  unfold xcl
  rw [h]
  rfl
theorem xcl2 {q n : Nat} (h : A.1 q = (2, n)) : xcl g A R q = .inl (g.2.1.2.1, n, .inr (.inr (.inr (.inr fun j => (A.2.1 q j).map (fun b => xB g + b))))) := by
  unfold xcl
  rw [h]
  rfl
theorem xcl3 {q n : Nat} (h : A.1 q = (3, n)) : xcl g A R q = .inl (g.2.1.2.2, n, .inr (.inr (.inr (.inr fun j => if R q j < 0 then none else some (xB g + (R q j).toNat))))) := by
  unfold xcl
  rw [h]
  rfl
theorem xlt {H : Heap} {locs : List Loc} {q c n : Nat} (hr : xRel g A R H locs) (h : A.1 q = (c, n)) (hc : c ≠ 9) : q < A.2.2.1 := by
  rcases Nat.lt_or_ge q A.2.2.1 with h1 | h1
  · exact h1
  · have := hr.2.2.1.2.1 q h1
    rw [h] at this
    exact absurd (congrArg Prod.fst this) hc
theorem xci {H : Heap} {locs : List Loc} {q n : Nat} (hr : xRel g A R H locs) (h : A.1 q = (0, n)) : n < 10 := by
  have := hr.2.2.1.2.2 q
  rw [h] at this
  exact this rfl
theorem xfld {ci k : Nat} (hk : k < (xct ci).2.2) {a : Nat} : ((List.range (xct ci).2.2).map fun k => xfv g (xty ci k) (R a k) (A.2.1 a k))[k]? = some (xfv g (xty ci k) (R a k) (A.2.1 a k)) := by
  rw [List.getElem?_map, List.getElem?_range hk]
  rfl
theorem xrng {H : Heap} {locs : List Loc} {a ci k : Nat} (hr : xRel g A R H locs) (h : A.1 a = (0, ci)) (hk : xkd (xty ci k) ≠ 1) : i4 (R a k) := by
  have := hr.2.2.1.1 a k
  rw [h, xwd0 hk] at this
  simpa using this
theorem xrngL {H : Heap} {locs : List Loc} {a ci k : Nat} (hr : xRel g A R H locs) (h : A.1 a = (0, ci)) (hk : xkd (xty ci k) = 1) : i8 (R a k) := by
  have := hr.2.2.1.1 a k
  rw [h, xwd1 hk] at this
  simpa using this
theorem xrngA {H : Heap} {locs : List Loc} {a n k : Nat} (hr : xRel g A R H locs) (h : A.1 a = (1, n)) : i4 (R a k) := by
  have := hr.2.2.1.1 a k
  rw [h] at this
  simpa [xwd] using this
theorem xcnv {H : Heap} {locs : List Loc} {a ci : Nat} (hr : xRel g A R H locs) (hk : A.1 a = (0, ci)) : (xren g A R)[a]? = some (xB g + a, .inr (ci, (List.range (xct ci).2.2).map fun k => xfv g (xty ci k) (R a k) (A.2.1 a k))) := by
  rw [xren_at (xlt hr hk (by decide)), xcl0 hk]
theorem e_geti {a idx ci k : Nat} (hd : decode mm.2.1 pc = .ok (.getfield idx, 3)) (hf : xGF mm.1.cls idx ci k) (hk : A.1 a = (0, ci)) (ht : xkd (xty ci k) = 0 ∨ xkd (xty ci k) = 3) (kk : Ex l g d mm (pc + 3) L (xI (R a k) :: st) A R r A' R') : Ex l g d mm pc L (xR a :: st) A R r A' R' :=
  e_step (fun p e Rm s m args below meth c H locs cells slots Q ls C hr hl hL ho hs kk =>
    va_get C.1 C.2.1 C.2.2.2.2.1 (xfac ci (xci hr hk)).2.1 C.2.2.2.1 C.2.2.2.2.2.2.2.2.1 hr.1 a (xcnv hr hk) (xfac ci (xci hr hk)).1 k hf.1 (C.2.2.2.2.1 _ hf.2) (fun x h => h) (v := .int (Int32.ofInt (R a k))) (by rw [xfld hf.1, xfv0 ht]) hd
      (kk ls hl hL ho (oks_cons (v := xI (R a k)) (xrng hr hk (by omega)) (oks_tl hs)))) kk
theorem e_getl {a idx ci k : Nat} (hd : decode mm.2.1 pc = .ok (.getfield idx, 3)) (hf : xGF mm.1.cls idx ci k) (hk : A.1 a = (0, ci)) (ht : xkd (xty ci k) = 1) (kk : Ex l g d mm (pc + 3) L (xL (R a k) :: st) A R r A' R') : Ex l g d mm pc L (xR a :: st) A R r A' R' :=
  e_step (fun p e Rm s m args below meth c H locs cells slots Q ls C hr hl hL ho hs kk =>
    va_get C.1 C.2.1 C.2.2.2.2.1 (xfac ci (xci hr hk)).2.1 C.2.2.2.1 C.2.2.2.2.2.2.2.2.1 hr.1 a (xcnv hr hk) (xfac ci (xci hr hk)).1 k hf.1 (C.2.2.2.2.1 _ hf.2) (fun x h => h) (v := .long (Int64.ofInt (R a k))) (by rw [xfld hf.1, xfv1 ht]) hd
      (kk ls hl hL ho (oks_cons (v := xL (R a k)) (xrngL hr hk ht) (oks_tl hs)))) kk
theorem e_getr {a b idx ci k : Nat} (hd : decode mm.2.1 pc = .ok (.getfield idx, 3)) (hf : xGF mm.1.cls idx ci k) (hk : A.1 a = (0, ci)) (ht : xkd (xty ci k) = 2) (hb : A.2.1 a k = some b) (kk : Ex l g d mm (pc + 3) L (xR b :: st) A R r A' R') : Ex l g d mm pc L (xR a :: st) A R r A' R' :=
  e_step (fun p e Rm s m args below meth c H locs cells slots Q ls C hr hl hL ho hs kk =>
    va_get C.1 C.2.1 C.2.2.2.2.1 (xfac ci (xci hr hk)).2.1 C.2.2.2.1 C.2.2.2.2.2.2.2.2.1 hr.1 a (xcnv hr hk) (xfac ci (xci hr hk)).1 k hf.1 (C.2.2.2.2.1 _ hf.2) (fun x h => h) (v := .ref (xB g + b)) (by rw [xfld hf.1, xfv2 ht, hb]; rfl) hd
      (kk ls hl hL ho (oks_cons (v := xR b) trivial (oks_tl hs)))) kk
theorem e_getrN {a b idx ci k : Nat} (hd : decode mm.2.1 pc = .ok (.getfield idx, 3)) (hf : xGN mm.1.cls idx ci k) (hk : A.1 a = (0, ci)) (ht : xkd (xty ci k) = 2) (hb : A.2.1 a k = some b) (kk : Ex l g d mm (pc + 3) L (xR b :: st) A R r A' R') : Ex l g d mm pc L (xR a :: st) A R r A' R' :=
  e_step (fun p e Rm s m args below meth c H locs cells slots Q ls C hr hl hL ho hs kk => by
    obtain ⟨h1, host, h2⟩ := hf
    exact va_getN C.1 C.2.1 C.2.2.2.2.1 (xfac ci (xci hr hk)).2.1 C.2.2.2.1 C.2.2.2.2.2.2.2.2.1 hr.1 a (xcnv hr hk) (xfac ci (xci hr hk)).1 k h1 (va_Nw.use rfl (C.2.2.2.2.2.2.2.2.2.1 _ h2)) (fun x h => h) (v := .ref (xB g + b)) (by rw [xfld h1, xfv2 ht, hb]; rfl) hd
      (kk ls hl hL ho (oks_cons (v := xR b) trivial (oks_tl hs)))) kk
/-- a cell is written -/
def xup (R : xN) (a k : Nat) (v : Int) : xN := fun q => if q = a then (fun j => if j = k then v else R q j) else R q
def xrow (R : xN) (a : Nat) (f : Nat → Int) : xN := fun q => if q = a then f else R q
def xrf (A : xA) (a k : Nat) (b : Nat) : xA := (A.1, fun q => if q = a then (fun j => if j = k then some b else A.2.1 q j) else A.2.1 q, A.2.2)
theorem xup_ne {a k q : Nat} {v : Int} (h : q ≠ a) : xup R a k v q = R q := by unfold xup; rw [if_neg h]
theorem xrf_ne {a k b q : Nat} (h : q ≠ a) : (xrf A a k b).2.1 q = A.2.1 q := by unfold xrf; simp only; rw [if_neg h]
theorem xcl_ne {A1 : xA} {R1 : xN} {q : Nat} (h1 : A1.1 q = A.1 q) (h2 : A1.2.1 q = A.2.1 q) (h3 : R1 q = R q) : xcl g A1 R1 q = xcl g A R q := by
  unfold xcl
  rw [h1, h2, h3]
theorem xRel_set {A1 : xA} {R1 : xN} {H H1 : Heap} {locs Lc : List Loc} {a : Nat} (hr : xRel g A R H locs) (ht : A1.2.2 = A.2.2) (hat : va_at g.1 vwCl (xB g + a, xcl g A1 R1 a) H1) (hz : H1.size = H.size) (oq : ∀ q, q ≠ xB g + a → H1[q]? = H[q]?) (hx : ∀ q, q ≠ a → xcl g A1 R1 q = xcl g A R q) (hok : xok A1 R1) (hL : ∀ q ∈ Lc, q.base = xB g + a) : xRel g A1 R1 H1 (locs ++ Lc) := by
  refine ⟨fun k q hq => ?_, by rw [hz, ht]; exact hr.2.1, hok, by rw [hz]; exact hr.2.2.2.1, fun q h1 h2 => ?_, fun q hq => ?_⟩
  · obtain ⟨hk, rfl⟩ := xren_inv hq
    by_cases ha : k = a
    · subst ha; exact hat
    · rw [hx k ha]
      rw [ht] at hk
      exact (hr.1 k _ (xren_at hk)).kept (oq _ (fun h => ha (Nat.add_left_cancel h)))
  · rw [oq q (fun h => h2 (show xB g ≤ q by rw [h]; exact Nat.le_add_right _ _))]
    exact hr.2.2.2.2.1 q h1 h2
  · rcases List.mem_append.mp hq with h | h
    · exact hr.2.2.2.2.2 q h
    · show xB g ≤ q.base
      rw [hL q h]; exact Nat.le_add_right _ _
theorem e_stepM {pc' : Nat} {L' st' : List xV} {A1 : xA} {R1 : xN} (ht : A1.2.2 = A.2.2)
    (h : ∀ (p : Program) (e : Env) (Rm : Room) (s : State) (m : MethodId) (args : Array Value) (below : List Frame) (meth : Method) (c : Code) (H : Heap) (locs : List Loc) (cells slots : Nat) (Q : State → Prop) (ls : Array Slot),
      xC g mm d p Rm s m args meth c → xRel g A R H locs → lv_has ls mm.2.2.1 (xls g 0 L) → L.length = mm.2.2.1 → oks L → oks st →
      (∀ (H1 : Heap) (locs1 : List Loc), xRel g A1 R1 H1 locs1 → oks st' → L' = L → W p l e Rm s m args below meth c H1 locs1 cells slots Q (F0 m pc' ls (st'.map (xval g)))) →
      W p l e Rm s m args below meth c H locs cells slots Q (F0 m pc ls (st.map (xval g))))
    (hL' : L' = L) (k : Ex l g d mm pc' L' st' A1 R1 r A' R') : Ex l g d mm pc L st A R r A' R' := by
  subst hL'
  refine ⟨by rw [← ht]; exact k.1, fun p e Rm s m args below meth c H locs cells slots Q ls C hr hl hL ho hs h1 h2 kk =>
    h p e Rm s m args below meth c H locs cells slots Q ls C hr hl hL ho hs fun H1 locs1 hr1 hs' _ =>
      k.2 p e Rm s m args below meth c H1 locs1 cells slots Q ls C hr1 hl hL ho hs' (by rw [ht]; exact h1) (by rw [ht]; exact h2) (by rw [ht]; exact kk)⟩
end XH
