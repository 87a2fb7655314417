/-! A small machine over whole numbers: values, cells, the judgement Ex, its rows for the stack and the locals. -/
abbrev xV : Type := Int ⊕ (Int ⊕ (Nat ⊕ (Nat ⊕ Unit)))
abbrev xI (i : Int) : xV := .inl i
abbrev xL (i : Int) : xV := .inr (.inl i)
abbrev xR (a : Nat) : xV := .inr (.inr (.inl a))
abbrev xS (k : Nat) : xV := .inr (.inr (.inr (.inl k)))
abbrev xU : xV := .inr (.inr (.inr (.inr ())))
/-- kinds of the cells, what their references are, how many cells, how many slots -/
abbrev xA : Type := (Nat → Nat × Nat) × (Nat → Nat → Option Nat) × Nat × Nat
/-- the numbers in the cells -/
abbrev xN : Type := Nat → Nat → Int
/-- the classes' numbers, the array classes (int, Desk, State), the heap at the start, the addresses of what stood there (0 to 14 constants, 100 to 114 their bytes, 200 a static of the JDK's, 300 the script), the script -/
abbrev xG : Type := va_G × (ClassId × ClassId × ClassId) × Heap × (Nat → Option Nat) × Nat × (Nat → Int32)
abbrev xM : Type := MethodName × ByteArray × Nat × Option FieldType
def xB (g : xG) : Nat := g.2.2.1.size
def xval (g : xG) : xV → Value
  | .inl i => .int (Int32.ofInt i)
  | .inr (.inl i) => .long (Int64.ofInt i)
  | .inr (.inr (.inl a)) => .ref (xB g + a)
  | .inr (.inr (.inr (.inl k))) => va_rf (g.2.2.2.1 k)
  | .inr (.inr (.inr (.inr _))) => .null
def xset : xV → Bool
  | .inr (.inr (.inr (.inr _))) => false
  | _ => true
def xlg : xV → Bool
  | .inr (.inl _) => true
  | _ => false
def i4 (i : Int) : Prop := -2147483648 ≤ i ∧ i ≤ 2147483647
def i8 (i : Int) : Prop := -9223372036854775808 ≤ i ∧ i ≤ 9223372036854775807
def okv : xV → Prop
  | .inl i => i4 i
  | .inr (.inl i) => i8 i
  | _ => True
def oks (st : List xV) : Prop := ∀ v ∈ st, okv v
theorem oks_cons {v : xV} {st : List xV} (h : okv v) (hs : oks st) : oks (v :: st) := fun w hw => by
  rcases List.mem_cons.mp hw with e | e
  · rw [e]; exact h
  · exact hs w e
theorem oks_hd {v : xV} {st : List xV} (h : oks (v :: st)) : okv v := h v List.mem_cons_self
theorem oks_tl {v : xV} {st : List xV} (h : oks (v :: st)) : oks st := fun w hw => h w (List.mem_cons_of_mem _ hw)
theorem oks_nil : oks [] := fun _ h => absurd h List.not_mem_nil
theorem oks_at {L : List xV} {i : Nat} {v : xV} (h : oks L) (hi : L[i]? = some v) : okv v := h v (List.mem_of_getElem? hi)
/-- arithmetic with Java's wrap-around -/
def w4 (i : Int) : Int := (i + 2147483648) % 4294967296 - 2147483648
def w8 (i : Int) : Int := (i + 9223372036854775808) % 18446744073709551616 - 9223372036854775808
theorem w4_b (i : Int) : Int.bmod i 4294967296 = w4 i := by
  rw [Int.bmod_def]
  unfold w4
  split <;> omega
theorem w8_b (i : Int) : Int.bmod i 18446744073709551616 = w8 i := by
  rw [Int.bmod_def]
  unfold w8
  split <;> omega
theorem w4_in (i : Int) : i4 (w4 i) := by unfold w4 i4; omega
theorem w8_in (i : Int) : i8 (w8 i) := by unfold w8 i8; omega
theorem w4_id {i : Int} (h : i4 i) : w4 i = i := by unfold i4 at h; unfold w4; omega
theorem w8_id {i : Int} (h : i8 i) : w8 i = i := by unfold i8 at h; unfold w8; omega
theorem i4_8 {i : Int} (h : i4 i) : i8 i := by unfold i4 at h; unfold i8; omega
theorem i4_of (x : Int32) : i4 x.toInt := ⟨by have := x.le_toInt; omega, by have := x.toInt_lt; omega⟩
theorem i8_of (x : Int64) : i8 x.toInt := ⟨by have := x.le_toInt; omega, by have := x.toInt_lt; omega⟩
theorem o4_toInt (i : Int) : (Int32.ofInt i).toInt = w4 i := by rw [Int32.toInt_ofInt]; exact w4_b i
theorem o8_toInt (i : Int) : (Int64.ofInt i).toInt = w8 i := by rw [Int64.toInt_ofInt]; exact w8_b i
theorem o4_in {i : Int} (h : i4 i) : (Int32.ofInt i).toInt = i := by rw [o4_toInt, w4_id h]
theorem o8_in {i : Int} (h : i8 i) : (Int64.ofInt i).toInt = i := by rw [o8_toInt, w8_id h]
theorem o4_w (i : Int) : Int32.ofInt (w4 i) = Int32.ofInt i := Int32.toInt_inj.mp (by rw [o4_toInt, o4_toInt, w4_id (w4_in i)])
theorem o8_w (i : Int) : Int64.ofInt (w8 i) = Int64.ofInt i := Int64.toInt_inj.mp (by rw [o8_toInt, o8_toInt, w8_id (w8_in i)])
theorem o4_inj {a b : Int} (ha : i4 a) (hb : i4 b) : Int32.ofInt a = Int32.ofInt b ↔ a = b := ⟨fun h => by have := congrArg Int32.toInt h; rwa [o4_in ha, o4_in hb] at this, fun h => by rw [h]⟩
theorem o4_lt {a b : Int} (ha : i4 a) (hb : i4 b) : Int32.ofInt a < Int32.ofInt b ↔ a < b := by rw [Int32.lt_iff_toInt_lt, o4_in ha, o4_in hb]
theorem o4_le {a b : Int} (ha : i4 a) (hb : i4 b) : Int32.ofInt a ≤ Int32.ofInt b ↔ a ≤ b := by rw [Int32.le_iff_toInt_le, o4_in ha, o4_in hb]
theorem i4_0 : i4 0 := by unfold i4; omega
theorem o4_z {a : Int} (ha : i4 a) : Int32.ofInt a = 0 ↔ a = 0 := o4_inj ha i4_0
/-- the locals that are known, as the kit's list -/
def xls (g : xG) : Nat → List xV → List (Nat × Value)
  | _, [] => []
  | i, v :: L => (if xset v = true then [(i, xval g v)] else []) ++ xls g (i + 1) L
theorem xls_mem {g : xG} : ∀ {L : List xV} {i j : Nat} {v : xV}, L[j]? = some v → xset v = true → (i + j, xval g v) ∈ xls g i L := by
  intro L
  induction L with
  | nil => intro i j v h; simp at h
  | cons a L ih =>
    intro i j v h hv
    cases j with
    | zero =>
      simp at h
      subst h
      simp [xls, hv]
    | succ j =>
      simp only [List.getElem?_cons_succ] at h
      have := ih (i := i + 1) h hv
      rw [show i + (j + 1) = i + 1 + j by omega]
      exact List.mem_append_right _ this
theorem xls_of {g : xG} : ∀ {L : List xV} {i : Nat} {q : Nat × Value}, q ∈ xls g i L → ∃ (j : Nat) (v : xV), q = (i + j, xval g v) ∧ L[j]? = some v ∧ xset v = true := by
  intro L
  induction L with
  | nil => intro i q h; exact absurd h List.not_mem_nil
  | cons a L ih =>
    intro i q h
    rcases List.mem_append.mp h with h | h
    · by_cases ha : xset a = true
      · rw [if_pos ha] at h
        exact ⟨0, a, by simpa using h, rfl, ha⟩
      · rw [if_neg ha] at h
        exact absurd h List.not_mem_nil
    · obtain ⟨j, v, h1, h2, h3⟩ := ih h
      exact ⟨j + 1, v, by rw [h1]; congr 1; omega, h2, h3⟩
theorem xget {g : xG} {ls : Array Slot} {n : Nat} {L : List xV} {i : Nat} {v : xV} (h : lv_has ls n (xls g 0 L)) (hi : L[i]? = some v) (hv : xset v = true) : ls[i]? = some (.val (xval g v)) := by
  have := h.2.2 _ (xls_mem (g := g) (i := 0) hi hv)
  simpa using this
def xcut (L : List xV) (i : Nat) : List xV := match i with
  | 0 => L
  | k + 1 => if xlg (L.getD k xU) = true then L.set k xU else L
def xst1 (L : List xV) (i : Nat) (v : xV) : List xV := (xcut L i).set i v
def xst2 (L : List xV) (i : Nat) (v : xV) : List xV := ((xcut L i).set i v).set (i + 1) xU
theorem xcut_len (L : List xV) (i : Nat) : (xcut L i).length = L.length := by
  unfold xcut
  split
  · rfl
  · split
    · rw [List.length_set]
    · rfl
theorem xst1_len (L : List xV) (i : Nat) (v : xV) : (xst1 L i v).length = L.length := by unfold xst1; rw [List.length_set, xcut_len]
theorem xst2_len (L : List xV) (i : Nat) (v : xV) : (xst2 L i v).length = L.length := by unfold xst2; rw [List.length_set, List.length_set, xcut_len]
theorem xcut_at {L : List xV} {i j : Nat} {v : xV} (h : (xcut L i)[j]? = some v) (hv : xset v = true) : L[j]? = some v ∧ ¬ (j + 1 = i ∧ xlg v = true) := by
  unfold xcut at h
  split at h
  · exact ⟨h, fun q => by omega⟩
  · rename_i k
    split at h
    · rename_i hl
      rw [List.getElem?_set] at h
      split at h
      · split at h
        · cases h; simp [xset] at hv
        · cases h
      · exact ⟨h, fun q => by omega⟩
    · rename_i hl
      refine ⟨h, fun q => hl ?_⟩
      have : k = j := by omega
      subst this
      simp [h, q.2]
theorem va_rf_cat (o : Option Nat) : (va_rf o).category = 1 := by cases o <;> rfl
theorem xcat {g : xG} {v : xV} (hv : xset v = true) : ((xval g v).category == 2) = xlg v := by
  match v with
  | .inl _ => rfl
  | .inr (.inl _) => rfl
  | .inr (.inr (.inl _)) => rfl
  | .inr (.inr (.inr (.inl k))) =>
    show ((va_rf (g.2.2.2.1 k)).category == 2) = false
    rw [va_rf_cat]; rfl
  | .inr (.inr (.inr (.inr _))) => simp [xset] at hv
theorem xls_st1 {g : xG} {L : List xV} {i nL : Nat} {v : xV} {ls : Array Slot} (h : lv_has ls nL ((i, xval g v) :: (xls g 0 L).filter (fun q => !(q.1 == i) && !(q.1 + 1 == i && q.2.category == 2)))) : lv_has ls nL (xls g 0 (xst1 L i v)) := by
  refine ⟨h.1, h.2.1, fun q hq => ?_⟩
  obtain ⟨j, w, rfl, hj, hw⟩ := xls_of hq
  unfold xst1 at hj
  rw [List.getElem?_set] at hj
  simp only [Nat.zero_add]
  by_cases hij : i = j
  · subst hij
    rw [if_pos rfl] at hj
    split at hj
    · cases hj; exact h.2.2 _ List.mem_cons_self
    · cases hj
  · rw [if_neg hij] at hj
    obtain ⟨h1, h2⟩ := xcut_at hj hw
    refine h.2.2 _ (List.mem_cons_of_mem _ (List.mem_filter.mpr ⟨by simpa using xls_mem (g := g) (i := 0) h1 hw, ?_⟩))
    rw [xcat hw]
    simp only [Bool.and_eq_true, Bool.not_eq_true', beq_eq_false_iff_ne, ne_eq, Bool.and_eq_false_iff]
    refine ⟨fun e => hij e.symm, ?_⟩
    by_cases e : j + 1 = i
    · right
      cases hl : xlg w with
      | false => rfl
      | true => exact absurd ⟨e, hl⟩ h2
    · left; exact e
theorem xls_st2 {g : xG} {L : List xV} {i nL : Nat} {v : xV} {ls : Array Slot} (h : lv_has ls nL ((i, xval g v) :: (xls g 0 L).filter (fun q => !(q.1 == i) && (!(q.1 == i + 1) && !(q.1 + 1 == i && q.2.category == 2))))) : lv_has ls nL (xls g 0 (xst2 L i v)) := by
  refine ⟨h.1, h.2.1, fun q hq => ?_⟩
  obtain ⟨j, w, rfl, hj, hw⟩ := xls_of hq
  unfold xst2 at hj
  rw [List.getElem?_set] at hj
  simp only [Nat.zero_add]
  by_cases hi1 : i + 1 = j
  · rw [if_pos hi1] at hj
    split at hj
    · cases hj; simp [xset] at hw
    · cases hj
  · rw [if_neg hi1, List.getElem?_set] at hj
    by_cases hij : i = j
    · subst hij
      rw [if_pos rfl] at hj
      split at hj
      · cases hj; exact h.2.2 _ List.mem_cons_self
      · cases hj
    · rw [if_neg hij] at hj
      obtain ⟨h1, h2⟩ := xcut_at hj hw
      refine h.2.2 _ (List.mem_cons_of_mem _ (List.mem_filter.mpr ⟨by simpa using xls_mem (g := g) (i := 0) h1 hw, ?_⟩))
      rw [xcat hw]
      simp only [Bool.and_eq_true, Bool.not_eq_true', beq_eq_false_iff_ne, ne_eq, Bool.and_eq_false_iff]
      refine ⟨fun e => hij e.symm, fun e => hi1 e.symm, ?_⟩
      by_cases e : j + 1 = i
      · right
        cases hl : xlg w with
        | false => rfl
        | true => exact absurd ⟨e, hl⟩ h2
      · left; exact e
theorem oks_st1 {L : List xV} {i : Nat} {v : xV} (h : oks L) (hv : okv v) : oks (xst1 L i v) := by
  intro w hw
  obtain ⟨j, hj⟩ := List.getElem?_of_mem hw
  by_cases hs : xset w = true
  · unfold xst1 at hj
    rw [List.getElem?_set] at hj
    split at hj
    · split at hj
      · cases hj; exact hv
      · cases hj
    · exact oks_at h (xcut_at hj hs).1
  · match w, hs with
    | .inr (.inr (.inr (.inr _))), _ => exact trivial
    | .inl _, hs => exact absurd rfl hs
    | .inr (.inl _), hs => exact absurd rfl hs
    | .inr (.inr (.inl _)), hs => exact absurd rfl hs
    | .inr (.inr (.inr (.inl _))), hs => exact absurd rfl hs
theorem oks_st2 {L : List xV} {i : Nat} {v : xV} (h : oks L) (hv : okv v) : oks (xst2 L i v) := by
  intro w hw
  obtain ⟨j, hj⟩ := List.getElem?_of_mem hw
  by_cases hs : xset w = true
  · unfold xst2 at hj
    rw [List.getElem?_set] at hj
    split at hj
    · split at hj
      · cases hj; exact trivial
      · cases hj
    · rw [List.getElem?_set] at hj
      split at hj
      · split at hj
        · cases hj; exact hv
        · cases hj
      · exact oks_at h (xcut_at hj hs).1
  · match w, hs with
    | .inr (.inr (.inr (.inr _))), _ => exact trivial
    | .inl _, hs => exact absurd rfl hs
    | .inr (.inl _), hs => exact absurd rfl hs
    | .inr (.inr (.inl _)), hs => exact absurd rfl hs
    | .inr (.inr (.inr (.inl _))), hs => exact absurd rfl hs
