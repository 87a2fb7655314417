/-! Calls: a method's own Ex gives a contract, and a contract gives a row. -/
def xexp (As : List xV) : List xV := As.flatMap fun v => if xlg v = true then [v, xU] else [v]
def xent (As : List xV) (n : Nat) : List xV := xexp As ++ List.replicate (n - (xexp As).length) xU
theorem xexp_cons (v : xV) (As : List xV) : xexp (v :: As) = (if xlg v = true then [v, xU] else [v]) ++ xexp As := by unfold xexp; rw [List.flatMap_cons]
theorem xls_rep (g : xG) : ∀ (k i : Nat), xls g i (List.replicate k xU) = [] := by
  intro k
  induction k with
  | zero => intro i; rfl
  | succ k ih =>
    intro i
    show ([] : List (Nat × Value)) ++ xls g (i + 1) (List.replicate k xU) = []
    rw [ih]; rfl
theorem xls_ent (g : xG) (k : Nat) : ∀ (As : List xV) (i : Nat), (∀ v ∈ As, xset v = true) → ∀ q ∈ xls g i (xexp As ++ List.replicate k xU), q ∈ lv_args i (As.map (xval g)) := by
  intro As
  induction As with
  | nil =>
    intro i _ q hq
    have : xls g i (xexp [] ++ List.replicate k xU) = [] := xls_rep g k i
    rw [this] at hq
    exact absurd hq List.not_mem_nil
  | cons v As ih =>
    intro i hs q hq
    have hv := hs v List.mem_cons_self
    have ih' := fun i => ih i (fun w hw => hs w (List.mem_cons_of_mem _ hw))
    rw [xexp_cons] at hq
    have hcat := xcat (g := g) hv
    show q ∈ (i, xval g v) :: lv_args (if (xval g v).category = 2 then i + 2 else i + 1) (As.map (xval g))
    by_cases hl : xlg v = true
    · rw [if_pos hl] at hq
      have hc2 : (xval g v).category = 2 := by rw [hl] at hcat; simpa using hcat
      rw [if_pos hc2]
      have e : xls g i (([v, xU] ++ xexp As) ++ List.replicate k xU) = (i, xval g v) :: xls g (i + 2) (xexp As ++ List.replicate k xU) := by
        show (if xset v = true then [(i, xval g v)] else []) ++ (([] : List (Nat × Value)) ++ xls g (i + 1 + 1) (xexp As ++ List.replicate k xU)) = _
        rw [if_pos hv]; rfl
      rw [e] at hq
      rcases List.mem_cons.mp hq with h | h
      · rw [h]; exact List.mem_cons_self
      · exact List.mem_cons_of_mem _ (ih' _ q h)
    · rw [if_neg hl] at hq
      have hc2 : ¬ (xval g v).category = 2 := fun h => hl (by rw [← hcat, h]; rfl)
      rw [if_neg hc2]
      have e : xls g i (([v] ++ xexp As) ++ List.replicate k xU) = (i, xval g v) :: xls g (i + 1) (xexp As ++ List.replicate k xU) := by
        show (if xset v = true then [(i, xval g v)] else []) ++ xls g (i + 1) (xexp As ++ List.replicate k xU) = _
        rw [if_pos hv]; rfl
      rw [e] at hq
      rcases List.mem_cons.mp hq with h | h
      · rw [h]; exact List.mem_cons_self
      · exact List.mem_cons_of_mem _ (ih' _ q h)
theorem lg_len (g : xG) : ∀ As : List xV, (lg_sl (As.map (xval g))).length = (xexp As).length := by
  intro As
  induction As with
  | nil => rfl
  | cons v As ih =>
    rw [xexp_cons]
    show (lg_sl (xval g v :: As.map (xval g))).length = _
    unfold lg_sl at ih ⊢
    rw [List.flatMap_cons, List.length_append, List.length_append, ih]
    congr 1
    match v with
    | .inl _ => rfl
    | .inr (.inl _) => rfl
    | .inr (.inr (.inl _)) => rfl
    | .inr (.inr (.inr (.inl k))) =>
      show (if (va_rf (g.2.2.2.1 k)).category = 2 then [Slot.val (va_rf (g.2.2.2.1 k)), .second] else [.val (va_rf (g.2.2.2.1 k))]).length = 1
      rw [va_rf_cat]; rfl
    | .inr (.inr (.inr (.inr _))) => rfl
theorem oks_ent {As : List xV} {n : Nat} (h : oks As) : oks (xent As n) := by
  intro v hv
  rcases List.mem_append.mp hv with h1 | h1
  · obtain ⟨w, hw, h2⟩ := List.mem_flatMap.mp h1
    by_cases hl : xlg w = true
    · rw [if_pos hl] at h2
      rcases List.mem_cons.mp h2 with e | e
      · rw [e]; exact h w hw
      · rw [List.mem_singleton.mp e]; exact trivial
    · rw [if_neg hl] at h2
      rw [List.mem_singleton.mp h2]; exact h w hw
  · rw [(List.mem_replicate.mp h1).2]; exact trivial
def okr (ret : Option FieldType) (r : Option xV) : Prop := match ret, r with
  | none, none => True
  | some .int, some (.inl _) => True
  | some .boolean, some (.inl i) => i = 0 ∨ i = 1
  | some .byte, some (.inl i) => i = 0
  | some .char, some (.inl i) => 0 ≤ i ∧ i ≤ 255
  | some (.object _), some (.inr (.inr (.inl _))) => True
  | some (.object _), some (.inr (.inr (.inr (.inl _)))) => True
  | _, _ => False
def xPc (g : xG) (A : xA) (R : xN) (As : List xV) : Array Value → State → Prop := fun v U => v = (As.map (xval g)).toArray ∧ xRel g A R U.heap [] ∧ xK g U
def xQc (g : xG) (A' : xA) (R' : xN) (r : Option xV) : Array Value → State → Outcome → State → Prop := fun _ _ o t => o = .returned (r.map (xval g)) ∧ xRel g A' R' t.heap [] ∧ ∀ v, r = some v → okv v
theorem xRel.nil {g : xG} {A : xA} {R : xN} {H : Heap} {locs : List Loc} (h : xRel g A R H locs) : xRel g A R H [] := ⟨h.1, h.2.1, h.2.2.1, h.2.2.2.1, h.2.2.2.2.1, fun _ h => by cases h⟩
theorem xRel.loc {g : xG} {A A0 : xA} {R R0 : xN} {H H0 : Heap} {locs L : List Loc} (h : xRel g A R H []) (h0 : xRel g A0 R0 H0 locs) (hL : ∀ q ∈ L, xB g ≤ q.base) : xRel g A R H (locs ++ L) := ⟨h.1, h.2.1, h.2.2.1, h.2.2.2.1, h.2.2.2.2.1, fun q hq => by
  rcases List.mem_append.mp hq with h1 | h1
  · exact h0.2.2.2.2.2 q h1
  · exact hL q h1⟩
abbrev xws (mm : xM) : List Cond := Cond.code mm.1 mm.2.1 mm.2.2.1 mm.2.2.2 :: wG
abbrev xrm (d mc ms : Nat) : Room := { frames := d, cells := mc, slots := ms, locals := 36 * d }
theorem xPc.calling {g : xG} {A : xA} {R : xN} {As : List xV} : FrameBlind (xPc g A R As) := fun a U gg mk h => by
  obtain ⟨h1, h2, h3, h4, h5, h6, b, h12, h13, h14⟩ := h
  have hv : U.vm.Alike (U.calling gg mk a).vm := Vm.Alike.refl U.vm
  exact ⟨h1, h2, va_K.moved (u := U) (U := U.calling gg mk a) hv h3, fun w hw => by
    have h9 := h4 w hw
    have h10 := (List.mem_filter.mp hw).2
    cases w with
    | methodLinkNest _ _ _ _ => exact va_Nw.same rfl rfl h9
    | fieldLinkNest _ _ _ _ _ _ => exact va_Nw.same rfl rfl h9
    | _ => simp at h10, va_AO.moved (u := U) (U := U.calling gg mk a) hv h5, va_AO.moved (u := U) (U := U.calling gg mk a) hv h6, b, h12, h13, va_X.moved (u := U) (U := U.calling gg mk a) hv h14⟩
theorem narrow_c {i : Int} (h0 : 0 ≤ i) (h1 : i ≤ 255) : narrow .char (.int (Int32.ofInt i)) = .int (Int32.ofInt i) := by
  have h : ∀ n : Fin 256, narrow .char (.int (Int32.ofInt (n.val : Int))) = .int (Int32.ofInt (n.val : Int)) := by decide +kernel
  have h2 := h ⟨i.toNat, by omega⟩
  simp only [Int.toNat_of_nonneg h0] at h2
  exact h2
theorem Ex.met {l : Launch} {g : xG} {d : Nat} {mm : xM} {A A' : xA} {R R' : xN} {r : Option xV} {As : List xV} (hE : Ex l g d mm 0 (xent As mm.2.2.1) [] A R r A' R') (hok : okr mm.2.2.2 r) (hy : plainName mm.1.cls = true) (hset : ∀ v ∈ As, xset v = true) (hoks : oks As) (hlen : (xexp As).length ≤ mm.2.2.1) :
    Met l mm.1 (xws mm) (xrm d (A'.2.2.1 - A.2.2.1) (A'.2.2.2 - A.2.2.2)) (xPc g A R As) (xQc g A' R' r) (A'.2.2.1 - A.2.2.1) (A'.2.2.2 - A.2.2.2) (fun q => xB g ≤ q) := by
  refine Met.ofW (cc := mm.2.1) (maxL := mm.2.2.1) (ret := mm.2.2.2) hy rfl ?_
  intro p e s m args below meth c s₁ B hml hv
  obtain ⟨rfl, hrel, hK⟩ := hv
  have hx := B.exec
  have hb := B.bytes
  have hr := B.returns
  have hts0 := atoms_spec (ws := xws mm) B.pre
  have hts : ∀ w ∈ wG, w.before (As.map (xval g)).toArray s = true := fun w hw => hts0 w (List.mem_cons_of_mem _ hw)
  have hown : s.vm.findClass mm.1.cls = some m.cls := findClass_of_methodNamed B.named
  have hlocks := B.notSynchronized
  have hin : meth.name = mm.1.name := (name_of_methodNamed B.named B.method).1
  have hl := lv_entry (As.map (xval g)) (n := mm.2.2.1) (by rw [lg_len]; exact hlen)
  rw [lg_entry_eq]
  generalize (lg_sl (As.map (xval g)) ++ List.replicate (mm.2.2.1 - (lg_sl (As.map (xval g))).length) Slot.unset).toArray = ls at hl ⊢
  have hl : lv_has ls mm.2.2.1 (xls g 0 (xent As mm.2.2.1)) := ⟨hl.1, hl.2.1, fun q hq => hl.2.2 q (xls_ent g _ As 0 hset q hq)⟩
  have hE2 := hE.2 p e (xrm d (A'.2.2.1 - A.2.2.1) (A'.2.2.2 - A.2.2.2)) s m (As.map (xval g)).toArray below meth c s.heap [] 0 0 (MQ below (xQc g A' R' r) (As.map (xval g)).toArray s (A'.2.2.1 - A.2.2.1) (A'.2.2.2 - A.2.2.2) (fun q => xB g ≤ q)) ls
    ⟨hx, hb, hml, hown, hts, hin, Nat.le_refl _, Nat.le_refl _, hK⟩ hrel hl (by unfold xent; rw [List.length_append, List.length_replicate]; omega) (oks_ent hoks) oks_nil (by rw [Nat.zero_add]; exact Nat.le_refl _) (by rw [Nat.zero_add]; exact Nat.le_refl _)
  refine hE2 fun H' locs' pc' ls' vs' h1 h2 => ?_
  rw [Nat.zero_add, Nat.zero_add]
  have hf : ∀ q ∈ locs', xB g ≤ q.base := h1.2.2.2.2.2
  match r, h2, hok with
  | none, h2, hok =>
    have hret : mm.2.2.2 = none := by
      cases h : mm.2.2.2 with
      | none => rfl
      | some ty => rw [h] at hok; cases ty <;> exact absurd hok (by simp [okr])
    rw [h2.2]
    exact W.vret hx hb (hr.trans hret) (fun t ht hW => ⟨rfl, by rw [ht]; exact h1.nil, fun v hv => by cases hv⟩) hf h2.1
  | some (.inl i), h2, hok =>
    rw [h2.2.1]
    cases h : mm.2.2.2 with
    | none => rw [h] at hok; exact absurd hok (by simp [okr])
    | some ty =>
      rw [h] at hok
      cases ty with
      | int => exact W.zret hx hb (hr.trans h) rfl (fun t ht hW => ⟨rfl, by rw [ht]; exact h1.nil, fun v hv => by cases hv; exact h2.2.2⟩) hf h2.1
      | boolean => 
        have h01 : i = 0 ∨ i = 1 := hok
        exact W.zret hx hb (hr.trans h) (by rcases h01 with rfl | rfl <;> rfl) (fun t ht hW => ⟨rfl, by rw [ht]; exact h1.nil, fun v hv => by cases hv; exact h2.2.2⟩) hf h2.1
      | byte =>
        have h0 : i = 0 := hok
        exact W.zret hx hb (hr.trans h) (by rw [h0]; rfl) (fun t ht hW => ⟨rfl, by rw [ht]; exact h1.nil, fun v hv => by cases hv; exact h2.2.2⟩) hf h2.1
      | char =>
        have h0 : 0 ≤ i ∧ i ≤ 255 := hok
        exact W.zret hx hb (hr.trans h) (narrow_c h0.1 h0.2) (fun t ht hW => ⟨rfl, by rw [ht]; exact h1.nil, fun v hv => by cases hv; exact h2.2.2⟩) hf h2.1
      | _ => exact absurd hok (by simp [okr])
  | some (.inr (.inl _)), h2, hok => exact absurd h2 (by simp [xend])
  | some (.inr (.inr (.inl a))), h2, hok =>
    rw [h2.2]
    cases h : mm.2.2.2 with
    | none => rw [h] at hok; exact absurd hok (by simp [okr])
    | some ty =>
      rw [h] at hok
      cases ty with
      | object n => exact W.aret hx hb (hr.trans h) (Or.inl ⟨_, rfl⟩) (Or.inr ⟨_, rfl⟩) (fun t ht hW => ⟨rfl, by rw [ht]; exact h1.nil, fun v hv => by cases hv; exact trivial⟩) hf h2.1
      | _ => exact absurd hok (by simp [okr])
  | some (.inr (.inr (.inr (.inl a)))), h2, hok =>
    rw [h2.2]
    cases h : mm.2.2.2 with
    | none => rw [h] at hok; exact absurd hok (by simp [okr])
    | some ty =>
      rw [h] at hok
      cases ty with
      | object n => exact W.aret hx hb (hr.trans h) (Or.inl ⟨_, rfl⟩) (by show va_rf _ = _ ∨ ∃ z, va_rf _ = .ref z; cases g.2.2.2.1 a <;> simp [va_rf]) (fun t ht hW => ⟨rfl, by rw [ht]; exact h1.nil, fun v hv => by cases hv; exact trivial⟩) hf h2.1
      | _ => exact absurd hok (by simp [okr])
  | some (.inr (.inr (.inr (.inr _)))), h2, hok =>
    cases h : mm.2.2.2 with
    | none => rw [h] at hok; exact absurd hok (by simp [okr])
    | some ty => rw [h] at hok; cases ty <;> exact absurd hok (by simp [okr])
