/-! From the law's function to the law's walk. -/
/-- what is left to show: on every script the law's function ends with true -/
def xPure : Prop := ∀ (xs : Nat → Int) (xn : Int), 0 ≤ xn → xn ≤ 260 → (∀ j, i4 (xs j)) → ∀ R1 : xN, xi9 R1 0 → ∃ R2 : xN, f_L_law8 xs xn 0 R1 = some (true, R2)
theorem xRel0 {g : xG} : xRel g (mk [] [] 0 [] [] 0) xR0 g.2.2.1 [] := by
  refine ⟨fun k q hq => ?_, rfl, ⟨fun q k => ?_, fun q _ => ?_, fun q hq => ?_⟩, Nat.le_refl _, fun q _ _ => rfl, fun q hq => by cases hq⟩
  · have : xren g (mk [] [] 0 [] [] 0) xR0 = [] := rfl
    rw [this] at hq
    cases hq
  · show (if xwd _ k = true then i8 0 else i4 0)
    split <;> simp [i8, i4]
  · rfl
  · exact absurd hq (by show ¬ ((9 : Nat) = 0); decide)
theorem whole_of (hp : xPure) {p : Program} {e : Env} {s : State} {m : MethodId} {below : List Frame} {meth : Method} {c : Code} (l : Launch) {b L : Nat} {xs : Nat → Int32} (hL : L ≤ 260)
    (hx : p.tables.exec = Jvm.exec) (hb : c.code = code) (hr : meth.sig.returnType = ret) (hml : c.maxLocals = 12) (hown : s.vm.findClass RL = some m.cls) (hts : ∀ w ∈ lw_tbl, w.before #[Value.ref b] s = true) (hX : va_X b L xs s s.heap) (hbl : b < s.heap.size) (hlocks : meth.locks = false) (hgv : (Jvm.Cond.and given_1 narrow_1).before #[Value.ref b] s = true)
    {Q : State → Prop} (hQ : ∀ (pc : Nat) (H : Heap) (ls : Array Slot), decode code pc = .ok (.ireturn, 1) → W p l e room_1 s m #[Value.ref b] below meth c H [] 323 4621 Q (F0 m pc ls [.int 1])) :
    W p l e room_1 s m #[Value.ref b] below meth c s.heap [] 0 0 Q (entryFrame m ([Value.ref b] : List Value).toArray 12) := by
  obtain ⟨g, g1, g2, g3, hK⟩ := xk_start hts hX hbl
  have hN : xscN g = (L : Int) := by unfold xscN; rw [g2]
  obtain ⟨R1, i1, hgo⟩ := q_law0 (l := l) (g := g) (d := 2) (nm := meth.name)
  obtain ⟨R2, hpure⟩ := hp (xscI g) (xscN g) (by rw [hN]; omega) (by rw [hN]; omega) (fun j => by
    show i4 ((g.2.2.2.2.2 j).toInt)
    have h1 := Int32.le_toInt (g.2.2.2.2.2 j)
    have h2 := Int32.toInt_lt (g.2.2.2.2.2 j)
    unfold i4; omega) R1 i1
  have hlaw := c_L_law8 (l := l) (g := g) (d := 2) (nm := meth.name) (A := xA9) (R := R1) (xs := xscI g) (xn := xscN g) rfl rfl (by rw [hN]; unfold i4; omega) xA9_sh9
  have hE := (hgo _ _ _ (hlaw _ hpure)).2 p e room_1 s m #[Value.ref b] below meth c s.heap [] 0 0 Q
  rw [lg_entry_eq]
  have hl := lv_entry [Value.ref b] (n := 12) (by show 1 ≤ 12; decide)
  have hls : xls g 0 [xS 300, xU, xU, xU, xU, xU, xU, xU, xU, xU, xU, xU] = lv_args 0 [Value.ref b] := by
    have : xval g (xS 300) = .ref b := by show va_rf (g.2.2.2.1 300) = _; rw [g3]; rfl
    show [(0, xval g (xS 300))] = _
    rw [this]
    rfl
  rw [← hls] at hl
  have hrel : xRel g (mk [] [] 0 [] [] 0) xR0 s.heap [] := by rw [← g1]; exact xRel0
  refine hE _ ⟨hx, hb, hml, hown, fun w hw => hts w (wG_sub w hw), rfl, by decide, by decide, hK⟩ hrel hl rfl (fun v hv => ?_) oks_nil (by decide +kernel) (by decide +kernel) fun H' locs' pc' ls' vs' h1 h2 => ?_
  · rcases List.mem_cons.mp hv with rfl | hv
    · trivial
    · have : v = xU := by simpa using hv
      subst this; trivial
  · obtain ⟨hd, rfl, -⟩ := h2
    refine va_forget (fun q hq => ?_) ?_
    · have := h1.2.2.2.2.2 q hq
      rw [show xB g = s.heap.size from congrArg Array.size g1] at this
      exact this
    · rw [show 0 + (xA9.2.2.1 - (mk [] [] 0 [] [] 0).2.2.1) = 323 by decide +kernel, show 0 + (xA9.2.2.2 - (mk [] [] 0 [] [] 0).2.2.2) = 4621 by decide +kernel]
      exact hQ pc' H' ls' hd
