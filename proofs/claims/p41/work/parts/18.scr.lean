/-! The law's script. -/
def xscI (g : xG) (j : Nat) : Int := (g.2.2.2.2.2 j).toInt
def xscN (g : xG) : Int := ((g.2.2.2.2.1 : Nat) : Int)
section XS
variable {l : Launch} {g : xG} {d : Nat} {mm : xM} {pc : Nat} {L st : List xV} {A : xA} {R : xN} {r : Option xV} {A' : xA} {R' : xN} {xs : Nat → Int} {xn : Int}
theorem e_xld {i : Int} (hd : decode mm.2.1 pc = .ok (.iaload, 1)) (hxs : xscI g = xs) (hxn : xscN g = xn) (h0 : 0 ≤ i ∧ i < xn) (kk : Ex l g d mm (pc + 1) L (xI (xs i.toNat) :: st) A R r A' R') : Ex l g d mm pc L (xI i :: xS 300 :: st) A R r A' R' :=
  e_step (fun p e Rm s m args below meth c H locs cells slots Q ls C hr hl hL ho hs kk => by
    obtain ⟨b, h10, h11, h12⟩ := C.2.2.2.2.2.2.2.2.2.2.2.2
    have e1 : xval g (xS 300) = .ref b := by show va_rf (g.2.2.2.1 300) = _; rw [h10]; rfl
    have hn := i4_nn (oks_hd hs) h0.1
    have h0' := h0.2
    rw [← hxn] at h0'
    unfold xscN at h0'
    have := kk ls hl hL ho (oks_cons (v := xI (xs i.toNat)) (by
      rw [← hxs]
      show i4 ((g.2.2.2.2.2 i.toNat).toInt)
      have h1 := Int32.le_toInt (g.2.2.2.2.2 i.toNat)
      have h2 := Int32.toInt_lt (g.2.2.2.2.2 i.toNat)
      unfold i4; omega) (oks_tl (oks_tl hs)))
    simp only [List.map] at this ⊢
    rw [e1]
    refine va_sld C.1 C.2.1 h12 h11 (by show ¬ (_ ≤ _); exact Nat.not_le.mpr h11) hr.2.2.2 (i := Int32.ofInt i) (fun q => q.elim hn.1 (fun q => by rw [hn.2.1] at q; omega)) hd ?_
    rw [hn.2.1]
    have e2 : xval g (xI (xs i.toNat)) = .int (g.2.2.2.2.2 i.toNat) := by
      rw [← hxs]
      show Value.int (Int32.ofInt (xscI g i.toNat)) = _
      rw [xscI, Int32.ofInt_toInt]
    rw [e2] at this
    exact this) kk
theorem e_xlen (hd : decode mm.2.1 pc = .ok (.arraylength, 1)) (hxn : xscN g = xn) (h4 : i4 xn) (kk : Ex l g d mm (pc + 1) L (xI xn :: st) A R r A' R') : Ex l g d mm pc L (xS 300 :: st) A R r A' R' :=
  e_step (fun p e Rm s m args below meth c H locs cells slots Q ls C hr hl hL ho hs kk => by
    obtain ⟨b, h10, h11, h12⟩ := C.2.2.2.2.2.2.2.2.2.2.2.2
    have e1 : xval g (xS 300) = .ref b := by show va_rf (g.2.2.2.1 300) = _; rw [h10]; rfl
    have := kk ls hl hL ho (oks_cons (v := xI xn) h4 (oks_tl hs))
    simp only [List.map] at this ⊢
    rw [e1]
    have e2 : xval g (xI xn) = .int (Int32.ofNat g.2.2.2.2.1) := by rw [← hxn]; rfl
    rw [e2] at this
    exact va_slen C.1 C.2.1 h12 h11 (by show ¬ (_ ≤ _); exact Nat.not_le.mpr h11) hr.2.2.2 hd this) kk
end XS
