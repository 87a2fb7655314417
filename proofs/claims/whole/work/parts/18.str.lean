/-! String constants: their lengths and characters. -/
section XST
variable {l : Launch} {g : xG} {d : Nat} {mm : xM} {pc : Nat} {L st : List xV} {A : xA} {R : xN} {r : Option xV} {A' : xA} {R' : xN}
theorem xsok15 {k : Nat} (h : k < 15) : xsok k = true := by unfold xsok; simp [h]
theorem xsok115 {k : Nat} (h : k < 15) : xsok (100 + k) = true := by unfold xsok; simp; omega
theorem e_gsv {k idx : Nat} (hk : k < 15) (hd : decode mm.2.1 pc = .ok (.getfield idx, 3)) (hw : Cond.fieldLink mm.1.cls idx "java/lang/String" "value" "[B" ∈ wG) (kk : Ex l g d mm (pc + 3) L (xS (100 + k) :: st) A R r A' R') : Ex l g d mm pc L (xS k :: st) A R r A' R' :=
  e_step (fun p e Rm s m args below meth c H locs cells slots Q ls C hr hl hL ho hs kk => by
    obtain ⟨adK, adV, h5, h6, h7, -⟩ := C.2.2.2.2.2.2.2.2.2.2.2.2
    have e0 : xval g (xS k) = .ref (adK k) := by show va_rf (g.2.2.2.1 k) = _; rw [(h5 k hk).1]; rfl
    have e1 : xval g (xS (100 + k)) = .ref (adV k) := by show va_rf (g.2.2.2.1 (100 + k)) = _; rw [(h5 k hk).2]; rfl
    obtain ⟨cf, k2, fi, f, cell, q1, q2, q3, q4, q5, q6⟩ := (h7.1 k hk).2.2.1.kept hr.2.2.2.2.1
    have := kk ls hl hL ho (oks_cons (v := xS (100 + k)) trivial (oks_tl hs))
    simp only [List.map] at this ⊢
    rw [e1] at this
    rw [e0]
    exact W.getf C.1 C.2.1 C.2.2.2.1 (C.2.2.2.2.1 _ hw) q1 q2 q3 q4 q5 rfl rfl hd this) kk
theorem e_gsc {k idx : Nat} (hk : k < 15) (hd : decode mm.2.1 pc = .ok (.getfield idx, 3)) (hw : Cond.fieldLink mm.1.cls idx "java/lang/String" "coder" "B" ∈ wG) (kk : Ex l g d mm (pc + 3) L (xI 0 :: st) A R r A' R') : Ex l g d mm pc L (xS k :: st) A R r A' R' :=
  e_step (fun p e Rm s m args below meth c H locs cells slots Q ls C hr hl hL ho hs kk => by
    obtain ⟨adK, adV, h5, h6, h7, -⟩ := C.2.2.2.2.2.2.2.2.2.2.2.2
    have e0 : xval g (xS k) = .ref (adK k) := by show va_rf (g.2.2.2.1 k) = _; rw [(h5 k hk).1]; rfl
    obtain ⟨cf, k2, fi, f, cell, q1, q2, q3, q4, q5, q6⟩ := (h7.1 k hk).2.1.kept hr.2.2.2.2.1
    have := kk ls hl hL ho (oks_cons (v := xI 0) i4_0 (oks_tl hs))
    simp only [List.map] at this ⊢
    rw [e0]
    exact W.getf C.1 C.2.1 C.2.2.2.1 (C.2.2.2.2.1 _ hw) q1 q2 q3 q4 q5 rfl rfl hd this) kk
theorem e_gst {idx : Nat} (hd : decode mm.2.1 pc = .ok (.getstatic idx, 3)) (hw : Cond.fieldLink mm.1.cls idx "java/lang/String" "COMPACT_STRINGS" "Z" ∈ wG) (kk : Ex l g d mm (pc + 3) L (xI 1 :: st) A R r A' R') : Ex l g d mm pc L st A R r A' R' :=
  e_step (fun p e Rm s m args below meth c H locs cells slots Q ls C hr hl hL ho hs kk => by
    obtain ⟨adK, adV, h5, h6, h7, h8, -⟩ := C.2.2.2.2.2.2.2.2.2.2.2.2
    obtain ⟨cf, kf, fi, f, a, cell, q1, q2, q3, q4, q5, q6, q7, q8⟩ := h8.kept hr.2.2.2.2.1
    exact W.gets C.1 C.2.1 C.2.2.2.1 (C.2.2.2.2.1 _ hw) q1 q2 q3 q4 q5 (fun e => by rw [e] at q6; cases q6) q7 rfl hd (kk ls hl hL ho (oks_cons (v := xI 1) (by unfold okv i4; omega) hs))) kk
theorem e_gsf {idx : Nat} (hd : decode mm.2.1 pc = .ok (.getstatic idx, 3)) (hw : Cond.fieldLink mm.1.cls idx "jdk/internal/util/Preconditions" "SIOOBE_FORMATTER" "Ljava/util/function/BiFunction;" ∈ wG) (kk : Ex l g d mm (pc + 3) L (xS 200 :: st) A R r A' R') : Ex l g d mm pc L st A R r A' R' :=
  e_step (fun p e Rm s m args below meth c H locs cells slots Q ls C hr hl hL ho hs kk => by
    obtain ⟨adK, adV, h5, h6, h7, h8, h9, -⟩ := C.2.2.2.2.2.2.2.2.2.2.2.2
    obtain ⟨cf, kf, fi, f, a, cell, q1, q2, q3, q4, q5, q6, q7, q8⟩ := h9.kept hr.2.2.2.2.1
    exact W.gets C.1 C.2.1 C.2.2.2.1 (C.2.2.2.2.1 _ hw) q1 q2 q3 q4 q5 (fun e => by rw [e] at q6; cases q6) q7 rfl hd (kk ls hl hL ho (oks_cons (v := xS 200) trivial hs))) kk
theorem xslen_at {k : Nat} (hk : k < 15) : xslen.getD k 0 = (xch k).length := by
  unfold xslen
  rw [List.getD_eq_getElem?_getD, List.getElem?_map, List.getElem?_range hk]
  rfl
theorem xsbyt_at {k : Nat} (hk : k < 15) : xsbyt.getD k [] = (xch k).map Int32.ofNat := by
  unfold xsbyt
  rw [List.getD_eq_getElem?_getD, List.getElem?_map, List.getElem?_range hk]
  rfl
theorem xch_le (k : Nat) : (xch k).length ≤ 6 := by
  unfold xch
  repeat' split
  all_goals simp
theorem e_bal {k : Nat} (hk : k < 15) (hd : decode mm.2.1 pc = .ok (.arraylength, 1)) (kk : Ex l g d mm (pc + 1) L (xI (xslenI k) :: st) A R r A' R') : Ex l g d mm pc L (xS (100 + k) :: st) A R r A' R' :=
  e_step (fun p e Rm s m args below meth c H locs cells slots Q ls C hr hl hL ho hs kk => by
    obtain ⟨adK, adV, h5, h6, h7, -⟩ := C.2.2.2.2.2.2.2.2.2.2.2.2
    have e1 : xval g (xS (100 + k)) = .ref (adV k) := by show va_rf (g.2.2.2.1 (100 + k)) = _; rw [(h5 k hk).2]; rfl
    obtain ⟨cell, q1, q2, q3, q4, q5, q6, q7⟩ := (h7.1 k hk).2.2.2.kept hr.2.2.2.2.1
    have := kk ls hl hL ho (oks_cons (v := xI (xslenI k)) (by have := xch_le k; unfold okv i4 xslenI; omega) (oks_tl hs))
    simp only [List.map] at this ⊢
    rw [e1]
    exact W.alen C.1 C.2.1 q1 q2 (by rw [q5, xslen_at hk]; rfl) rfl rfl hd this) kk
theorem xch_ok : ∀ k : Fin 15, ∀ j : Fin 7, j.val < (xch k.val).length → ((xch k.val).map Int32.ofNat).getD j.val 0 = Int32.ofInt (xcharI k.val (j.val : Int)) ∧ 0 ≤ xcharI k.val (j.val : Int) ∧ xcharI k.val (j.val : Int) ≤ 122 := by decide +kernel
theorem e_bald {k : Nat} {j : Int} (hk : k < 15) (h0 : 0 ≤ j) (h1 : j < xslenI k) (hd : decode mm.2.1 pc = .ok (.baload, 1)) (kk : Ex l g d mm (pc + 1) L (xI (xcharI k j) :: st) A R r A' R') : Ex l g d mm pc L (xI j :: xS (100 + k) :: st) A R r A' R' :=
  e_step (fun p e Rm s m args below meth c H locs cells slots Q ls C hr hl hL ho hs kk => by
    obtain ⟨adK, adV, h5, h6, h7, -⟩ := C.2.2.2.2.2.2.2.2.2.2.2.2
    have e1 : xval g (xS (100 + k)) = .ref (adV k) := by show va_rf (g.2.2.2.1 (100 + k)) = _; rw [(h5 k hk).2]; rfl
    obtain ⟨cell, q1, q2, q3, q4, q5, q6, q7⟩ := (h7.1 k hk).2.2.2.kept hr.2.2.2.2.1
    have hl6 := xch_le k
    unfold xslenI at h1
    have hj : j.toNat < (xch k).length := by omega
    have hc := xch_ok ⟨k, hk⟩ ⟨j.toNat, by omega⟩ hj
    simp only [Int.toNat_of_nonneg h0] at hc
    have hn := i4_nn (oks_hd hs) h0
    have := kk ls hl hL ho (oks_cons (v := xI (xcharI k j)) (by unfold okv i4; omega) (oks_tl (oks_tl hs)))
    simp only [List.map] at this ⊢
    rw [e1]
    have q6' : cell.slots[j.toNat]? = some (.int ((xsbyt.getD k []).getD j.toNat 0)) := q6 j.toNat (by rw [xslen_at hk]; exact hj)
    rw [xsbyt_at hk, hc.1] at q6'
    rw [xslen_at hk] at q4
    exact W.bald C.1 C.2.1 (j := Int32.ofInt j) q1 q2 q3 (fun q => q.elim hn.1 (fun q => by rw [hn.2.1] at q; omega)) (by rw [hn.2.1]; exact q6') rfl rfl hd this) kk
theorem i2c_ok : ∀ n : Fin 256, ((Int32.ofInt (n.val : Int)).toUInt32 % 65536).toInt32 = Int32.ofInt (n.val : Int) := by decide +kernel
theorem e_i2c {j : Int} (h0 : 0 ≤ j) (h1 : j ≤ 255) (hd : decode mm.2.1 pc = .ok (.i2c, 1)) (kk : Ex l g d mm (pc + 1) L (xI j :: st) A R r A' R') : Ex l g d mm pc L (xI j :: st) A R r A' R' :=
  e_step (fun p e Rm s m args below meth c H locs cells slots Q ls C hr hl hL ho hs kk => by
    have h := i2c_ok ⟨j.toNat, by omega⟩
    simp only [Int.toNat_of_nonneg h0] at h
    exact lv_i2c C.1 C.2.1 hd h (kk ls hl hL ho hs)) kk
/-- a method of a constant -/
theorem e_callVS {cal : xM} {idx n k : Nat} {As L0 st0 : List xV} {r1 : Option xV} {A1 : xA} {R1 : xN} (hk : k < 15) (hd : decode mm.2.1 pc = .ok (.invokevirtual idx, 3)) (hM : xMVS mm.1.cls idx cal n) (hn : As.length = n) (hst0 : As.reverse ++ (xS k :: st) = st0) (hL0 : xent (xS k :: As) cal.2.2.1 = L0) (hset : (xS k :: As).all xset = true) (hlen : Nat.ble (xexp (xS k :: As)).length cal.2.2.1 = true) (hsz : Nat.ble (xsz st) 8 = true) (hokr : okr cal.2.2.2 r1) (h1 : Ex l g d cal 0 L0 [] A R r1 A1 R1) (kk : Ex l g (d + 1) mm (pc + 3) L (r1.toList ++ st) A1 R1 r A' R') : Ex l g (d + 1) mm pc L st0 A R r A' R' := by
  subst hst0
  refine e_call hM.1 (fun h => ⟨oks_tl (oks_app h).2, oks_cons (oks_hd (oks_app h).2) (oks_rev (oks_app h).1)⟩) hL0 hset hlen hokr h1 (fun p e Rm s m args below meth c H locs cells slots ls C hr hls hP hc hMet => ?_) kk
  obtain ⟨hx, hb, hml, hown, hts, hname, hfr, hlo, hKK⟩ := C
  obtain ⟨⟨w1, w2, w3, w4, w5⟩, w6, w7, w8, w9⟩ := hM
  obtain ⟨adK, adV, h5, h6, h7, -⟩ := hKK.2.2.2.2
  have e0 : xval g (xS k) = .ref (adK k) := by show va_rf (g.2.2.2.1 k) = _; rw [(h5 k hk).1]; rfl
  obtain ⟨cellV, g1, g2, g3, -⟩ := (h7.1 k hk).1.kept hr.2.2.2.2.1
  have hcb : CallB Rm s args mm.1.cls idx cal.1 cal.2.1 cal.2.2.1 cal.2.2.2 (xws cal) (xrm d (A1.2.2.1 - A.2.2.1) (A1.2.2.2 - A.2.2.2)) (A1.2.2.1 - A.2.2.1) (A1.2.2.2 - A.2.2.2) n :=
    callB_of n hts (xws_good ⟨w1, w2, w3, w4, w5⟩) rfl rfl rfl (hts _ w2) (hts _ w6) w3 ⟨hfr, by
      have := Nat.le_of_ble_eq_true w5
      show 8 + (cal.2.2.1 + 11) + 36 * d ≤ Rm.locals
      omega⟩
  have eA : (xS k :: As).map (xval g) = .ref (adK k) :: As.map (xval g) := by rw [← e0]; rfl
  rw [eA] at hP ⊢
  exact va_runV (As := As.map (xval g)) (b := adK k) (rest := st.map (xval g)) (C := "java/lang/String") (nL := mm.2.2.1) (g := F0 m pc ls ((As.reverse ++ (xS k :: st)).map (xval g))) ⟨hx, hb, hml, hown, hts⟩ hMet ⟨hcb, hts _ w7, by rw [← w9]; exact hts _ w8⟩ ⟨xPc.calling, ⟨cellV, g1, g2, g3⟩, hP⟩ rfl (by rw [List.length_map]; exact hn) hls (by rw [List.map_append, List.map_reverse, ← e0]; rfl) (xrest hsz) hd hc
theorem q_coder {k : Nat} (hk : k < 15) : Ex l g d mJ0_coder_7d493 0 [xS k] [] A R (some (xI 0)) A R :=
  e_gst dJ0_coder_7d493_0 cw_fv38 (e_ifeqF dJ0_coder_7d493_3 (tgt := 13) rfl (by decide) (e_aload_nS dJ0_coder_7d493_6 rfl (i := 0) (x := k) rfl (xsok15 hk) (e_gsc hk dJ0_coder_7d493_7 cw_fv15 (e_goto dJ0_coder_7d493_10 (tgt := 14) rfl (e_iret dJ0_coder_7d493_14)))))
theorem q_latin {k : Nat} (hk : k < 15) : Ex l g d mJ0_isLatin1_aae02 0 [xS k] [] A R (some (xI 1)) A R :=
  e_gst dJ0_isLatin1_aae02_0 cw_fv38 (e_ifeqF dJ0_isLatin1_aae02_3 (tgt := 17) rfl (by decide) (e_aload_nS dJ0_isLatin1_aae02_6 rfl (i := 0) (x := k) rfl (xsok15 hk) (e_gsc hk dJ0_isLatin1_aae02_7 cw_fv15 (e_ifneF dJ0_isLatin1_aae02_10 (tgt := 17) rfl rfl (e_iconst dJ0_isLatin1_aae02_13 (k4 rfl) (e_goto dJ0_isLatin1_aae02_14 (tgt := 18) rfl (e_iret dJ0_isLatin1_aae02_18)))))))
theorem shr0 : ∀ n : Fin 7, b4shr (n.val : Int) 0 = (n.val : Int) := by decide +kernel
theorem q_length {k : Nat} (hk : k < 15) : Ex l g (d + 1) mJ0_length_8abf5 0 [xS k] [] A R (some (xI (xslenI k))) A R := by
  have e : b4shr (xslenI k) 0 = xslenI k := shr0 ⟨(xch k).length, by have := xch_le k; omega⟩
  have h := @e_iret l g (d + 1) mJ0_length_8abf5 10 [xS k] A R (b4shr (xslenI k) 0) dJ0_length_8abf5_10
  rw [e] at h
  refine e_aload_nS dJ0_length_8abf5_0 rfl (i := 0) (x := k) rfl (xsok15 hk) (e_gsv hk dJ0_length_8abf5_1 cw_fv9 (e_bal hk dJ0_length_8abf5_4 (e_aload_nS dJ0_length_8abf5_5 rfl (i := 0) (x := k) rfl (xsok15 hk) (e_callVS (r1 := some (xI 0)) (As := []) (st := [xI (xslenI k)]) hk dJ0_length_8abf5_6 mlJ0_335 rfl rfl rfl rfl rfl rfl rfl (q_coder hk) (e_ishr dJ0_length_8abf5_9 ?_)))))
  rw [e]
  exact h
theorem q_chk3 {i n : Int} (h0 : 0 ≤ i) (h1 : i < n) (z : Nat) : Ex l g d mJ3_checkIndex_8e157 0 [xI i, xI n, xS z] [] A R (some (xI i)) A R :=
  e_iload_n dJ3_checkIndex_8e157_0 rfl (i := 0) (x := i) rfl (e_ifltF dJ3_checkIndex_8e157_1 (tgt := 9) rfl (by omega) (e_iload_n dJ3_checkIndex_8e157_4 rfl (i := 0) (x := i) rfl (e_iload_n dJ3_checkIndex_8e157_5 rfl (i := 1) (x := n) rfl (e_cltT dJ3_checkIndex_8e157_6 (tgt := 16) rfl h1 (e_iload_n dJ3_checkIndex_8e157_16 rfl (i := 0) (x := i) rfl (e_iret dJ3_checkIndex_8e157_17))))))
theorem q_chk0 {i n : Int} (h0 : 0 ≤ i) (h1 : i < n) : Ex l g (d + 1) mJ0_checkIndex_df160 0 [xI i, xI n] [] A R none A R :=
  e_iload_n dJ0_checkIndex_df160_0 rfl (i := 0) (x := i) rfl (e_iload_n dJ0_checkIndex_df160_1 rfl (i := 1) (x := n) rfl (e_gsf dJ0_checkIndex_df160_2 cw_fv1053 (e_callS (r1 := some (xI i)) (As := [xI i, xI n, xS 200]) (st := []) dJ0_checkIndex_df160_5 mlJ0_1059 rfl rfl rfl rfl rfl rfl trivial (q_chk3 h0 h1 200) (e_pop dJ0_checkIndex_df160_8 (e_vret dJ0_checkIndex_df160_9)))))
theorem and255 : ∀ n : Fin 123, b4and (n.val : Int) 255 = (n.val : Int) := by decide +kernel
theorem xchar_le {k : Nat} {j : Int} (hk : k < 15) (h0 : 0 ≤ j) (h1 : j < xslenI k) : 0 ≤ xcharI k j ∧ xcharI k j ≤ 122 := by
  have hl6 := xch_le k
  unfold xslenI at h1
  have hc := xch_ok ⟨k, hk⟩ ⟨j.toNat, by omega⟩ (by show j.toNat < (xch k).length; omega)
  simp only [Int.toNat_of_nonneg h0] at hc
  exact hc.2
theorem q_char1 {k : Nat} {j : Int} (hk : k < 15) (h0 : 0 ≤ j) (h1 : j < xslenI k) : Ex l g (d + 2) mJ1_charAt_3b067 0 [xS (100 + k), xI j] [] A R (some (xI (xcharI k j))) A R := by
  have hc := xchar_le hk h0 h1
  have e : b4and (xcharI k j) 255 = xcharI k j := by
    have := and255 ⟨(xcharI k j).toNat, by omega⟩
    simp only [Int.toNat_of_nonneg hc.1] at this
    exact this
  refine e_iload_n dJ1_charAt_3b067_0 rfl (i := 1) (x := j) rfl (e_aload_nS dJ1_charAt_3b067_1 rfl (i := 0) (x := 100 + k) rfl (xsok115 hk) (e_bal hk dJ1_charAt_3b067_2 (e_callS (r1 := none) (As := [xI j, xI (xslenI k)]) (st := []) dJ1_charAt_3b067_3 mlJ1_9 rfl rfl rfl rfl rfl rfl trivial (q_chk0 h0 h1) (e_aload_nS dJ1_charAt_3b067_6 rfl (i := 0) (x := 100 + k) rfl (xsok115 hk) (e_iload_n dJ1_charAt_3b067_7 rfl (i := 1) (x := j) rfl (e_bald hk h0 h1 dJ1_charAt_3b067_8 (e_sipush dJ1_charAt_3b067_9 rfl (k4 rfl) (e_iand dJ1_charAt_3b067_12 ?_))))))))
  rw [e]
  exact e_i2c hc.1 (by omega) dJ1_charAt_3b067_13 (e_iret dJ1_charAt_3b067_14)
theorem q_charAt {k : Nat} {j : Int} (hk : k < 15) (h0 : 0 ≤ j) (h1 : j < xslenI k) : Ex l g (d + 3) mJ0_charAt_5068e 0 [xS k, xI j] [] A R (some (xI (xcharI k j))) A R :=
  have hc := xchar_le hk h0 h1
  e_aload_nS dJ0_charAt_5068e_0 rfl (i := 0) (x := k) rfl (xsok15 hk) (e_callVS (r1 := some (xI 1)) (As := []) (st := []) hk dJ0_charAt_5068e_1 mlJ0_492 rfl rfl rfl rfl rfl rfl (Or.inr rfl) (q_latin hk) (e_ifeqF dJ0_charAt_5068e_4 (tgt := 16) rfl (by decide) (e_aload_nS dJ0_charAt_5068e_7 rfl (i := 0) (x := k) rfl (xsok15 hk) (e_gsv hk dJ0_charAt_5068e_8 cw_fv9 (e_iload_n dJ0_charAt_5068e_11 rfl (i := 1) (x := j) rfl (e_callS (r1 := some (xI (xcharI k j))) (As := [xS (100 + k), xI j]) (st := []) dJ0_charAt_5068e_12 mlJ0_495 rfl rfl rfl rfl rfl rfl ⟨hc.1, by omega⟩ (q_char1 hk h0 h1) (e_iret dJ0_charAt_5068e_15)))))))
theorem e_slen {i idx : Nat} (hd : decode mm.2.1 pc = .ok (.invokevirtual idx, 3)) (hM : xMVS mm.1.cls idx mJ0_length_8abf5 0) (hi : i < 15) (hsz : Nat.ble (xsz st) 8 = true) (k : Ex l g (d + 5) mm (pc + 3) L (xI (xslenI i) :: st) A R r A' R') : Ex l g (d + 5) mm pc L (xS i :: st) A R r A' R' :=
  e_callVS (r1 := some (xI (xslenI i))) (d := d + 4) (As := []) (st := st) hi hd hM rfl rfl rfl rfl rfl hsz trivial (q_length (d := d + 3) hi) k
theorem e_schar {i idx : Nat} {j : Int} (hd : decode mm.2.1 pc = .ok (.invokevirtual idx, 3)) (hM : xMVS mm.1.cls idx mJ0_charAt_5068e 1) (hi : i < 15) (h0 : 0 ≤ j) (h1 : j < xslenI i) (hsz : Nat.ble (xsz st) 8 = true) (k : Ex l g (d + 5) mm (pc + 3) L (xI (xcharI i j) :: st) A R r A' R') : Ex l g (d + 5) mm pc L (xI j :: xS i :: st) A R r A' R' :=
  have hc := xchar_le hi h0 h1
  e_callVS (r1 := some (xI (xcharI i j))) (d := d + 4) (As := [xI j]) (st := st) hi hd hM rfl rfl rfl rfl rfl hsz ⟨hc.1, by omega⟩ (q_charAt (d := d + 1) hi h0 h1) k
end XST
