/-! An action: the class keeps, does and settles; the model acts. -/
def err (r : Int) : Prop := -3 ≤ r ∧ r ≤ -1
def kDesk (R R' : xN) : Prop := ∀ q j : Nat, ¬ (1 ≤ q ∧ q < 45) → ¬ (311 ≤ q ∧ q < 314) → R' q j = R q j
def sSp : Type := (Nat → Int) → Int × (Nat → Int)
def cSpec (f : xN → Option (Int × xN)) (sp : sSp) : Prop := ∀ (R : xN) (s : Nat → Int), SR R 1 s → ∃ R', f R = some ((sp s).1, R') ∧ kDesk R R' ∧ SR R' 1 (sp s).2
/-- the model's answer r and its row s' behind it -/
def mRes (R : xN) (o : Option (Int × xN)) (r : Int) (s' : Nat → Int) : Prop := (err r ∧ ∃ R', o = some (r, R') ∧ kLay R R') ∨ (¬ err r ∧ ∃ Ra, kLay R Ra ∧ ∀ Rb, f_X10_act 323 Ra = some Rb → (∀ q j : Nat, q ≠ 325 → ¬ (q = 323 ∧ j = 3) → Rb q j = Ra q j) → ∃ R', o = some (r, R') ∧ (∀ j : Nat, j < 464 → R' 324 j = s' j) ∧ ∀ q j : Nat, q ≠ 324 → R' q j = Rb q j)
def mSpec (m : xN → Option (Int × xN)) (sp : sSp) : Prop := ∀ R : xN, (∃ R0, SR R0 1 (R 324)) → mRes R (m R) (sp (R 324)).1 (sp (R 324)).2
theorem iHist.of {R R' : xN} (h : iHist R) (h1 : R' 45 1 = R 45 1) (h2 : ∀ k : Nat, k < 6 → R' 46 k = R 46 k) : iHist R' := by
  obtain ⟨a, b, c, d⟩ := h
  refine ⟨by rw [h1]; exact a, by rw [h1]; exact b, fun k hk => by rw [h2 k hk]; exact c k hk, fun k k' hk hk' e => d k k' hk hk' ?_⟩
  rw [h2 k hk, h2 k' hk'] at e
  exact e
theorem iText.of {R R' : xN} (h : iText R) (h1 : R' 0 5 = R 0 5) (h2 : R' 323 4 = R 323 4) (h3 : ∀ j : Nat, R' 319 j = R 319 j) (h4 : ∀ j : Nat, R' 327 j = R 327 j) : iText R' := by
  obtain ⟨a, b, c, d⟩ := h
  refine ⟨by rw [h1]; exact a, by rw [h1]; exact b, by rw [h2, h1]; exact c, fun j hj => ?_⟩
  rw [h1] at hj
  rw [h3, h4]
  exact d j hj
theorem act_row {f m f9 : xN → Option (Int × xN)} {sp : sSp} (hc : cSpec f sp) (hm : mSpec m sp) (hE : ∀ (R : xN) (s : Nat → Int), SR R 1 s → err (sp s).1 → (sp s).2 = s) (h9 : ∀ R, f9 R = (f_X1_keep 45 1 R).bind (fun v1 => (f v1).bind (fun v2 => (f_X1_settle 45 v2.1 v2.2).bind (fun v3 => some (v3.1, v3.2))))) : opM Inv f9 m := by
  intro R hI
  obtain ⟨i1, i2, i3, i4, i5, i6⟩ := hI
  have n0 := i2.1
  have n5 := i2.2.1
  obtain ⟨R1, k1, k2, k3⟩ := hkeep i2 i1.fil
  obtain ⟨i, hi, he⟩ := i2.2.2.1 (R 45 1).toNat (by omega)
  rw [he, Int.toNat_natCast] at k2 k3
  have s1 : SR R1 1 (R 324) := i1.out (fun q j h1 h2 => k3 q j (by omega))
  have sp1 : SR R1 (47 + 44 * i) (R 324) := i1.eq k2
  obtain ⟨R2, b1, b2, b3⟩ := hc R1 (R 324) s1
  have f12 : ∀ q j : Nat, ¬ (1 ≤ q ∧ q < 45) → ¬ (311 ≤ q ∧ q < 314) → ¬ (47 + 44 * i ≤ q ∧ q < 47 + 44 * i + 44) → R2 q j = R q j := fun q j h1 h2 h3 => by rw [b2 q j h1 h2, k3 q j (by omega)]
  have sp2 : SR R2 (47 + 44 * i) (R 324) := sp1.out (fun q j h1 h2 => b2 q j (by omega) (by omega))
  have hr324 : R2 324 = R 324 := funext fun j => f12 324 j (by omega) (by omega) (by omega)
  have old : ∀ k : Nat, (k : Int) < R 45 1 → SR R2 (R 46 k).toNat (fun j => R 325 (464 * k + j)) ∧ ∃ ik : Nat, ik < 6 ∧ R 46 k = ((47 + 44 * ik : Nat) : Int) := fun k hk => by
    obtain ⟨ik, hik, hek⟩ := i2.2.2.1 k (by omega)
    refine ⟨?_, ik, hik, hek⟩
    have hne : ik ≠ i := fun h => by
      have := i2.2.2.2 k (R 45 1).toNat (by omega) (by omega) (by rw [hek, he, h])
      omega
    have := i6 k hk
    rw [hek, Int.toNat_natCast] at this ⊢
    exact this.out (fun q j h1 h2 => f12 q j (by omega) (by omega) (by omega))
  have M0 : ∀ R3 : xN, R3 324 = R 324 → mRes R3 (m R3) (sp (R 324)).1 (sp (R 324)).2 := fun R3 h3 => by
    have M := hm R3 ⟨R1, by rw [h3]; exact s1⟩
    rw [h3] at M
    exact M
  by_cases hr : err (sp (R 324)).1
  · have hs := hE R (R 324) i1 hr
    rcases M0 R2 hr324 with ⟨_, R3, m1, m2⟩ | ⟨h, _⟩
    · have fr : ∀ q j : Nat, q < 323 → R3 q j = R2 q j := fun q j hq => m2 q j (by omega) (by omega)
      refine ⟨(sp (R 324)).1, R2, R3, ?_, m1, ?_, ?_, ?_, ?_, ?_, fun k hk => ?_⟩
      · rw [h9, k1, Option.bind_some, b1, Option.bind_some]
        show (f_X1_settle 45 (sp (R 324)).1 R2).bind _ = _
        rw [settle_err hr]
        rfl
      · have h324 : R3 324 = R 324 := funext fun j => by rw [m2 324 j (by omega) (by omega), hr324]
        rw [h324]
        rw [hs] at b3
        exact b3.out (fun q j h1 h2 => fr q j (by omega))
      · exact i2.of (by rw [fr 45 1 (by omega), f12 45 1 (by omega) (by omega) (by omega)]) (fun k hk => by rw [fr 46 k (by omega), f12 46 k (by omega) (by omega) (by omega)])
      · exact i3.of (by rw [fr 0 5 (by omega), f12 0 5 (by omega) (by omega) (by omega)]) (by rw [m2 323 4 (by omega) (by omega), f12 323 4 (by omega) (by omega) (by omega)]) (fun j => by rw [fr 319 j (by omega), f12 319 j (by omega) (by omega) (by omega)]) (fun j => by rw [m2 327 j (by omega) (by omega), f12 327 j (by omega) (by omega) (by omega)])
      · rw [m2 323 6 (by omega) (by omega), f12 323 6 (by omega) (by omega) (by omega), i4]
      · rw [m2 323 3 (by omega) (by omega), f12 323 3 (by omega) (by omega) (by omega), i5, fr 45 1 (by omega), f12 45 1 (by omega) (by omega) (by omega)]
      · rw [fr 45 1 (by omega), f12 45 1 (by omega) (by omega) (by omega)] at hk
        obtain ⟨o1, ik, o2, o3⟩ := old k hk
        rw [fr 46 k (by omega), f12 46 k (by omega) (by omega) (by omega)]
        have e325 : (fun j => R3 325 (464 * k + j)) = (fun j => R 325 (464 * k + j)) := funext fun j => by rw [m2 325 _ (by omega) (by omega), f12 325 _ (by omega) (by omega) (by omega)]
        rw [e325]
        rw [o3, Int.toNat_natCast] at o1 ⊢
        exact o1.out (fun q j h1 h2 => fr q j (by omega))
    · exact absurd hr h
  · by_cases hn : R 45 1 < 5
    · have h45 : R2 45 1 = R 45 1 := f12 45 1 (by omega) (by omega) (by omega)
      have hset := settle_grow (R := R2) hr (by omega) (by omega)
      rw [h45] at hset
      have g3 : ∀ q j : Nat, ¬ (q = 45 ∧ j = 1) → (xup R2 45 1 (R 45 1 + 1)) q j = R2 q j := fun q j h => by
        rw [xup_get]
        by_cases hq : q = 45
        · rw [if_pos hq, if_neg (fun h' => h ⟨hq, h'⟩)]
        · rw [if_neg hq]
      have g45 : (xup R2 45 1 (R 45 1 + 1)) 45 1 = R 45 1 + 1 := by rw [xup_get, if_pos rfl, if_pos rfl]
      generalize hR3 : xup R2 45 1 (R 45 1 + 1) = R3 at hset g3 g45
      rcases M0 R3 (funext fun j => by rw [g3 324 j (by omega), hr324]) with ⟨h, _⟩ | ⟨_, Ra, ma, mb⟩
      · exact absurd h hr
      · obtain ⟨n, hnn⟩ := Int.eq_ofNat_of_zero_le n0
        have ha6 : Ra 323 6 = 0 := by rw [ma 323 6 (by omega) (by omega), g3 323 6 (by omega), f12 323 6 (by omega) (by omega) (by omega), i4]
        have ha3 : Ra 323 3 = (n : Int) := by rw [ma 323 3 (by omega) (by omega), g3 323 3 (by omega), f12 323 3 (by omega) (by omega) (by omega), i5, hnn]
        have ha324 : ∀ j : Nat, Ra 324 j = R 324 j := fun j => by rw [ma 324 j (by omega) (by omega), g3 324 j (by omega), hr324]
        obtain ⟨Rb, c1, c2, c3, c4⟩ := act_grow ha6 (by omega) ha3
        obtain ⟨R', d1, d2, d3⟩ := mb Rb c1 (fun q j h1 h2 => c4 q j (by omega) h2)
        have fr : ∀ q j : Nat, q < 323 → ¬ (q = 45 ∧ j = 1) → R' q j = R2 q j := fun q j hq h => by rw [d3 q j (by omega), c4 q j (by omega) (by omega), ma q j (by omega) (by omega), g3 q j h]
        have f45 : R' 45 1 = R 45 1 + 1 := by rw [d3 45 1 (by omega), c4 45 1 (by omega) (by omega), ma 45 1 (by omega) (by omega), g45]
        refine ⟨(sp (R 324)).1, R3, R', ?_, d1, ?_, ?_, ?_, ?_, ?_, fun k hk => ?_⟩
        · rw [h9, k1, Option.bind_some, b1, Option.bind_some]
          show (f_X1_settle 45 (sp (R 324)).1 R2).bind _ = _
          rw [hset]
          rfl
        · exact (b3.sg d2).out (fun q j h1 h2 => fr q j (by omega) (by omega))
        · obtain ⟨-, -, u3, u4⟩ := i2
          have f46 : ∀ k : Nat, R' 46 k = R 46 k := fun k => by rw [fr 46 k (by omega) (by omega), f12 46 k (by omega) (by omega) (by omega)]
          refine ⟨by omega, by omega, fun k hk => by rw [f46]; exact u3 k hk, fun k k' hk hk' e => u4 k k' hk hk' (by rw [f46, f46] at e; exact e)⟩
        · exact i3.of (by rw [fr 0 5 (by omega) (by omega), f12 0 5 (by omega) (by omega) (by omega)]) (by rw [d3 323 4 (by omega), c4 323 4 (by omega) (by omega), ma 323 4 (by omega) (by omega), g3 323 4 (by omega), f12 323 4 (by omega) (by omega) (by omega)]) (fun j => by rw [fr 319 j (by omega) (by omega), f12 319 j (by omega) (by omega) (by omega)]) (fun j => by rw [d3 327 j (by omega), c4 327 j (by omega) (by omega), ma 327 j (by omega) (by omega), g3 327 j (by omega), f12 327 j (by omega) (by omega) (by omega)])
        · rw [d3 323 6 (by omega), c4 323 6 (by omega) (by omega), ha6]
        · rw [d3 323 3 (by omega), c3, f45, hnn]
        · rw [f45] at hk
          rw [fr 46 k (by omega) (by omega), f12 46 k (by omega) (by omega) (by omega)]
          by_cases hkn : k = n
          · subst hkn
            have : R 46 k = ((47 + 44 * i : Nat) : Int) := by rw [← he, hnn]; rfl
            rw [this, Int.toNat_natCast]
            refine (sp2.sg (s' := fun j => R' 325 (464 * k + j)) (fun j hj => ?_)).out (fun q j h1 h2 => fr q j (by omega) (by omega))
            show R' 325 (464 * k + j) = R 324 j
            rw [d3 325 _ (by omega), c2 j hj, ha324]
          · obtain ⟨o1, ik, o2, o3⟩ := old k (by omega)
            rw [o3, Int.toNat_natCast] at o1 ⊢
            refine (o1.sg (s' := fun j => R' 325 (464 * k + j)) (fun j hj => ?_)).out (fun q j h1 h2 => fr q j (by omega) (by omega))
            show R' 325 (464 * k + j) = R 325 (464 * k + j)
            rw [d3 325 _ (by omega), c4 325 _ (by omega) (by omega), ma 325 _ (by omega) (by omega), g3 325 _ (by omega), f12 325 _ (by omega) (by omega) (by omega)]
    · have hn5 : R 45 1 = 5 := by omega
      have h45 : R2 45 1 = 5 := by rw [f12 45 1 (by omega) (by omega) (by omega), hn5]
      have h46 : ∀ k : Nat, R2 46 k = R 46 k := fun k => f12 46 k (by omega) (by omega) (by omega)
      have hh2 : iHist R2 := i2.of (f12 45 1 (by omega) (by omega) (by omega)) (fun k _ => h46 k)
      obtain ⟨R3, t1, t2, t3, t4⟩ := settle_drop (i := (sp (R 324)).1) hr hh2 h45
      rcases M0 R3 (funext fun j => by rw [t4 324 j (by omega), hr324]) with ⟨h, _⟩ | ⟨_, Ra, ma, mb⟩
      · exact absurd h hr
      · have ha6 : Ra 323 6 = 0 := by rw [ma 323 6 (by omega) (by omega), t4 323 6 (by omega), f12 323 6 (by omega) (by omega) (by omega), i4]
        have ha3 : Ra 323 3 = 5 := by rw [ma 323 3 (by omega) (by omega), t4 323 3 (by omega), f12 323 3 (by omega) (by omega) (by omega), i5, hn5]
        have ha324 : ∀ j : Nat, Ra 324 j = R 324 j := fun j => by rw [ma 324 j (by omega) (by omega), t4 324 j (by omega), hr324]
        have ha325 : ∀ j : Nat, Ra 325 j = R 325 j := fun j => by rw [ma 325 j (by omega) (by omega), t4 325 j (by omega), f12 325 _ (by omega) (by omega) (by omega)]
        obtain ⟨Rb, c1, c2, c2', c3, c4⟩ := act_shift ha6 ha3
        obtain ⟨R', d1, d2, d3⟩ := mb Rb c1 (fun q j h1 h2 => c4 q j h1 h2)
        have fr : ∀ q j : Nat, q < 323 → q ≠ 46 → R' q j = R2 q j := fun q j hq h => by rw [d3 q j (by omega), c4 q j (by omega) (by omega), ma q j (by omega) (by omega), t4 q j (by omega)]
        have f46 : ∀ k : Nat, R' 46 k = R3 46 k := fun k => by rw [d3 46 k (by omega), c4 46 k (by omega) (by omega), ma 46 k (by omega) (by omega)]
        have f46a : ∀ k : Nat, k < 5 → R' 46 k = R 46 (k + 1) := fun k hk => by rw [f46, t2 k hk, h46]
        have f46b : R' 46 5 = R 46 0 := by rw [f46, t3, h46]
        have f45 : R' 45 1 = 5 := by rw [fr 45 1 (by omega) (by omega), h45]
        refine ⟨(sp (R 324)).1, R3, R', ?_, d1, ?_, ?_, ?_, ?_, ?_, fun k hk => ?_⟩
        · rw [h9, k1, Option.bind_some, b1, Option.bind_some]
          show (f_X1_settle 45 (sp (R 324)).1 R2).bind _ = _
          rw [t1]
          rfl
        · exact (b3.sg d2).out (fun q j h1 h2 => fr q j (by omega) (by omega))
        · obtain ⟨-, -, u3, u4⟩ := i2
          have turn : ∀ k : Nat, k < 6 → ∃ k2 : Nat, k2 < 6 ∧ R' 46 k = R 46 k2 ∧ (k2 = k + 1 ∨ k2 + 5 = k) := fun k hk => by
            by_cases h5 : k < 5
            · exact ⟨k + 1, by omega, f46a k h5, Or.inl rfl⟩
            · have : k = 5 := by omega
              subst this
              exact ⟨0, by omega, f46b, Or.inr rfl⟩
          refine ⟨by omega, by omega, fun k hk => ?_, fun k k' hk hk' e => ?_⟩
          · obtain ⟨k2, hk2, e2, -⟩ := turn k hk
            rw [e2]; exact u3 k2 hk2
          · obtain ⟨k2, hk2, e2, x2⟩ := turn k hk
            obtain ⟨k3, hk3, e3, x3⟩ := turn k' hk'
            rw [e2, e3] at e
            have := u4 k2 k3 hk2 hk3 e
            omega
        · exact i3.of (by rw [fr 0 5 (by omega) (by omega), f12 0 5 (by omega) (by omega) (by omega)]) (by rw [d3 323 4 (by omega), c4 323 4 (by omega) (by omega), ma 323 4 (by omega) (by omega), t4 323 4 (by omega), f12 323 4 (by omega) (by omega) (by omega)]) (fun j => by rw [fr 319 j (by omega) (by omega), f12 319 j (by omega) (by omega) (by omega)]) (fun j => by rw [d3 327 j (by omega), c4 327 j (by omega) (by omega), ma 327 j (by omega) (by omega), t4 327 j (by omega), f12 327 j (by omega) (by omega) (by omega)])
        · rw [d3 323 6 (by omega), c4 323 6 (by omega) (by omega), ha6]
        · rw [d3 323 3 (by omega), c3, f45]
        · rw [f45] at hk
          have hk5 : k < 5 := by omega
          rw [f46a k hk5]
          by_cases hkn : k = 4
          · subst hkn
            have : R 46 (4 + 1) = ((47 + 44 * i : Nat) : Int) := by rw [← he, hn5]; rfl
            rw [this, Int.toNat_natCast]
            refine (sp2.sg (s' := fun j => R' 325 (464 * 4 + j)) (fun j hj => ?_)).out (fun q j h1 h2 => fr q j (by omega) (by omega))
            show R' 325 (464 * 4 + j) = R 324 j
            rw [d3 325 _ (by omega), c2' j hj, ha324]
          · obtain ⟨o1, ik, o2, o3⟩ := old (k + 1) (by omega)
            rw [o3, Int.toNat_natCast] at o1 ⊢
            refine (o1.sg (s' := fun j => R' 325 (464 * k + j)) (fun j hj => ?_)).out (fun q j h1 h2 => fr q j (by omega) (by omega))
            show R' 325 (464 * k + j) = R 325 (464 * (k + 1) + j)
            rw [d3 325 _ (by omega), c2 _ (by omega), ha325]
            congr 1
            omega
