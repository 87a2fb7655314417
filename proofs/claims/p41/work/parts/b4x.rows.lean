/-! The action rows with what the action does, told. -/
theorem act8 {f f9 : xN → Option (Int × xN)} {sp : sSp} {v : Int} {s' : Nat → Int} (hc : cSpec f sp) (h9 : ∀ R, f9 R = (f_X1_keep 45 1 R).bind (fun v1 => (f v1).bind (fun v2 => (f_X1_settle 45 v2.1 v2.2).bind (fun v3 => some (v3.1, v3.2))))) {R : xN} {s : Nat → Int} {hs : List (Nat → Int)} (hI : CI R s hs) (e : sp s = (v, s')) : ∃ R', f9 R = some (v, R') ∧ (err v → CI R' s' hs) ∧ (¬ err v → hs.length ≤ 4 → CI R' s' (s :: hs)) := by
  obtain ⟨R', h1, h2, h3⟩ := act9 hc h9 hI
  rw [e] at h1 h2 h3
  exact ⟨R', h1, h2, h3⟩
theorem dact8 {f f9 : xN → Option (Int × xN)} {sp : sSp} {v : Int} {s' : Nat → Int} (hc : dSpec f sp) (h9 : ∀ R, f9 R = (f_X1_keep 45 1 R).bind (fun v1 => (f v1).bind (fun v2 => (f_X1_settle 45 v2.1 v2.2).bind (fun v3 => some (v3.1, v3.2))))) {R : xN} {s : Nat → Int} {hs : List (Nat → Int)} (hI : CI R s hs) (e : sp s = (v, s')) : ∃ R', f9 R = some (v, R') ∧ (err v → CI R' s' hs) ∧ (¬ err v → hs.length ≤ 4 → CI R' s' (s :: hs)) := by
  obtain ⟨R', h1, h2, h3⟩ := dact9 hc h9 hI
  rw [e] at h1 h2 h3
  exact ⟨R', h1, h2, h3⟩
