/-! Looking: hanging, together, reading, pageOf; a cut. -/
theorem lastp {R : xN} {b D : Nat} {t : Nat → Nat} (h : LC R b D t) : f_X3_lastPage b R = some (2 * (D : Int) - 1) := by
  have hD := h.1
  unfold f_X3_lastPage
  rw [h.2.2, Option.bind_some, w4_of (x := (D : Int) * 2) (by omega), w4_of (by omega), Int.mul_comm]
theorem why_0 {s : Nat → Int} {W p : Nat} {t : Nat → Nat} : why s W t p = 0 ↔ own s W t p := by
  unfold why own
  by_cases c1 : s (90 + kS W (t (p / 2)) p) < 0
  · rw [if_pos c1]
    exact ⟨fun h => absurd h (by decide), fun h => by omega⟩
  · rw [if_neg c1]
    by_cases c2 : s (90 + kS W (t (p / 2)) p) = (p : Int)
    · rw [if_pos c2]
      by_cases c3 : s (122 + kS W (t (p / 2)) p) = (tU s (t (p / 2)) p : Int)
      · rw [if_pos c3]; exact ⟨fun _ => ⟨c2, c3⟩, fun _ => rfl⟩
      · rw [if_neg c3]; exact ⟨fun h => absurd h (by decide), fun h => absurd h.2 c3⟩
    · rw [if_neg c2]
      exact ⟨fun h => absurd h (by decide), fun h => absurd h.1 c2⟩
theorem why_sh {s : Nat → Int} {W p : Nat} {t : Nat → Nat} : why s W t p = if s (90 + kS W (t (p / 2)) p) < 0 then 2 else if s (90 + kS W (t (p / 2)) p) = (p : Int) then (if why s W t p = 0 then 0 else 4) else 3 := by
  by_cases c1 : s (90 + kS W (t (p / 2)) p) < 0
  · rw [if_pos c1]; unfold why; rw [if_pos c1]
  · rw [if_neg c1]
    by_cases c2 : s (90 + kS W (t (p / 2)) p) = (p : Int)
    · rw [if_pos c2]
      unfold why
      rw [if_neg c1, if_pos c2]
      by_cases c3 : s (122 + kS W (t (p / 2)) p) = (tU s (t (p / 2)) p : Int)
      · rw [if_pos c3]; rfl
      · rw [if_neg c3]; rfl
    · rw [if_neg c2]; unfold why; rw [if_neg c1, if_neg c2]
