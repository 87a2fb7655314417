/-! Geometry: definitions and facts by number. -/
def gmv (f r c p : Nat) : Nat := if f ≤ 2 then (p / (c / 2)) * c + (c - 1 - (p % (c / 2) + if f = 1 then c / 2 else 0)) else (r - 1 - (p / c + if f = 3 then r / 2 else 0)) * c + p % c
def gst (f r c p : Nat) : Nat := if f ≤ 2 then (p / (c / 2)) * c + (p % (c / 2) + if f = 1 then c / 2 else 0) else (p / c + if f = 3 then r / 2 else 0) * c + p % c
def gtn (f : Nat) : Nat := if f ≤ 2 then 16 else 32
/-- a table folded, at one place: f the fold, r rows, c columns, d layers before it -/
def gfold (f r c d : Nat) (t : Nat → Nat) (i : Nat) : Nat := if i % (2 * d) < d then (t ((gmv f r c (i / (2 * d)) + 1) * d - 1 - i % (2 * d))) ^^^ gtn f else t (gst f r c (i / (2 * d)) * d + (i % (2 * d) - d))
theorem lay_fs : ∀ r ∈ ([1, 2, 4] : List Nat), ∀ c ∈ ([2, 4] : List Nat), ∀ f ∈ ([1, 2] : List Nat), ∀ p : Nat, p < 8 → p < r * (c / 2) → (c / 2 : Nat) ≠ 0 ∧
    w4 (w4 (w4 (w4 (Int.tdiv (p : Int) ((c / 2 : Nat) : Int)) + (if (f : Int) = 3 then (r : Int) else 0)) * (c : Int)) + w4 (w4 ((c : Int) - 1) - w4 (Int.tmod (p : Int) ((c / 2 : Nat) : Int) + (if (f : Int) = 1 then ((c / 2 : Nat) : Int) else 0)))) = (gmv f r c p : Int) ∧
    w4 (w4 (w4 (w4 (Int.tdiv (p : Int) ((c / 2 : Nat) : Int)) + (if (f : Int) = 3 then (r : Int) else 0)) * (c : Int)) + w4 (Int.tmod (p : Int) ((c / 2 : Nat) : Int) + (if (f : Int) = 1 then ((c / 2 : Nat) : Int) else 0))) = (gst f r c p : Int) ∧ gmv f r c p < r * c ∧ gst f r c p < r * c := by decide +kernel
theorem lay_fsq : ∀ r ∈ ([1, 2, 4] : List Nat), ∀ c ∈ ([2, 4] : List Nat), ∀ f ∈ ([1, 2] : List Nat), ∀ p : Nat, p < 8 → p < r * (c / 2) → (c / 2 : Nat) ≠ 0 ∧
    Qe (w4 (w4 (w4 (w4 (Int.tdiv (p : Int) ((c / 2 : Nat) : Int)) + (if (f : Int) = 3 then (r : Int) else 0)) * (c : Int)) + w4 (w4 ((c : Int) - 1) - w4 (Int.tmod (p : Int) ((c / 2 : Nat) : Int) + (if (f : Int) = 1 then ((c / 2 : Nat) : Int) else 0))))) (gmv f r c p : Int) ∧
    Qe (w4 (w4 (w4 (w4 (Int.tdiv (p : Int) ((c / 2 : Nat) : Int)) + (if (f : Int) = 3 then (r : Int) else 0)) * (c : Int)) + w4 (Int.tmod (p : Int) ((c / 2 : Nat) : Int) + (if (f : Int) = 1 then ((c / 2 : Nat) : Int) else 0)))) (gst f r c p : Int) ∧ gmv f r c p < r * c ∧ gst f r c p < r * c := lay_fs
theorem lay_fv : ∀ r ∈ ([2, 4] : List Nat), ∀ c ∈ ([1, 2, 4] : List Nat), ∀ f ∈ ([3, 4] : List Nat), ∀ p : Nat, p < 8 → p < (r / 2) * c →
    w4 (w4 (w4 (w4 ((r : Int) - 1) - w4 (w4 (Int.tdiv (p : Int) (c : Int)) + (if (f : Int) = 3 then ((r / 2 : Nat) : Int) else 0))) * (c : Int)) + w4 (Int.tmod (p : Int) (c : Int) + (if (f : Int) = 1 then (c : Int) else 0))) = (gmv f r c p : Int) ∧
    w4 (w4 (w4 (w4 (Int.tdiv (p : Int) (c : Int)) + (if (f : Int) = 3 then ((r / 2 : Nat) : Int) else 0)) * (c : Int)) + w4 (Int.tmod (p : Int) (c : Int) + (if (f : Int) = 1 then (c : Int) else 0))) = (gst f r c p : Int) ∧ gmv f r c p < r * c ∧ gst f r c p < r * c := by decide +kernel
theorem lay_fvq : ∀ r ∈ ([2, 4] : List Nat), ∀ c ∈ ([1, 2, 4] : List Nat), ∀ f ∈ ([3, 4] : List Nat), ∀ p : Nat, p < 8 → p < (r / 2) * c →
    Qe (w4 (w4 (w4 (w4 ((r : Int) - 1) - w4 (w4 (Int.tdiv (p : Int) (c : Int)) + (if (f : Int) = 3 then ((r / 2 : Nat) : Int) else 0))) * (c : Int)) + w4 (Int.tmod (p : Int) (c : Int) + (if (f : Int) = 1 then (c : Int) else 0)))) (gmv f r c p : Int) ∧
    Qe (w4 (w4 (w4 (w4 (Int.tdiv (p : Int) (c : Int)) + (if (f : Int) = 3 then ((r / 2 : Nat) : Int) else 0)) * (c : Int)) + w4 (Int.tmod (p : Int) (c : Int) + (if (f : Int) = 1 then (c : Int) else 0)))) (gst f r c p : Int) ∧ gmv f r c p < r * c ∧ gst f r c p < r * c := lay_fv
/-- what one place's pile is, in numbers -/
theorem pile_num {np d p mv st rc : Nat} (hd : d = 1 ∨ d = 2 ∨ d = 4 ∨ d = 8) (hN : np * 2 = rc) (hrc : rc * d ≤ 16) (hp : p < np) (hm : mv < rc) (hs : st < rc) :
    Qe (w4 ((w4 ((p : Int) * (d : Int))) * 2)) ((2 * d * p : Nat) : Int) ∧ Qe (w4 ((w4 ((w4 ((mv : Int) + 1)) * (d : Int))) - 1)) (((mv + 1) * d - 1 : Nat) : Int) ∧ Qe (w4 ((st : Int) * (d : Int))) ((st * d : Nat) : Int) ∧ 2 * d * p + 2 * d ≤ 16 ∧ (mv + 1) * d - 1 < 16 ∧ d ≤ (mv + 1) * d - 1 + 1 ∧ st * d + d ≤ 16 ∧ 2 * d * p + 2 * d ≤ 2 * d * np := by
  rcases hd with rfl | rfl | rfl | rfl
  all_goals
    refine ⟨?_, ?_, ?_, ?_, ?_, ?_, ?_, ?_⟩
    · unfold Qe; rw [w4_of (x := (p : Int) * _) (by omega), w4_of (by omega)]; omega
    · unfold Qe; rw [w4_of (x := (mv : Int) + 1) (by omega), w4_of (x := ((mv : Int) + 1) * _) (by omega), w4_of (by omega)]; omega
    · unfold Qe; rw [w4_of (by omega)]; omega
    all_goals omega

