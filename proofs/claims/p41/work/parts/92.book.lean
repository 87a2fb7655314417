/-! All booklets. -/
def dg4 : List Nat := [1, 2, 3, 4]
def allF : List (List Nat) := [[]] ++ dg4.map (fun a => [a]) ++ dg4.flatMap (fun a => dg4.map (fun b => [a, b])) ++ dg4.flatMap (fun a => dg4.flatMap (fun b => dg4.map (fun c => [a, b, c]))) ++ dg4.flatMap (fun a => dg4.flatMap (fun b => dg4.flatMap (fun c => dg4.map (fun d => [a, b, c, d]))))
theorem allF_mem {fs : List Nat} (hl : fs.length ≤ 4) (h : ∀ f ∈ fs, 1 ≤ f ∧ f ≤ 4) : fs ∈ allF := by
  have hd : ∀ f ∈ fs, f ∈ dg4 := fun f hf => dig_mem (h f hf)
  unfold allF
  match fs, hl, hd with
  | [], _, _ => simp
  | [a], _, hd => have := hd a (by simp); simp [this]
  | [a, b], _, hd => have h1 := hd a (by simp); have h2 := hd b (by simp); simp [h1, h2]
  | [a, b, c], _, hd => have h1 := hd a (by simp); have h2 := hd b (by simp); have h3 := hd c (by simp); simp; exact ⟨a, h1, b, h2, c, h3, rfl, rfl, rfl⟩
  | [a, b, c, d], _, hd => have h1 := hd a (by simp); have h2 := hd b (by simp); have h3 := hd c (by simp); have h4 := hd d (by simp); simp; exact ⟨a, h1, b, h2, c, h3, d, h4, rfl, rfl, rfl, rfl⟩
  | _ :: _ :: _ :: _ :: _ :: _, hl, _ => exact absurd hl (by simp)
def bkP (P : Nat → Nat → gG → Bool) (H W : Nat) (fs : List Nat) : Bool := match gall fs (gg0 H W) with
  | some g => if g.1 = 1 ∧ g.2.1 = 1 then P H W g else true
  | none => true
theorem bk_all {P : Nat → Nat → gG → Bool} (h : ∀ H ∈ ([1, 2, 4] : List Nat), ∀ W ∈ ([1, 2, 4] : List Nat), ∀ fs ∈ allF, bkP P H W fs = true) {H W : Nat} {g : gG} {fs : List Nat} (hH : len H) (hW : len W) (hg : gall fs (gg0 H W) = some g) (hl : fs.length ≤ 4) (hb : g.1 = 1 ∧ g.2.1 = 1) : P H W g = true := by
  have := h H (len_mem hH) W (len_mem hW) fs (allF_mem hl (gall_dig hg))
  unfold bkP at this
  rw [hg] at this
  simp only [hb, and_self, if_true] at this
  exact this
