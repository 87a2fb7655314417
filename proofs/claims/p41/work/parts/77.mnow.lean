/-! The model lays the sheet as it is now. -/
/-- the folds of a row s of the model -/
def gfs (s : Nat → Int) : List Nat := (List.range (s 2).toNat).map (fun k => (s (3 + k)).toNat)
theorem gfs_len {s : Nat → Int} : (gfs s).length = (s 2).toNat := by unfold gfs; rw [List.length_map, List.length_range]
theorem gfs_at {s : Nat → Int} {i : Nat} (h : i < (s 2).toNat) : (gfs s).getD i 0 = (s (3 + i)).toNat := by
  unfold gfs
  rw [List.getD_eq_getElem?_getD, List.getElem?_map, List.getElem?_range h]
  rfl
