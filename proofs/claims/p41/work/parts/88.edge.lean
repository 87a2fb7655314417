/-! Geometry: edges between leaves. -/
def cr (n : Nat) : Nat := n % 16 / 4
def eRt (n : Nat) : Nat := if mir n = 1 then 0 else 1
def eBl (n : Nat) : Nat := if ups n = 1 then 2 else 3
/-- the edge along which two leaves hang together, by one more; 0: none -/
def eC (n m : Nat) : Nat := if cr n = cr m ∧ m % 4 = n % 4 + 1 then eRt n + 1 else if cr n = cr m ∧ n % 4 = m % 4 + 1 then eRt m + 1 else if n % 4 = m % 4 ∧ cr m = cr n + 1 then eBl n + 1 else if n % 4 = m % 4 ∧ cr n = cr m + 1 then eBl m + 1 else 0
def eB (n m : Nat) : Nat := if eC n m = 0 then 0 else 2 ^ (eC n m - 1)
def ebO (x y : Int) : Option Int := f_X3_edgesBetween 0 0 1 (fun _ j => if j = 0 then x else y)
set_option maxHeartbeats 4000000 in
theorem eb_num : ∀ n : Nat, n < 64 → ∀ m : Nat, m < 64 → ebO (n : Int) (m : Int) = some (eB n m : Int) := by decide +kernel
