/-! least: the ball just below the first above 5040; the tries that a search behind it takes (wip/proto/bfs.py) -/
/-- tries of a search without result, n more picks to go, out of m gates -/
def tryN (m : Nat) : Nat → Nat
  | 0 => 1
  | n + 1 => m * (tryN m n + 1) + 1
def nrK (k n0 n : Nat) : Bool := Nat.ble (bcn 21 (bball (gsK k) (n0 - 1))) 5040 && Nat.ble (tryN (gsK k).length (n - n0)) 999999
theorem nrK_5 : nrK 5 7 12 = true := by decide +kernel
theorem nrK_7 : nrK 7 5 8 = true := by decide +kernel
theorem nrK_13 : nrK 13 6 11 = true := by decide +kernel
theorem nrK_15 : nrK 15 5 8 = true := by decide +kernel
theorem nrK_19 : nrK 19 5 8 = true := by decide +kernel
