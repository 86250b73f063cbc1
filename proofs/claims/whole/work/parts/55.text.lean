/-! ===== the two readers ===== -/
def kd (x : Int) : Int := if 97 ≤ x ∧ x ≤ 122 then 1 else if 48 ≤ x ∧ x ≤ 57 then 2 else if x = 32 ∨ x = 10 then 5 else if x = 59 then 3 else 4
theorem C_kindAll : ∀ x : Nat, x < 256 → f_X6_kindOf S13 (sgn (x : Int)) = some (kd x) := by decide +kernel
theorem C_kindOf {S : Mem} {x : Int} (h0 : 0 ≤ x) (h1 : x ≤ 255) : f_X6_kindOf S (sgn x) = some (kd x) := by
  have := C_kindAll x.toNat (by omega)
  rw [show ((x.toNat : Nat) : Int) = x by omega] at this
  exact this
