/-! ===== the two readers ===== -/
def kd (x : Int) : Int := if 97 ≤ x ∧ x ≤ 122 then 1 else if 48 ≤ x ∧ x ≤ 57 then 2 else if x = 32 ∨ x = 10 then 5 else if x = 59 then 3 else 4
theorem C_kindAll : ∀ x : Nat, x < 256 → f_X6_kindOf S13 (sgn (x : Int)) = some (kd x) := by decide +kernel
theorem C_kindOf {S : Mem} {x : Int} (h0 : 0 ≤ x) (h1 : x ≤ 255) : f_X6_kindOf S (sgn x) = some (kd x) := by
  have := C_kindAll x.toNat (by omega)
  rw [show ((x.toNat : Nat) : Int) = x by omega] at this
  exact this
/-- where a run of one kind ends -/
def rnd (T : Mem) (a k : Int) : Int := a + (ledN (fun j => decide (kd (T 12 (a + j)) = k)) (T 0 17 - a).toNat : Nat)
theorem rnd_bnd {T : Mem} {a k : Int} (h : a ≤ T 0 17) : a ≤ rnd T a k ∧ rnd T a k ≤ T 0 17 := by
  have := ledN_le (fun j => decide (kd (T 12 (a + j)) = k)) (T 0 17 - a).toNat
  unfold rnd
  omega
theorem rnd_in {T : Mem} {a k i : Int} (h0 : a ≤ i) (h1 : i < rnd T a k) : kd (T 12 i) = k := by
  have := ledN_lt (fun j => decide (kd (T 12 (a + j)) = k)) (T 0 17 - a).toNat (i - a).toNat (by unfold rnd at h1; omega)
  simp only [decide_eq_true_eq] at this
  rw [show a + (((i - a).toNat : Nat) : Int) = i by omega] at this
  exact this
theorem rnd_stop {T : Mem} {a k : Int} (h : a ≤ T 0 17) (h1 : rnd T a k < T 0 17) : kd (T 12 (rnd T a k)) ≠ k := by
  have := ledN_stop (fun j => decide (kd (T 12 (a + j)) = k)) (T 0 17 - a).toNat (by unfold rnd at h1; omega)
  simp only [decide_eq_false_iff_not] at this
  exact this
theorem kd_bnd (x : Int) : 1 ≤ kd x ∧ kd x ≤ 5 := by
  unfold kd
  split
  · omega
  · split
    · omega
    · split
      · omega
      · split <;> omega
theorem C_endOfRun {S T : Mem} {a k : Int} (h : RT S T) (h0 : 0 ≤ a) (h1 : a ≤ T 0 17) (hk : 0 ≤ k ∧ k ≤ 9) : f_X6_endOfRun S a k = some (rnd T a k) := by
  obtain ⟨r0, r1, r2, r3⟩ := h
  have rb := rnd_bnd (T := T) (k := k) h1
  have := lp_seq (step := f_X6_endOfRun_l2 S k) (fun n => a + (n : Int)) (rnd T a k - a).toNat (rnd T a k) (fun i hi => by
    have t := r3 (a + i) (by omega) (by omega)
    have e := rnd_in (T := T) (a := a) (k := k) (i := a + i) (by omega) (by omega)
    unfold f_X6_endOfRun_l2
    rw [r0, if_pos (ltb_t (by omega) (by omega) (by omega)), if_pos (by omega), t.2.2, C_kindOf t.1 t.2.1, Option.bind_some, e, if_pos (eqb_t rfl), show a + (i : Int) + 1 = a + ((i + 1 : Nat) : Int) by omega]) (by
    rw [show a + (((rnd T a k - a).toNat : Nat) : Int) = rnd T a k by omega]
    unfold f_X6_endOfRun_l2
    rw [r0]
    by_cases hl : rnd T a k < T 0 17
    · have t := r3 (rnd T a k) (by omega) hl
      have kb := kd_bnd (T 12 (rnd T a k))
      rw [if_pos (ltb_t hl (by omega) (by omega)), if_pos (by omega), t.2.2, C_kindOf t.1 t.2.1, Option.bind_some, if_neg (nq (rnd_stop h1 hl) (by omega) (by omega) (by omega) (by omega))]
    · rw [if_neg (nl (by omega) (by omega) (by omega))]) (n := FU) (by rw [FU_eq]; omega)
  rw [show a + ((0 : Nat) : Int) = a by omega] at this
  unfold f_X6_endOfRun
  rw [this]
  rfl
