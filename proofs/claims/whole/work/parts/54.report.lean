/-! ===== report ===== -/
theorem P_mid {S T : Mem} {w n : Int} {k i : Nat} (hr : RW T) (hp : PS S T w n) (hw : -1 ≤ w ∧ w < 2147483648) (hk : k < 14) (hi : i < 8) (e : ltr k = [32] ++ (wrd i ++ [32])) (hl : (ltr k).length ≤ 6) (hn : n + 6 ≤ 600) : ∃ S1 T1 T2 T3, f_X4_letters S k = some S1 ∧ f_X8_writes T 32 = some T1 ∧ f_X8_writesWord T1 i = some T2 ∧ f_X8_writes T2 32 = some T3 ∧ PS S1 T3 w (n + 6) ∧ FP S S1 ∧ FM T T3 := by
  obtain ⟨S1, T3, a1, a2, a3, a4, a5⟩ := P_list hw (ltr k) hp (by omega)
  rw [e, wrs_app, wrs_one] at a2
  cases hx : f_X8_writes T 32 with
  | none => rw [hx] at a2; cases a2
  | some T1 =>
    rw [hx, Option.bind_some, ← M_word1 (hr.wr hx) hi] at a2
    cases hy : f_X8_writesWord T1 i with
    | none => rw [hy] at a2; cases a2
    | some T2 =>
      rw [hy, Option.bind_some] at a2
      exact ⟨S1, T1, T2, T3, by rw [C_lt hk]; exact a1, rfl, hy, a2, a3.mono (by omega), a4, a5⟩
