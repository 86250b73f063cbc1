/-! ===== a word, on both sides ===== -/
theorem wd_all : ∀ k : Nat, k < 4 → wAt.getD k 0 ≤ 22 ∧ sLen k ≤ 7 ∧ 1 ≤ sLen k ∧ wTab.getD (wAt.getD k 0 + sLen k) 0 = 0 ∧ ∀ i : Nat, i < sLen k → wTab.getD (wAt.getD k 0 + i) 0 = sChr k (i : Int) ∧ 97 ≤ sChr k (i : Int) ∧ sChr k (i : Int) ≤ 122 := by decide +kernel
theorem W_both {S T : Mem} (hr : RT S T) (hw : RW T) (h : RD S T) (ok : T 0 23 = 0) (k : Nat) (hk : k < 4) : (f_X6_isWord S k = some 0 ∧ f_X8_takesWord T (k : Int) = some (0, T)) ∨ (f_X6_isWord S k = some 1 ∧ T 0 20 = 1 ∧ f_X8_takesWord T (k : Int) = (f_X8_goesOn T).bind fun S24 => some (1, S24)) := by
  obtain ⟨a1, a2, a3, a4, a5, a6, a7⟩ := h
  have l5 := hr.2.2.1
  obtain ⟨w1, w2, w3, w4, w5⟩ := wd_all k hk
  have tb : 0 ≤ T 0 20 ∧ T 0 20 ≤ 4 := by
    rcases a7 with ⟨b1, b2, b3⟩ | ⟨b1, b2, b3, b4, b5⟩ <;> omega
  by_cases q : T 0 20 = 1
  · have lt := a6 (by omega)
    have b4 : S 1 1 = 1 ∧ ∀ i, T 0 21 ≤ i → i < T 0 19 → 97 ≤ T 12 i ∧ T 12 i ≤ 122 := by
      rcases a7 with ⟨b1, b2, b3⟩ | ⟨b1, b2, b3, b4, b5⟩
      · omega
      · exact ⟨by omega, b4 q⟩
    obtain ⟨bc, b4⟩ := b4
    have hs : ∀ i, T 0 21 ≤ i → i < T 0 19 → S 3 i = T 12 i := fun i i0 i1 => by
      have := b4 i i0 i1
      rw [(hr.2.2.2 i (by omega) (by omega)).2.2, sgn_id (by omega)]
    have ht : ∀ i : Nat, i < sLen k → T 13 ((wAt.getD k 0 : Nat) + (i : Int)) = sChr k (i : Int) := fun i hi => by
      rw [show ((wAt.getD k 0 : Nat) : Int) + (i : Int) = ((wAt.getD k 0 + i : Nat) : Int) by omega, hw _ (by omega)]
      exact (w5 i hi).1
    have hz : T 13 ((wAt.getD k 0 : Nat) + (sLen k : Int)) = 0 := by
      rw [show ((wAt.getD k 0 : Nat) : Int) + (sLen k : Int) = ((wAt.getD k 0 + sLen k : Nat) : Int) by omega, hw _ (by omega)]
      exact w4
    generalize hr0 : ledN (fun j => decide (T 13 ((wAt.getD k 0 : Nat) + j) = T 12 (T 0 21 + j))) (T 0 19 - T 0 21).toNat = r
    have rle := ledN_le (fun j => decide (T 13 ((wAt.getD k 0 : Nat) + j) = T 12 (T 0 21 + j))) (T 0 19 - T 0 21).toNat
    have rlt : ∀ i : Nat, i < r → T 13 ((wAt.getD k 0 : Nat) + (i : Int)) = T 12 (T 0 21 + (i : Int)) := fun i hi => by
      have := ledN_lt (fun j => decide (T 13 ((wAt.getD k 0 : Nat) + j) = T 12 (T 0 21 + j))) (T 0 19 - T 0 21).toNat i (by rw [hr0]; exact hi)
      simp only [decide_eq_true_eq] at this
      exact this
    have rst : r < (T 0 19 - T 0 21).toNat → T 13 ((wAt.getD k 0 : Nat) + (r : Int)) ≠ T 12 (T 0 21 + (r : Int)) := fun hi => by
      have := ledN_stop (fun j => decide (T 13 ((wAt.getD k 0 : Nat) + j) = T 12 (T 0 21 + j))) (T 0 19 - T 0 21).toNat (by rw [hr0]; exact hi)
      simp only [decide_eq_false_iff_not] at this
      rw [hr0] at this
      exact this
    rw [hr0] at rle
    clear hr0
    have rk : r ≤ sLen k := by
      rcases Nat.lt_or_ge (sLen k) r with z | z
      · have z1 := rlt (sLen k) z
        have z2 := b4 (T 0 21 + (sLen k : Int)) (by omega) (by omega)
        omega
      · exact z
    have ml : lp (f_X8_takesWord_l25 T ((wAt.getD k 0 : Nat) : Int)) FU 0 = some (r : Int) := by
      have g := lp_seq (step := f_X8_takesWord_l25 T ((wAt.getD k 0 : Nat) : Int)) (fun n => (n : Int)) r (r : Int) (fun i hi => by
        have e := rlt i hi
        unfold f_X8_takesWord_l25
        rw [if_pos (ltb_t (by omega) (by omega) (by omega)), if_pos (by omega), if_pos (by omega), if_pos (eqb_t e)]
        rfl) (by
        unfold f_X8_takesWord_l25
        by_cases z : T 0 21 + (r : Int) < T 0 19
        · have e := rst (by omega)
          have z2 := b4 (T 0 21 + (r : Int)) (by omega) z
          have z3 : 0 ≤ T 13 ((wAt.getD k 0 : Nat) + (r : Int)) ∧ T 13 ((wAt.getD k 0 : Nat) + (r : Int)) ≤ 122 := by
            rcases Nat.lt_or_ge r (sLen k) with y | y
            · rw [ht r y]
              have := (w5 r y).2
              omega
            · have : r = sLen k := by omega
              rw [this, hz]
              decide
          rw [if_pos (ltb_t z (by omega) (by omega)), if_pos (by omega), if_pos (by omega), if_neg (nq e (by omega) (by omega) (by omega) (by omega))]
        · rw [if_neg (nl (by omega) (by omega) (by omega))]) (n := FU) (by rw [FU_eq]; omega)
      exact g
    have mw : f_X8_takesWord T (k : Int) = if eqb (T 0 21 + (r : Int)) (T 0 19) = true then (if (0 : Int) ≤ ((wAt.getD k 0 : Nat) : Int) + (r : Int) ∧ (((wAt.getD k 0 : Nat) : Int) + (r : Int)) < 44 then (if eqb (T 13 (((wAt.getD k 0 : Nat) : Int) + (r : Int))) 0 = true then ((f_X8_goesOn T).bind fun S24 => some (1, S24)) else (some (0, T))) else none) else (some (0, T)) := by
      unfold f_X8_takesWord
      rw [if_pos (eqb_t ok), if_pos (eqb_t q), M_wordFrom hw (by omega), Option.bind_some, ml, Option.bind_some]
    rw [mw]
    unfold f_X6_isWord
    rw [if_pos (eqb_t bc), a1, a2]
    by_cases z : T 0 21 + (r : Int) = T 0 19
    · rw [if_pos (eqb_t z), if_pos (show (0 : Int) ≤ ((wAt.getD k 0 : Nat) : Int) + (r : Int) ∧ (((wAt.getD k 0 : Nat) : Int) + (r : Int)) < 44 by omega)]
      rcases Nat.lt_or_ge r (sLen k) with y | y
      · left
        have c := w5 r y
        rw [if_neg (nq (show T 0 19 - T 0 21 ≠ (sLen k : Int) by omega) (by omega) (by omega) (by omega) (by omega)), ht r y, if_neg (nq (by omega) (by omega) (by omega) (by omega) (by omega))]
        exact ⟨rfl, rfl⟩
      · right
        have er : r = sLen k := by omega
        have cl := lp_seq (step := f_X6_isWord_l28 S k) (fun n => (n : Int)) (sLen k) (Sum.inl ()) (fun i hi => by
          have e := rlt i (by omega)
          rw [ht i hi] at e
          unfold f_X6_isWord_l28
          rw [if_pos (ltb_t (by omega) (by omega) (by omega)), a1, if_pos (by omega), if_pos (by omega), hs _ (by omega) (by omega), if_pos (eqb_t e.symm)]
          rfl) (by
          unfold f_X6_isWord_l28
          rw [if_neg (nl (by omega) (by omega) (by omega))]) (n := FU) (by rw [FU_eq]; omega)
        rw [show ((0 : Nat) : Int) = 0 from rfl] at cl
        rw [if_pos (eqb_t (show T 0 19 - T 0 21 = (sLen k : Int) by omega)), cl, Option.bind_some, er, hz, if_pos e00]
        exact ⟨rfl, q, rfl⟩
    · left
      rw [if_neg (nq z (by omega) (by omega) (by omega) (by omega))]
      refine ⟨?_, rfl⟩
      by_cases y : T 0 19 - T 0 21 = (sLen k : Int)
      · have hlt : r < sLen k := by omega
        have e := rst (by omega)
        rw [ht r hlt] at e
        have z2 := b4 (T 0 21 + (r : Int)) (by omega) (by omega)
        have c := w5 r hlt
        have cl := lp_seq (step := f_X6_isWord_l28 S k) (fun n => (n : Int)) r (Sum.inr 0) (fun i hi => by
          have e := rlt i (by omega)
          rw [ht i (by omega)] at e
          unfold f_X6_isWord_l28
          rw [if_pos (ltb_t (by omega) (by omega) (by omega)), a1, if_pos (by omega), if_pos (by omega), hs _ (by omega) (by omega), if_pos (eqb_t e.symm)]
          rfl) (by
          unfold f_X6_isWord_l28
          rw [if_pos (ltb_t (by omega) (by omega) (by omega)), a1, if_pos (by omega), if_pos (by omega), hs _ (by omega) (by omega), if_neg (nq (fun z => e z.symm) (by omega) (by omega) (by omega) (by omega))]) (n := FU) (by rw [FU_eq]; omega)
        rw [show ((0 : Nat) : Int) = 0 from rfl] at cl
        rw [if_pos (eqb_t y), cl]
        rfl
      · rw [if_neg (nq y (by omega) (by omega) (by omega) (by omega))]
  · left
    have sc : S 1 1 ≠ 1 ∧ 0 ≤ S 1 1 ∧ S 1 1 ≤ 9 := by
      rcases a7 with ⟨b1, b2, b3⟩ | ⟨b1, b2, b3, b4, b5⟩ <;> omega
    unfold f_X6_isWord f_X8_takesWord
    rw [if_neg (nq sc.1 (by omega) (by omega) (by omega) (by omega)), if_pos (eqb_t ok), if_neg (nq q (by omega) (by omega) (by omega) (by omega))]
    exact ⟨rfl, rfl⟩
