/-! ===== undo ===== -/
theorem C_load {S : Mem} {p : Int} (h0 : 0 ≤ p) (h1 : p < 12) : ∃ S1 S', f_X1_loadFrom S 5 (p * 126) = some S1 ∧ f_X3_loadFrom S1 (p * 126 + 93) = some S' ∧ (∀ k, k ≠ 5 → k ≠ 6 → k ≠ 7 → k ≠ 8 → k ≠ 32 → k ≠ 33 → S' k = S k) ∧ (∀ k, k ≠ 5 → k ≠ 6 → k ≠ 7 → k ≠ 8 → S1 k = S k) ∧ S' 5 0 = S 35 (126 * p) ∧ S' 5 1 = S 35 (126 * p + 1) ∧ S' 5 2 = S 35 (126 * p + 2) ∧ (∀ b, 0 ≤ b → b < 9 → S' 6 b = S 35 (126 * p + (3 + b)) ∧ S' 7 b = S 35 (126 * p + (12 + b))) ∧ (∀ x, 0 ≤ x → x < 72 → S' 8 x = S 35 (126 * p + (21 + x))) ∧ S' 32 0 = S 35 (126 * p + 93) ∧ ∀ x, 0 ≤ x → x < 32 → S' 33 x = S 35 (126 * p + (94 + x)) := by
  let A1 := wr (wr (wr S 5 0 (S 35 (p * 126))) 5 1 (S 35 (p * 126 + 1))) 5 2 (S 35 (p * 126 + 2))
  let A2 := cpy (cpy (cpy A1 35 (p * 126 + 3) 6 0 9) 35 (p * 126 + 3 + 9) 7 0 9) 35 (p * 126 + 3 + 9 + 9) 8 0 72
  let A3 := cpy (wr A2 32 0 (S 35 (p * 126 + 93))) 35 (p * 126 + 93 + 1) 33 0 32
  have f1 : ∀ k, k ≠ 5 → A1 k = S k := fun k hk => by show wr _ 5 _ _ k = _; rw [wr_ne hk, wr_ne hk, wr_ne hk]
  have f2 : ∀ k, k ≠ 5 → k ≠ 6 → k ≠ 7 → k ≠ 8 → A2 k = S k := fun k k5 k6 k7 k8 => by show cpy _ _ _ 8 _ _ k = _; rw [cpy_ne k8, cpy_ne k7, cpy_ne k6]; exact f1 k k5
  have hs1 : f_X1_loadFrom S 5 (p * 126) = some A2 := by
    unfold f_X1_loadFrom
    rw [if_pos (by omega)]
    dsimp only [wrk]
    rw [if_pos (by omega), wr_cell (k := 35) (by decide), if_pos (by omega), wr_cell (k := 35) (by decide), wr_cell (k := 35) (by decide), if_pos (by omega)]
    dsimp only [cpyk]
    rw [if_pos (by omega), if_pos (by omega)]
  have hs2 : f_X3_loadFrom A2 (p * 126 + 93) = some A3 := by
    unfold f_X3_loadFrom
    rw [if_pos (by omega)]
    dsimp only [wrk]
    rw [if_pos (by omega), f2 35 (by decide) (by decide) (by decide) (by decide)]
    rfl
  have g3 : ∀ k, k ≠ 32 → k ≠ 33 → A3 k = A2 k := fun k x y => by show cpy _ _ _ 33 _ _ k = _; rw [cpy_ne y, wr_ne x]
  refine ⟨A2, A3, hs1, hs2, fun k k5 k6 k7 k8 k32 k33 => by rw [g3 k k32 k33]; exact f2 k k5 k6 k7 k8, f2, ?_, ?_, ?_, fun b b0 b1 => ⟨?_, ?_⟩, fun x x0 x1 => ?_, ?_, fun x x0 x1 => ?_⟩
  · rw [g3 5 (by decide) (by decide)]
    show cpy _ _ _ 8 _ _ 5 0 = _
    rw [cpy_ne (by decide), cpy_ne (by decide), cpy_ne (by decide)]
    show wr _ 5 2 _ 5 0 = _
    rw [wr_idx (by decide), wr_idx (by decide), wr_eq, Int.mul_comm]
  · rw [g3 5 (by decide) (by decide)]
    show cpy _ _ _ 8 _ _ 5 1 = _
    rw [cpy_ne (by decide), cpy_ne (by decide), cpy_ne (by decide)]
    show wr _ 5 2 _ 5 1 = _
    rw [wr_idx (by decide), wr_eq, Int.mul_comm]
  · rw [g3 5 (by decide) (by decide)]
    show cpy _ _ _ 8 _ _ 5 2 = _
    rw [cpy_ne (by decide), cpy_ne (by decide), cpy_ne (by decide)]
    show wr _ 5 2 _ 5 2 = _
    rw [wr_eq, Int.mul_comm]
  · rw [g3 6 (by decide) (by decide)]
    show cpy _ _ _ 8 _ _ 6 b = _
    rw [cpy_ne (by decide), cpy_ne (by decide), cpy_at, if_pos (by omega), f1 35 (by decide), show p * 126 + 3 + (b - 0) = 126 * p + (3 + b) by omega]
  · rw [g3 7 (by decide) (by decide)]
    show cpy _ _ _ 8 _ _ 7 b = _
    rw [cpy_ne (by decide), cpy_at, if_pos (by omega), cpy_ne (by decide), f1 35 (by decide), show p * 126 + 3 + 9 + (b - 0) = 126 * p + (12 + b) by omega]
  · rw [g3 8 (by decide) (by decide)]
    show cpy _ _ _ 8 _ _ 8 x = _
    rw [cpy_at, if_pos (by omega), cpy_ne (by decide), cpy_ne (by decide), f1 35 (by decide), show p * 126 + 3 + 9 + 9 + (x - 0) = 126 * p + (21 + x) by omega]
  · show cpy _ _ _ 33 _ _ 32 0 = _
    rw [cpy_ne (by decide), wr_eq, Int.mul_comm]
  · show cpy _ _ _ 33 _ _ 33 x = _
    rw [cpy_at, if_pos (by omega), wr_ne (by decide), f2 35 (by decide) (by decide) (by decide) (by decide), show p * 126 + 93 + 1 + (x - 0) = 126 * p + (94 + x) by omega]
theorem Q_undo {S T : Mem} (h : Rel S T) : ∃ r S' T', f_X7_undo S = some (r, S') ∧ f_X8_undo T = some (r, T') ∧ Rel S' T' := by
  obtain ⟨r0, r1, r2, r3, r4, r5⟩ := h.2.2.2.2.1
  unfold f_X7_undo f_X8_undo
  rw [r0]
  by_cases hz : T 0 5 = 0
  · rw [if_pos (eqb_t hz), if_pos (eqb_t hz)]
    exact ⟨_, _, _, rfl, rfl, h⟩
  · have q := nq hz (by omega) (by omega) (by omega) (by omega)
    rw [if_neg q, if_neg q]
    have rmb_all : ∀ n : Nat, n < 12 → rmb ((n : Int) + 12 - 1) 12 = if (n : Int) = 0 then 11 else (n : Int) - 1 := by decide +kernel
    have er : rmb (S 34 1 + 12 - 1) 12 = if S 34 1 = 0 then 11 else S 34 1 - 1 := by
      have := rmb_all (S 34 1).toNat (by omega)
      rw [show (((S 34 1).toNat : Nat) : Int) = S 34 1 by omega] at this
      exact this
    have pb : 0 ≤ (if S 34 1 = 0 then 11 else S 34 1 - 1) ∧ (if S 34 1 = 0 then 11 else S 34 1 - 1) < 12 := by split <;> omega
    have es : slot (S 34 1) 0 = if S 34 1 = 0 then 11 else S 34 1 - 1 := by
      unfold slot
      split <;> split <;> omega
    have sn0 := r5 0 (by omega) (by omega)
    rw [es] at sn0
    have esl : ∀ i, 0 ≤ i → i < 11 → slot (if S 34 1 = 0 then 11 else S 34 1 - 1) i = slot (S 34 1) (i + 1) := fun i i0 i1 => by
      by_cases hq : S 34 1 = 0
      · rw [if_pos hq]
        unfold slot
        split <;> split <;> omega
      · rw [if_neg hq]
        unfold slot
        split <;> split <;> omega
    generalize hp : (if S 34 1 = 0 then 11 else S 34 1 - 1) = p at *
    let A := wr (wr S 34 1 p) 34 0 (T 0 5 - 1)
    have fA : ∀ k, k ≠ 34 → A k = S k := fun k hk => by show wr _ 34 _ _ k = _; rw [wr_ne hk, wr_ne hk]
    have A1 : A 34 1 = p := by show wr _ 34 0 _ 34 1 = _; rw [wr_idx (by decide), wr_eq]
    have A0 : A 34 0 = T 0 5 - 1 := by show wr _ 34 0 _ 34 0 = _; rw [wr_eq]
    obtain ⟨S1, S2, b1, b2, b3, b4, c0, c1, c2, c3, c4, c5, c6⟩ := C_load (S := A) pb.1 pb.2
    rw [fA 35 (by decide)] at c0 c1 c2 c3 c4 c5 c6
    have hpop : f_X2_pop S = some S2 := by
      unfold f_X2_pop
      rw [r0, if_neg q, er]
      dsimp only [wrk]
      rw [wr_idx (show (0 : Int) ≠ 1 by decide), r0, wr_idx (show (1 : Int) ≠ 0 by decide), wr_eq, b1, Option.bind_some, b4 34 (by decide) (by decide) (by decide) (by decide), A1, b2]
      rfl
    -- the reference
    have g := lp_seq (step := f_X8_undo_l21) (fun n => ((n : Int), fl (wr T 0 5 (T 0 5 - 1)) 1 0 n (fun j => T 4 (126 * (T 0 5 - 1) + j)))) 126 (fl (wr T 0 5 (T 0 5 - 1)) 1 0 126 (fun j => T 4 (126 * (T 0 5 - 1) + j))) (fun i hi => by
      have e5 : fl (wr T 0 5 (T 0 5 - 1)) 1 0 i (fun j => T 4 (126 * (T 0 5 - 1) + j)) 0 5 = T 0 5 - 1 := by rw [fl_ne (by decide), wr_eq]
      unfold f_X8_undo_l21
      dsimp only
      rw [if_pos (ltb_t (by omega) (by omega) (by omega)), if_pos (by rw [e5]; omega), if_pos (by omega)]
      dsimp only [wrk]
      rw [e5, fl_ne (k := 4) (by decide), wr_cell (k := 4) (by decide), fl_s (by omega) (by rfl)]
      rfl) (by
      unfold f_X8_undo_l21
      dsimp only
      rw [if_neg (nl (by omega) (by omega) (by omega))]) (n := FU) (by rw [FU_eq]; omega)
    rw [fl_0, show ((0 : Nat) : Int) = 0 from rfl] at g
    let T2 := fl (wr T 0 5 (T 0 5 - 1)) 1 0 126 (fun j => T 4 (126 * (T 0 5 - 1) + j))
    have t5 : T2 0 5 = T 0 5 - 1 := by show fl _ 1 _ _ _ 0 5 = _; rw [fl_ne (by decide), wr_eq]
    have tk : ∀ k, k ≠ 0 → k ≠ 1 → T2 k = T k := fun k x y => by show fl _ 1 _ _ _ k = _; rw [fl_ne y, wr_ne x]
    have t0 : ∀ j, j ≠ 5 → T2 0 j = T 0 j := fun j hj => by show fl _ 1 _ _ _ 0 j = _; rw [fl_ne (by decide), wr_idx hj]
    have trow : ∀ j, 0 ≤ j → j < 126 → T2 1 j = T 4 (126 * (T 0 5 - 1) + j) := fun j x y => fl_in x (by omega)
    have sn := sn0.cg (c' := fun j => S 35 (126 * p + j)) (r' := T2 1) (fun j _ _ => rfl) (fun j x y => by rw [trow j x y, show T 0 5 - 1 - 0 = T 0 5 - 1 by omega])
    obtain ⟨w, s0, s1, s2, s3, s4, s5⟩ := sn
    have n1 := w.2.2.2.2.2.1
    rw [hpop, Option.bind_some]
    dsimp only [wrk]
    rw [g, Option.bind_some]
    have k34 : S2 34 = A 34 := b3 34 (by decide) (by decide) (by decide) (by decide) (by decide) (by decide)
    refine ⟨T 0 5 - 1, wr S2 0 9 1, T2, ?_, ?_, ⟨w, ?_, Or.inr (wr_eq _ _ _ _), ?_, ?_, ?_, ?_⟩⟩
    · rw [wr_cell (by decide), k34, A0]
    · show some (T2 0 5, T2) = _
      rw [t5]
    · refine ⟨?_, ?_, ?_, fun b x y => ?_, fun b x y => ?_, fun b i x y z u => ?_⟩
      · rw [wr_cell (by decide), c0, ← s0]
        show _ = S 35 (126 * p + 0)
        rw [Int.add_zero]
      · rw [wr_cell (by decide), c1, ← s1]
      · rw [wr_cell (by decide), c2, ← s2]
      · rw [wr_cell (by decide), (c3 b x (by omega)).2]
        exact (s3 b x y).2
      · rw [wr_cell (by decide), (c3 b x (by omega)).1]
        exact (s3 b x y).1
      · have cb := bcnt_bnd w x y
        rw [wr_cell (by decide), c4 _ (by omega) (by omega)]
        exact s4 b i x y z u
    · rw [wr_ne (by decide), wr_ne (by decide), c5]
      obtain ⟨l0, l1, l2, l3⟩ := s5
      have l2' : S 35 (126 * p + 93) ≤ 8 := l2
      refine ⟨l0, l1, l2, fun k j x y z u => ?_⟩
      rw [c6 _ (by omega) (by omega)]
      exact l3 k j x y z u
    · unfold RH
      rw [wr_ne (by decide), wr_ne (by decide), k34, b3 35 (by decide) (by decide) (by decide) (by decide) (by decide) (by decide), fA 35 (by decide), A0, A1, t5, tk 4 (by decide) (by decide)]
      refine ⟨rfl, by omega, by omega, pb.1, pb.2, fun i i0 i1 => ?_⟩
      rw [esl i i0 (by omega), show T 0 5 - 1 - 1 - i = T 0 5 - 1 - (i + 1) by omega]
      exact r5 (i + 1) (by omega) (by omega)
    · unfold RT
      rw [wr_ne (by decide), wr_ne (by decide), b3 2 (by decide) (by decide) (by decide) (by decide) (by decide) (by decide), b3 3 (by decide) (by decide) (by decide) (by decide) (by decide) (by decide), fA 2 (by decide), fA 3 (by decide), t0 17 (by decide), tk 12 (by decide) (by decide)]
      exact h.2.2.2.2.2.1
    · unfold RW
      rw [tk 13 (by decide) (by decide)]
      exact h.2.2.2.2.2.2
