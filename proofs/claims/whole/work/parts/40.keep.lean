/-! ===== what is kept before an act ===== -/
theorem SN.cg {c c' r r' : Int → Int} (h : SN c r) (hc : ∀ j, 0 ≤ j → j < 126 → c' j = c j) (hr : ∀ j, 0 ≤ j → j < 126 → r' j = r j) : SN c' r' := by
  obtain ⟨w, a0, a1, a2, a3, a4, a5⟩ := h
  have n1 := w.2.2.2.2.2.1
  have z2 := hr 2 (by decide) (by decide)
  have hs : Sm r r' := by
    refine ⟨hr 0 (by decide) (by decide), hr 1 (by decide) (by decide), z2, fun b x y => ⟨hr _ (by omega) (by omega), hr _ (by omega) (by omega), fun i i0 i1 => ?_⟩⟩
    have cb := bcnt_bnd w x y
    exact hr _ (by omega) (by omega)
  refine ⟨w.sm hs, by rw [hc 0 (by decide) (by decide), hs.1]; exact a0, by rw [hc 1 (by decide) (by decide), hs.2.1]; exact a1, by rw [hc 2 (by decide) (by decide), hs.2.2.1]; exact a2, fun b x y => ?_, fun b i x y z u => ?_, ?_⟩
  · have k := hs.2.2.2 b x (by omega)
    rw [hc _ (by omega) (by omega), hc _ (by omega) (by omega), k.1, k.2.1]
    exact a3 b x (by omega)
  · have k := hs.2.2.2 b x (by omega)
    have cb := bcnt_bnd w x (show b < r 2 by omega)
    rw [k.2.1] at u
    rw [hc _ (by omega) (by omega), k.2.2 i z u]
    exact a4 b i x (by omega) z u
  · obtain ⟨l0, l1, l2, l3⟩ := a5
    refine ⟨by rw [hc 93 (by decide) (by decide), hr 93 (by decide) (by decide)]; exact l0, by rw [hc 93 (by decide) (by decide)]; exact l1, by rw [hc 93 (by decide) (by decide)]; exact l2, fun k j x y z u => ?_⟩
    rw [hc 93 (by decide) (by decide)] at y ⊢
    have := l3 k j x y z u
    dsimp only at this ⊢
    rw [hc _ (by omega) (by omega), hr _ (by omega) (by omega)]
    exact this
/-- one entry of the system's history -/
def ent (S : Mem) (j : Int) : Int := if j = 0 then S 5 0 else if j = 1 then S 5 1 else if j = 2 then S 5 2 else if j < 12 then S 6 (j - 3) else if j < 21 then S 7 (j - 12) else if j < 93 then S 8 (j - 21) else if j = 93 then S 32 0 else S 33 (j - 94)
theorem C_push {S : Mem} {n : Int} (h0 : 0 ≤ n) (h1 : n < 12) (e1 : S 34 1 = n) : ∃ S', f_X2_push S = some S' ∧ (∀ k, k ≠ 34 → k ≠ 35 → S' k = S k) ∧ S' 34 1 = (if n = 11 then 0 else n + 1) ∧ S' 34 0 = mnb (S 34 0 + 1) 12 ∧ (∀ j, 0 ≤ j → j < 126 → S' 35 (126 * n + j) = ent S j) ∧ ∀ x, (x < 126 * n ∨ 126 * n + 126 ≤ x) → S' 35 x = S 35 x := by
  have rmb_all : ∀ n : Nat, n < 12 → rmb ((n : Int) + 1) 12 = if (n : Int) = 11 then 0 else (n : Int) + 1 := by decide +kernel
  have er : rmb (n + 1) 12 = if n = 11 then 0 else n + 1 := by
    have := rmb_all n.toNat (by omega)
    rw [show ((n.toNat : Nat) : Int) = n by omega] at this
    exact this
  let A1 := wr (wr (wr S 35 (n * 126) (S 5 0)) 35 (n * 126 + 1) (S 5 1)) 35 (n * 126 + 2) (S 5 2)
  let A2 := cpy (cpy (cpy A1 6 0 35 (n * 126 + 3) 9) 7 0 35 (n * 126 + 3 + 9) 9) 8 0 35 (n * 126 + 3 + 9 + 9) 72
  let A3 := cpy (wr A2 35 (n * 126 + 93) (S 32 0)) 33 0 35 (n * 126 + 93 + 1) 32
  have f1 : ∀ k, k ≠ 35 → A1 k = S k := fun k hk => by show wr _ 35 _ _ k = _; rw [wr_ne hk, wr_ne hk, wr_ne hk]
  have f2 : ∀ k, k ≠ 35 → A2 k = S k := fun k hk => by show cpy _ _ _ 35 _ _ k = _; rw [cpy_ne hk, cpy_ne hk, cpy_ne hk]; exact f1 k hk
  have f3 : ∀ k, k ≠ 35 → A3 k = S k := fun k hk => by show cpy _ _ _ 35 _ _ k = _; rw [cpy_ne hk, wr_ne hk]; exact f2 k hk
  have hs1 : f_X1_storeIn S 5 (n * 126) = some A2 := by
    unfold f_X1_storeIn
    rw [if_pos (by omega)]
    dsimp only [wrk]
    rw [if_pos (by omega), wr_cell (k := 5) (by decide), if_pos (by omega), wr_cell (k := 5) (by decide), wr_cell (k := 5) (by decide), if_pos (by omega)]
    dsimp only [cpyk]
    rw [if_pos (by omega), if_pos (by omega)]
  have hs2 : f_X3_storeIn A2 (n * 126 + 93) = some A3 := by
    unfold f_X3_storeIn
    rw [if_pos (by omega)]
    dsimp only [wrk]
    rw [if_pos (by omega), f2 32 (by decide)]
    rfl
  refine ⟨wr (wr A3 34 1 (if n = 11 then 0 else n + 1)) 34 0 (mnb (S 34 0 + 1) 12), ?_, fun k k0 k1 => ?_, ?_, ?_, fun j j0 j1 => ?_, fun x hx => ?_⟩
  · unfold f_X2_push
    rw [e1, hs1, Option.bind_some, f2 34 (by decide), e1, hs2, Option.bind_some, f3 34 (by decide), e1, er]
    dsimp only [wrk]
    rw [wr_idx (show (0 : Int) ≠ 1 by decide), f3 34 (by decide)]
  · rw [wr_ne k0, wr_ne k0]; exact f3 k k1
  · rw [wr_idx (by decide), wr_eq]
  · rw [wr_eq]
  · rw [wr_cell (by decide), wr_cell (by decide)]
    show cpy _ 33 0 35 (n * 126 + 93 + 1) 32 35 (126 * n + j) = _
    unfold ent
    rw [cpy_at]
    by_cases c1 : 94 ≤ j
    · rw [if_pos (by omega), if_neg (by omega), if_neg (by omega), if_neg (by omega), if_neg (by omega), if_neg (by omega), if_neg (by omega), if_neg (by omega), wr_cell (by decide), f2 33 (by decide)]
      congr 1
      omega
    · rw [if_neg (by omega), wr_at]
      by_cases c2 : j = 93
      · rw [if_pos (by omega), if_neg (by omega), if_neg (by omega), if_neg (by omega), if_neg (by omega), if_neg (by omega), if_neg (by omega), if_pos c2]
      · rw [if_neg (by omega)]
        show cpy _ 8 0 35 (n * 126 + 3 + 9 + 9) 72 35 (126 * n + j) = _
        rw [cpy_at]
        by_cases c3 : 21 ≤ j
        · rw [if_pos (by omega), if_neg (by omega), if_neg (by omega), if_neg (by omega), if_neg (by omega), if_neg (by omega), if_pos (by omega), cpy_ne (by decide), cpy_ne (by decide), f1 8 (by decide)]
          congr 1
          omega
        · rw [if_neg (by omega), cpy_at]
          by_cases c4 : 12 ≤ j
          · rw [if_pos (by omega), if_neg (by omega), if_neg (by omega), if_neg (by omega), if_neg (by omega), if_pos (by omega), cpy_ne (by decide), f1 7 (by decide)]
            congr 1
            omega
          · rw [if_neg (by omega), cpy_at]
            by_cases c5 : 3 ≤ j
            · rw [if_pos (by omega), if_neg (by omega), if_neg (by omega), if_neg (by omega), if_pos (by omega), f1 6 (by decide)]
              congr 1
              omega
            · rw [if_neg (by omega)]
              show wr _ 35 (n * 126 + 2) _ 35 (126 * n + j) = _
              rw [wr_at, wr_at, wr_at]
              rcases (show j = 0 ∨ j = 1 ∨ j = 2 by omega) with e | e | e <;> subst e
              · rw [if_neg (by omega), if_neg (by omega), if_pos (by omega), if_pos rfl]
              · rw [if_neg (by omega), if_pos (by omega), if_neg (by omega), if_pos rfl]
              · rw [if_pos (by omega), if_neg (by omega), if_neg (by omega), if_pos rfl]
  · rw [wr_cell (by decide), wr_cell (by decide)]
    show cpy _ 33 0 35 (n * 126 + 93 + 1) 32 35 x = _
    rw [cpy_at, if_neg (by omega), wr_idx (by omega)]
    show cpy _ 8 0 35 (n * 126 + 3 + 9 + 9) 72 35 x = _
    rw [cpy_at, if_neg (by omega), cpy_at, if_neg (by omega), cpy_at, if_neg (by omega)]
    show wr _ 35 (n * 126 + 2) _ 35 x = _
    rw [wr_idx (by omega), wr_idx (by omega), wr_idx (by omega)]
theorem ent_SN {S T : Mem} (h : Rel S T) : SN (ent S) (T 1) := by
  have n1 := h.1.2.2.2.2.2.1
  obtain ⟨b0, b1, b2, b3, b4, b5⟩ := h.2.1
  obtain ⟨l0, l1, l2, l3⟩ := h.2.2.2.1
  refine ⟨h.1, by unfold ent; rw [if_pos rfl]; exact b0, by unfold ent; rw [if_neg (by decide), if_pos rfl]; exact b1, by unfold ent; rw [if_neg (by decide), if_neg (by decide), if_pos rfl]; exact b2, fun b x y => ⟨?_, ?_⟩, fun b i x y z u => ?_, ?_⟩
  · unfold ent
    rw [if_neg (by omega), if_neg (by omega), if_neg (by omega), if_pos (by omega), show 3 + b - 3 = b by omega]
    exact b4 b x y
  · unfold ent
    rw [if_neg (by omega), if_neg (by omega), if_neg (by omega), if_neg (by omega), if_pos (by omega), show 12 + b - 12 = b by omega]
    exact b3 b x y
  · have cb := bcnt_bnd h.1 x y
    unfold ent
    rw [if_neg (by omega), if_neg (by omega), if_neg (by omega), if_neg (by omega), if_neg (by omega), if_pos (by omega), show 21 + (b * 8 + i) - 21 = b * 8 + i by omega]
    exact b5 b i x y z u
  · have e93 : ent S 93 = S 32 0 := by
      unfold ent
      rw [if_neg (by decide), if_neg (by decide), if_neg (by decide), if_neg (by decide), if_neg (by decide), if_neg (by decide), if_pos rfl]
    rw [e93]
    refine ⟨l0, l1, l2, fun k j x y z u => ?_⟩
    show ent S (94 + (4 * k + j)) = _
    unfold ent
    rw [if_neg (by omega), if_neg (by omega), if_neg (by omega), if_neg (by omega), if_neg (by omega), if_neg (by omega), if_neg (by omega), show 94 + (4 * k + j) - 94 = 4 * k + j by omega]
    exact l3 k j x y z u
theorem M_keeps {T : Mem} (h0 : 0 ≤ T 0 5) (h1 : T 0 5 ≤ 12) : ∃ T', f_X8_keeps T = some T' ∧ (∀ k, k ≠ 0 → k ≠ 4 → T' k = T k) ∧ (∀ j, j ≠ 5 → T' 0 j = T 0 j) ∧ T' 0 5 = min (T 0 5 + 1) 12 ∧ (∀ j, 0 ≤ j → j < 126 → T' 4 (126 * (T' 0 5 - 1) + j) = T 1 j) ∧ ∀ i j, 0 ≤ i → i < T' 0 5 - 1 → 0 ≤ j → j < 126 → T' 4 (126 * i + j) = T 4 (126 * (i + (T 0 5 + 1 - T' 0 5)) + j) := by
  -- what is put into a row
  have put : ∀ U : Mem, 0 ≤ U 0 5 → U 0 5 < 12 → ∃ T', ((lp (f_X8_keeps_l52) FU (0, U)).bind fun r9 => wrk r9 0 5 ((r9 0 5) + 1) fun S22 => some S22) = some T' ∧ (∀ k, k ≠ 0 → k ≠ 4 → T' k = U k) ∧ (∀ j, j ≠ 5 → T' 0 j = U 0 j) ∧ T' 0 5 = U 0 5 + 1 ∧ (∀ j, 0 ≤ j → j < 126 → T' 4 (126 * (U 0 5) + j) = U 1 j) ∧ ∀ x, x < 126 * U 0 5 → T' 4 x = U 4 x := by
    intro U u0 u1
    have := lp_seq (step := f_X8_keeps_l52) (fun n => ((n : Int), fl U 4 (126 * U 0 5) n (fun j => U 1 (j - 126 * U 0 5)))) 126 (fl U 4 (126 * U 0 5) 126 (fun j => U 1 (j - 126 * U 0 5))) (fun i hi => by
      unfold f_X8_keeps_l52
      dsimp only
      rw [if_pos (ltb_t (by omega) (by omega) (by omega)), if_pos (by omega), if_pos (by rw [fl_ne (k := 0) (by decide)]; omega)]
      dsimp only [wrk]
      rw [fl_ne (k := 0) (by decide), fl_ne (k := 1) (by decide), fl_s (by omega) (by rw [show 126 * U 0 5 + (i : Int) - 126 * U 0 5 = i by omega])]
      rfl) (by
      unfold f_X8_keeps_l52
      dsimp only
      rw [if_neg (nl (by omega) (by omega) (by omega))]) (n := FU) (by rw [FU_eq]; omega)
    rw [fl_0, show ((0 : Nat) : Int) = 0 from rfl] at this
    refine ⟨wr (fl U 4 (126 * U 0 5) 126 (fun j => U 1 (j - 126 * U 0 5))) 0 5 (U 0 5 + 1), ?_, fun k k0 k1 => by rw [wr_ne k0, fl_ne k1], fun j hj => by rw [wr_idx hj, fl_ne (by decide)], wr_eq _ _ _ _, fun j j0 j1 => ?_, fun x hx => ?_⟩
    · rw [this, Option.bind_some]
      dsimp only [wrk]
      rw [fl_ne (k := 0) (by decide)]
    · rw [wr_cell (by decide), fl_in (by omega) (by omega)]
      show U 1 (126 * U 0 5 + j - 126 * U 0 5) = U 1 j
      rw [show 126 * U 0 5 + j - 126 * U 0 5 = j by omega]
    · rw [wr_cell (by decide), fl_out (by omega)]
  unfold f_X8_keeps
  by_cases h12 : T 0 5 = 12
  · rw [if_pos (eqb_t h12)]
    have := lp_seq (step := f_X8_keeps_l12) (fun n => (126 + (n : Int), fl T 4 0 n (fun j => T 4 (j + 126)))) 1386 (fl T 4 0 1386 (fun j => T 4 (j + 126))) (fun i hi => by
      unfold f_X8_keeps_l12
      dsimp only
      rw [if_pos (ltb_t (by omega) (by omega) (by omega)), if_pos (by omega), if_pos (by omega)]
      dsimp only [wrk]
      rw [fl_s (by omega) (by rw [fl_out (by omega)]; congr 1; omega), show 126 + (i : Int) + 1 = 126 + ((i + 1 : Nat) : Int) by omega]) (by
      unfold f_X8_keeps_l12
      dsimp only
      rw [if_neg (nl (by omega) (by omega) (by omega))]) (n := FU) (by rw [FU_eq]; omega)
    rw [fl_0, show 126 + ((0 : Nat) : Int) = 126 from rfl] at this
    rw [this, Option.bind_some]
    dsimp only [wrk]
    rw [fl_ne (k := 0) (by decide), h12, Option.bind_some]
    obtain ⟨T', a1, a2, a3, a4, a5, a6⟩ := put (wr (fl T 4 0 1386 (fun j => T 4 (j + 126))) 0 5 (12 - 1)) (by rw [wr_eq]; omega) (by rw [wr_eq]; omega)
    rw [wr_eq] at a4 a5 a6
    refine ⟨T', a1, fun k k0 k1 => by rw [a2 k k0 k1, wr_ne k0, fl_ne k1], fun j hj => by rw [a3 j hj, wr_idx hj, fl_ne (by decide)], by omega, fun j j0 j1 => ?_, fun i j i0 i1 j0 j1 => ?_⟩
    · rw [a4, show (12 - 1 + 1 - 1 : Int) = 12 - 1 by decide, a5 j j0 j1, wr_ne (by decide), fl_ne (by decide)]
    · rw [a6 _ (by omega), wr_cell (by decide), fl_in (by omega) (by omega), a4]
      show T 4 (126 * i + j + 126) = _
      rw [show 126 * (i + (12 + 1 - (12 - 1 + 1))) + j = 126 * i + j + 126 by omega]
  · rw [if_neg (nq h12 (by omega) (by omega) (by omega) (by omega)), Option.bind_some]
    obtain ⟨T', a1, a2, a3, a4, a5, a6⟩ := put T h0 (by omega)
    refine ⟨T', a1, a2, a3, by omega, fun j j0 j1 => ?_, fun i j i0 i1 j0 j1 => ?_⟩
    · rw [a4, show T 0 5 + 1 - 1 = T 0 5 by omega]
      exact a5 j j0 j1
    · rw [a6 _ (by omega), a4, show 126 * (i + (T 0 5 + 1 - (T 0 5 + 1))) + j = 126 * i + j by omega]
theorem Q_remember {S T : Mem} (h : Rel S T) : ∃ S' T', f_X7_remember S = some S' ∧ f_X8_keeps T = some T' ∧ Rel S' T' ∧ S' 0 9 = 1 ∧ (∀ k, k ≠ 0 → k ≠ 34 → k ≠ 35 → S' k = S k) ∧ (∀ k, k ≠ 0 → k ≠ 4 → T' k = T k) ∧ (∀ j, j ≠ 5 → T' 0 j = T 0 j) := by
  obtain ⟨r0, r1, r2, r3, r4, r5⟩ := h.2.2.2.2.1
  obtain ⟨S1, a1, a2, a3, a4, a5, a6⟩ := C_push (S := S) r3 r4 rfl
  obtain ⟨T1, b1, b2, b3, b4, b5, b6⟩ := M_keeps (T := T) r1 r2
  have en := ent_SN h
  refine ⟨wr S1 0 9 1, T1, ?_, b1, ?_, wr_eq _ _ _ _, fun k k0 k1 k2 => by rw [wr_ne k0]; exact a2 k k1 k2, b2, b3⟩
  · unfold f_X7_remember
    rw [a1]
    rfl
  · have t1 : T1 1 = T 1 := b2 1 (by decide) (by decide)
    have fc : ∀ k, k ≠ 0 → k ≠ 34 → k ≠ 35 → wr S1 0 9 1 k = S k := fun k k0 k1 k2 => by rw [wr_ne k0]; exact a2 k k1 k2
    refine ⟨by rw [t1]; exact h.1, ?_, Or.inr (wr_eq _ _ _ _), ?_, ?_, ?_, ?_⟩
    · rw [t1]
      exact h.2.1.fr (fc _ (by decide) (by decide) (by decide)) (fc _ (by decide) (by decide) (by decide)) (fc _ (by decide) (by decide) (by decide)) (fc _ (by decide) (by decide) (by decide))
    · rw [t1, fc 33 (by decide) (by decide) (by decide), fc 32 (by decide) (by decide) (by decide)]
      exact h.2.2.2.1
    · unfold RH
      rw [wr_ne (by decide), wr_ne (by decide), a4, a3, b4, r0, mnb_le (by omega) (by omega) (by omega) (by omega)]
      refine ⟨rfl, by omega, by omega, by split <;> omega, by split <;> omega, fun i i0 i1 => ?_⟩
      by_cases hz : i = 0
      · subst hz
        refine en.cg (fun j j0 j1 => ?_) (fun j j0 j1 => ?_)
        · rw [← a5 j j0 j1]
          congr 2
          congr 1
          unfold slot
          split <;> split <;> omega
        · rw [← b5 j j0 j1, b4]
          congr 1
          omega
      · refine (r5 (i - 1) (by omega) (by omega)).cg (fun j j0 j1 => ?_) (fun j j0 j1 => ?_)
        · have es : slot (if S 34 1 = 11 then 0 else S 34 1 + 1) i = slot (S 34 1) (i - 1) := by
            unfold slot
            split <;> split <;> split <;> omega
          have en2 : slot (S 34 1) (i - 1) ≠ S 34 1 ∧ 0 ≤ slot (S 34 1) (i - 1) ∧ slot (S 34 1) (i - 1) < 12 := by
            unfold slot
            split <;> omega
          rw [es, a6 _ (by omega)]
        · rw [b6 _ j (by omega) (by omega) j0 j1, b4]
          congr 1
          omega
    · unfold RT
      rw [b3 17 (by decide), b2 12 (by decide) (by decide), fc 2 (by decide) (by decide) (by decide), fc 3 (by decide) (by decide) (by decide)]
      exact h.2.2.2.2.2.1
    · unfold RW
      rw [b2 13 (by decide) (by decide)]
      exact h.2.2.2.2.2.2
