/-! ===== spell ===== -/
theorem P_vals {S T : Mem} {w n b : Int} (h : Rel S T) (hp : PS S T w n) (hw : -1 ≤ w ∧ w < 2147483648) (h1 : 0 ≤ b) (h2 : b < T 1 2) (hn : n + 48 ≤ 600) {y : Int} : ∃ S' T', lp (f_X7_spellBidder_l12 b) FU (0, S) = some S' ∧ lp (f_X8_spell_l51 y b) FU (0, T) = some T' ∧ PS S' T' w (n + 48) ∧ FP S S' ∧ FM T T' := by
  have n1 := h.1.2.2.2.2.2.1
  have cb := bcnt_bnd h.1 h1 h2
  obtain ⟨r, r', g1, g2, g3, g4, g5⟩ := lp_sim (step := f_X7_spellBidder_l12 b) (step' := f_X8_spell_l51 y b) (fun s t => s.1 = t.1 ∧ 0 ≤ s.1 ∧ s.1 ≤ bcnt (T 1) b ∧ PS s.2 t.2 w (n + 6 * s.1) ∧ FP S s.2 ∧ FM T t.2) (fun s => (bcnt (T 1) b - s.1).toNat) (fun r r' => PS r r' w (n + 48) ∧ FP S r ∧ FM T r') (by
    intro s t ⟨e, x0, x1, ps, f1, f2⟩
    obtain ⟨i, s⟩ := s
    obtain ⟨i', t⟩ := t
    dsimp only at e x0 x1 ps f1 f2 ⊢
    subst e
    have hR : Rel s t := h.ag (AgC.pen f1) (AgM.pen f2)
    have t1 : t 1 = T 1 := f2.1 1 (by decide) (by decide)
    have sc : s 6 b = bcnt (T 1) b := by rw [← t1]; exact hR.2.1.2.2.2.2.1 b h1 (by rw [t1]; exact h2)
    unfold f_X7_spellBidder_l12 f_X8_spell_l51
    dsimp only
    rw [if_pos (show 0 ≤ b ∧ b < 9 by omega), M_valuesOf h1 (by omega), Option.bind_some, t1]
    by_cases hi : i < bcnt (T 1) b
    · obtain ⟨S1, T1, a1, a2, a3, a4, a5⟩ := P_sign (x := 32) ps hw (by omega)
      have hR1 : Rel S1 T1 := hR.ag (AgC.pen a4) (AgM.pen a5)
      have t11 : T1 1 = T 1 := (a5.1 1 (by decide) (by decide)).trans t1
      have vb := bval_bnd h.1 h1 h2 x0 hi
      obtain ⟨S2, T2, b1, b2, b3, b4, b5⟩ := P_number (v := bval (T 1) b i) a3 hw (by omega) vb.1 (by omega)
      have el : f_X4_letters s 7 = some S1 := by
        rw [C_lt (by decide), lt7]
        show (f_X4_sign s 32).bind (sgs []) = _
        rw [a1]
        rfl
      have ev : f_X1_valueAt S1 5 b i = some (bval (T 1) b i) := by
        rw [← t11]
        exact C_valueAt (q := 5) (by decide) hR1.1 hR1.2.1 h1 (by rw [t11]; exact h2) x0 (by rw [t11]; exact hi)
      rw [if_pos (show ltb i (s 6 b) = true by rw [sc]; exact ltb_t hi (by omega) (by omega)), if_pos (ltb_t hi (by omega) (by omega)), el, Option.bind_some, ev, Option.bind_some, b1, Option.bind_some, a2, Option.bind_some, M_valueAt h1 (by omega) x0 (by omega), t11, Option.bind_some, b2, Option.bind_some]
      exact Or.inl ⟨_, _, rfl, rfl, ⟨rfl, by dsimp only; omega, by dsimp only; omega, b3.mono (by dsimp only; omega), (f1.tr a4).tr b4, (f2.tr a5).tr b5⟩, by dsimp only; omega⟩
    · have ql := nl (x := i) (y := bcnt (T 1) b) (by omega) (by omega) (by omega)
      rw [if_neg (show ¬ ltb i (s 6 b) = true by rw [sc]; exact ql), if_neg ql]
      exact Or.inr ⟨_, _, rfl, rfl, ps.mono (by omega), f1, f2⟩) FU (0, S) (0, T) ⟨rfl, by dsimp only; omega, cb.2.2.1, hp.mono (by dsimp only; omega), FP.rf, FM.rf⟩ (by dsimp only; rw [FU_eq]; omega)
  exact ⟨r, r', g1, g2, g3, g4, g5⟩
theorem P_capPart {S T : Mem} {w n c : Int} (hr : RW T) (hp : PS S T w n) (hw : -1 ≤ w ∧ w < 2147483648) (hn : n + 10 ≤ 600) (h0 : 0 ≤ c) (h1 : c < 100000) : ∃ S1 S' T1 T2 T3 T', f_X4_letters S 8 = some S1 ∧ f_X4_number S1 c = some S' ∧ f_X8_writes T 32 = some T1 ∧ f_X8_writesWord T1 3 = some T2 ∧ f_X8_writes T2 32 = some T3 ∧ f_X8_writesNumber T3 c = some T' ∧ PS S' T' w (n + 10) ∧ FP S S1 ∧ FP S S' ∧ FM T T3 ∧ FM T T' := by
  obtain ⟨S1, T3, a1, a2, a3, a4, a5⟩ := P_list hw (ltr 8) hp (by rw [show (ltr 8).length = 5 by decide +kernel]; omega)
  rw [show (ltr 8).length = 5 by decide +kernel] at a3
  obtain ⟨S2, T4, b1, b2, b3, b4, b5⟩ := P_number (v := c) a3 hw (by omega) h0 h1
  rw [lt8, wrs_app, wrs_one] at a2
  cases hx : f_X8_writes T 32 with
  | none => rw [hx] at a2; cases a2
  | some T1 =>
    rw [hx, Option.bind_some, ← M_word1 (hr.wr hx) (by decide)] at a2
    cases hy : f_X8_writesWord T1 3 with
    | none =>
      rw [show (((3 : Nat) : Int)) = 3 from rfl, hy] at a2
      cases a2
    | some T2 =>
      rw [show (((3 : Nat) : Int)) = 3 from rfl, hy, Option.bind_some] at a2
      exact ⟨S1, S2, T1, T2, T3, T4, by rw [C_lt (by decide)]; exact a1, b1, rfl, hy, a2, b2, b3.mono (by omega), a4, a4.tr b4, a5, a5.tr b5⟩
theorem P_bidder {S T : Mem} {w n b y : Int} (h : Rel S T) (hp : PS S T w n) (hw : -1 ≤ w ∧ w < 2147483648) (h1 : 0 ≤ b) (h2 : b < T 1 2) (hn : n + 65 ≤ 600) : ∃ S' T', f_X7_spellBidder S b = some S' ∧ f_X8_spell_l36 y (b, T) = some (.inl (b + 1, T')) ∧ PS S' T' w (n + 65) ∧ FP S S' ∧ FM T T' := by
  have n1 := h.1.2.2.2.2.2.1
  have cb := bcnt_bnd h.1 h1 h2
  have l6 : (ltr 6).length = 6 := by decide +kernel
  obtain ⟨S1, T1, a1, a2, a3, a4, a5⟩ := P_list hw (ltr 6) hp (by rw [l6]; omega)
  rw [l6] at a3
  have hR1 : Rel S1 T1 := h.ag (AgC.pen a4) (AgM.pen a5)
  have t1 : T1 1 = T 1 := a5.1 1 (by decide) (by decide)
  obtain ⟨S2, T2, b1, b2, b3, b4, b5⟩ := P_vals (y := y) hR1 a3 hw h1 (by rw [t1]; exact h2) (by omega)
  have hR2 : Rel S2 T2 := hR1.ag (AgC.pen b4) (AgM.pen b5)
  have t2 : T2 1 = T 1 := (b5.1 1 (by decide) (by decide)).trans t1
  have ec : S2 7 b = bcap (T 1) b := by rw [← t2]; exact hR2.2.1.2.2.2.1 b h1 (by rw [t2]; exact h2)
  have ew : f_X8_writesWord T 2 = some T1 := by
    have := M_writesWord (T := T) h.2.2.2.2.2.2 (i := 2) (by decide)
    rw [show (((2 : Nat) : Int)) = 2 from rfl, ← lt6, a2] at this
    exact this
  unfold f_X7_spellBidder f_X8_spell_l36
  dsimp only
  rw [M_many, Option.bind_some, if_pos (ltb_t h2 (by omega) (by omega)), ew, Option.bind_some, b2, Option.bind_some, M_capOf h1 (by omega), t2, Option.bind_some, C_lt (by decide), a1, Option.bind_some, b1, Option.bind_some, if_pos (by omega), ec]
  by_cases h8 : bcap (T 1) b = 8
  · obtain ⟨S3, T3, c1, c2, c3, c4, c5⟩ := P_sign (x := 59) b3 hw (by omega)
    rw [if_pos (eqb_t h8), if_pos (eqb_t h8), Option.bind_some, Option.bind_some, C_lt (by decide), lt9, c2, Option.bind_some]
    refine ⟨S3, T3, ?_, rfl, c3.mono (by omega), (a4.tr b4).tr c4, (a5.tr b5).tr c5⟩
    show ((f_X4_sign S2 59).bind (sgs [])).bind _ = _
    rw [c1]
    rfl
  · have q := nq h8 (by omega) (by omega) (by omega) (by omega)
    obtain ⟨S3, S4, U1, U2, U3, U4, p1, p2, p3, p4, p5, p6, p7, p8, p9, p10, p11⟩ := P_capPart (c := bcap (T 1) b) hR2.2.2.2.2.2.2 b3 hw (by omega) cb.1 (by omega)
    obtain ⟨S5, T5, c1, c2, c3, c4, c5⟩ := P_sign (x := 59) p7 hw (by omega)
    have ec3 : S3 7 b = bcap (T 1) b := by rw [p8 7 (by decide)]; exact ec
    have u3 : U3 1 = T 1 := (p10.1 1 (by decide) (by decide)).trans t2
    rw [if_neg q, if_neg q, p1, Option.bind_some, ec3, p2, Option.bind_some, Option.bind_some, p3, Option.bind_some, p4, Option.bind_some, p5, Option.bind_some, M_capOf h1 (by omega), u3, Option.bind_some, p6, Option.bind_some, Option.bind_some, c2, Option.bind_some, C_lt (by decide), lt9]
    refine ⟨S5, T5, ?_, rfl, c3.mono (by omega), ((a4.tr b4).tr p9).tr c4, ((a5.tr b5).tr p11).tr c5⟩
    show ((f_X4_sign S4 59).bind (sgs [])).bind _ = _
    rw [c1]
    rfl
theorem AgM.w15 (T : Mem) (x : Int) : AgM T (wr T 0 15 x) := ⟨wr_ne (by decide), wr_ne (by decide), wr_ne (by decide), wr_ne (by decide), wr_idx (by decide) 0, wr_idx (by decide) 0⟩
theorem Q_spell {S T : Mem} {w : Int} (h : Rel S T) (hw : R32 w) : ∃ r S' T', f_X7_spell S w = some (r, S') ∧ f_X8_spell T w = some (r, T') ∧ Rel S' T' := by
  have n0 := h.1.2.2.2.2.1
  have n1 := h.1.2.2.2.2.2.1
  have r0 := h.1.1
  have r1 := h.1.2.1
  have r2 := h.1.2.2.1
  have r3 := h.1.2.2.2.1
  unfold f_X7_spell f_X8_spell
  by_cases h1 : w < -1
  · rw [if_pos (ltb_t h1 hw.1 (by omega)), if_pos (ltb_t h1 hw.1 (by omega))]
    exact ⟨_, _, _, rfl, rfl, h⟩
  · have q := nl (x := w) (y := -1) (by omega) (by omega) hw.2
    have hw2 : -1 ≤ w ∧ w < 2147483648 := ⟨by omega, hw.2⟩
    rw [if_neg q, if_neg q]
    obtain ⟨S1, a1, a2, a3⟩ := P_seek (S := S) (T := T) (w := w)
    have hR1 : Rel S1 (wr T 0 15 0) := h.ag (AgC.pen a3) (AgM.w15 T 0)
    have t1 : wr T 0 15 0 1 = T 1 := wr_ne (by decide)
    have s0 : S1 5 0 = T 1 0 := by rw [← t1]; exact hR1.2.1.1
    obtain ⟨S2, T2, b1, b2, b3, b4, b5⟩ := P_line (k := 4) (i := 0) (v := T 1 0) a2 hR1.2.2.2.2.2.2 hw2 (by decide) (by decide) lt4 (by decide +kernel) (by omega) (by omega) (by omega)
    have hR2 : Rel S2 T2 := hR1.ag (AgC.pen b4) (AgM.pen b5)
    have t2 : T2 1 = T 1 := (b5.1 1 (by decide) (by decide)).trans t1
    have s1 : S2 5 1 = T 1 1 := by rw [← t2]; exact hR2.2.1.2.1
    obtain ⟨S3, T3, c1, c2, c3, c4, c5⟩ := P_line (k := 5) (i := 1) (v := T 1 1) b3 hR2.2.2.2.2.2.2 hw2 (by decide) (by decide) lt5 (by decide +kernel) (by omega) (by omega) (by omega)
    have hR3 : Rel S3 T3 := hR2.ag (AgC.pen c4) (AgM.pen c5)
    have t3 : T3 1 = T 1 := (c5.1 1 (by decide) (by decide)).trans t2
    obtain ⟨r, r', g1, g2, g3, g4⟩ := lp_sim (step := f_X7_spell_l51) (step' := f_X8_spell_l36 w) (fun s t => s.1 = t.1 ∧ 0 ≤ s.1 ∧ s.1 ≤ T 1 2 ∧ PS s.2 t.2 w (28 + 65 * s.1) ∧ Rel s.2 t.2 ∧ t.2 1 = T 1) (fun s => (T 1 2 - s.1).toNat) (fun r r' => PS r r' w 600 ∧ Rel r r') (by
      intro s t ⟨e, x0, x1, ps, hR, ht⟩
      obtain ⟨i, s⟩ := s
      obtain ⟨i', t⟩ := t
      dsimp only at e x0 x1 ps hR ht ⊢
      subst e
      have sn : s 5 2 = T 1 2 := by rw [← ht]; exact hR.2.1.2.2.1
      by_cases hi : i < T 1 2
      · obtain ⟨S', T', d1, d2, d3, d4, d5⟩ := P_bidder (y := w) hR ps hw2 x0 (by rw [ht]; exact hi) (by omega)
        refine Or.inl ⟨(i + 1, S'), (i + 1, T'), ?_, d2, ⟨rfl, by dsimp only; omega, by dsimp only; omega, d3.mono (by dsimp only; omega), hR.ag (AgC.pen d4) (AgM.pen d5), (d5.1 1 (by decide) (by decide)).trans ht⟩, by dsimp only; omega⟩
        unfold f_X7_spell_l51
        dsimp only
        rw [if_pos (show ltb i (s 5 2) = true by rw [sn]; exact ltb_t hi (by omega) (by omega)), d1]
        rfl
      · have ql := nl (x := i) (y := T 1 2) (by omega) (by omega) (by omega)
        refine Or.inr ⟨s, t, ?_, ?_, ps.mono (by omega), hR⟩
        · unfold f_X7_spell_l51
          dsimp only
          rw [if_neg (show ¬ ltb i (s 5 2) = true by rw [sn]; exact ql)]
        · unfold f_X8_spell_l36
          dsimp only
          rw [M_many, ht, Option.bind_some, if_neg ql]) FU (0, S3) (0, T3) ⟨rfl, by dsimp only; omega, n0, c3.mono (by dsimp only; omega), hR3, t3⟩ (by dsimp only; rw [FU_eq]; omega)
    obtain ⟨x, k1, k2⟩ := P_answer g3 hw2 (by omega)
    rw [a1, Option.bind_some, s0, b1, Option.bind_some, s1, c1, Option.bind_some, g1, Option.bind_some, k1, Option.bind_some]
    dsimp only [wrk]
    rw [if_pos (show (0 : Int) ≤ 0 ∧ (0 : Int) < 126 by decide), t1, show f_X8_writesOne (wr T 0 15 0) 0 (T 1 0) = some T2 from b2, Option.bind_some, if_pos (show (0 : Int) ≤ 1 ∧ (1 : Int) < 126 by decide), t2, show f_X8_writesOne T2 1 (T 1 1) = some T3 from c2, Option.bind_some, g2, Option.bind_some, k2, Option.bind_some]
    exact ⟨_, _, _, rfl, rfl, g4⟩
