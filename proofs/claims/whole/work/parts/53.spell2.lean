/-! ===== spell ===== -/
theorem P_vals {S T : Mem} {w n b : Int} (h : Rel S T) (hp : PS S T w n) (hw : -1 ≤ w ∧ w < 2147483648) (h1 : 0 ≤ b) (h2 : b < T 1 2) (hn : n + 48 ≤ 600) {y : Int} : ∃ S' T', lp (f_X7_spellBidder_l12 b) FU (0, S) = some S' ∧ lp (f_X8_spell_l51 y b) FU (0, T) = some T' ∧ PS S' T' w (n + 48) ∧ FP S S' ∧ FM T T' := by
  have n1 := h.1.2.2.2.2.2.1
  have cb := bcnt_bnd h.1 h1 h2
  obtain ⟨r, r', g1, g2, g3, g4, g5⟩ := lp_sim (step := f_X7_spellBidder_l12 b) (step' := f_X8_spell_l51 y b) (fun s t => s.1 = t.1 ∧ 0 ≤ s.1 ∧ s.1 ≤ bcnt (T 1) b ∧ PS s.2 t.2 w (n + 6 * s.1) ∧ FP S s.2 ∧ FM T t.2) (fun s => (bcnt (T 1) b - s.1).toNat) (fun r r' => PS r r' w (n + 48) ∧ FP S r ∧ FM T r') (by
    intro s t ⟨e, x0, x1, ps, f1, f2⟩
    obtain ⟨i, s⟩ := s
    obtain ⟨i', t⟩ := t
    dsimp only at e x0 x1 ps f1 f2 ⊢
    subst e
    have hR : Rel s t := h.ag (AgC.pen f1) (AgM.pen f2)
    have t1 : t 1 = T 1 := f2.1 1 (by decide) (by decide)
    have sc : s 6 b = bcnt (T 1) b := by rw [← t1]; exact hR.2.1.2.2.2.2.1 b h1 (by rw [t1]; exact h2)
    unfold f_X7_spellBidder_l12 f_X8_spell_l51
    dsimp only
    rw [if_pos (show 0 ≤ b ∧ b < 9 by omega), M_valuesOf h1 (by omega), Option.bind_some, t1]
    by_cases hi : i < bcnt (T 1) b
    · obtain ⟨S1, T1, a1, a2, a3, a4, a5⟩ := P_sign (x := 32) ps hw (by omega)
      have hR1 : Rel S1 T1 := hR.ag (AgC.pen a4) (AgM.pen a5)
      have t11 : T1 1 = T 1 := (a5.1 1 (by decide) (by decide)).trans t1
      have vb := bval_bnd h.1 h1 h2 x0 hi
      obtain ⟨S2, T2, b1, b2, b3, b4, b5⟩ := P_number (v := bval (T 1) b i) a3 hw (by omega) vb.1 (by omega)
      have el : f_X4_letters s 7 = some S1 := by
        rw [C_lt (by decide), lt7]
        show (f_X4_sign s 32).bind (sgs []) = _
        rw [a1]
        rfl
      have ev : f_X1_valueAt S1 5 b i = some (bval (T 1) b i) := by
        rw [← t11]
        exact C_valueAt (q := 5) (by decide) hR1.1 hR1.2.1 h1 (by rw [t11]; exact h2) x0 (by rw [t11]; exact hi)
      rw [if_pos (show ltb i (s 6 b) = true by rw [sc]; exact ltb_t hi (by omega) (by omega)), if_pos (ltb_t hi (by omega) (by omega)), el, Option.bind_some, ev, Option.bind_some, b1, Option.bind_some, a2, Option.bind_some, M_valueAt h1 (by omega) x0 (by omega), t11, Option.bind_some, b2, Option.bind_some]
      exact Or.inl ⟨_, _, rfl, rfl, ⟨rfl, by dsimp only; omega, by dsimp only; omega, b3.mono (by dsimp only; omega), (f1.tr a4).tr b4, (f2.tr a5).tr b5⟩, by dsimp only; omega⟩
    · have ql := nl (x := i) (y := bcnt (T 1) b) (by omega) (by omega) (by omega)
      rw [if_neg (show ¬ ltb i (s 6 b) = true by rw [sc]; exact ql), if_neg ql]
      exact Or.inr ⟨_, _, rfl, rfl, ps.mono (by omega), f1, f2⟩) FU (0, S) (0, T) ⟨rfl, by dsimp only; omega, cb.2.2.1, hp.mono (by dsimp only; omega), FP.rf, FM.rf⟩ (by dsimp only; rw [FU_eq]; omega)
  exact ⟨r, r', g1, g2, g3, g4, g5⟩
