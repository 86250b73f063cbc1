/-! ===== report ===== -/
theorem P_mid {S T : Mem} {w n : Int} {k i : Nat} (hr : RW T) (hp : PS S T w n) (hw : -1 ≤ w ∧ w < 2147483648) (hk : k < 14) (hi : i < 8) (e : ltr k = [32] ++ (wrd i ++ [32])) (hl : (ltr k).length ≤ 6) (hn : n + 6 ≤ 600) : ∃ S1 T1 T2 T3, f_X4_letters S k = some S1 ∧ f_X8_writes T 32 = some T1 ∧ f_X8_writesWord T1 i = some T2 ∧ f_X8_writes T2 32 = some T3 ∧ PS S1 T3 w (n + 6) ∧ FP S S1 ∧ FM T T3 := by
  obtain ⟨S1, T3, a1, a2, a3, a4, a5⟩ := P_list hw (ltr k) hp (by omega)
  rw [e, wrs_app, wrs_one] at a2
  cases hx : f_X8_writes T 32 with
  | none => rw [hx] at a2; cases a2
  | some T1 =>
    rw [hx, Option.bind_some, ← M_word1 (hr.wr hx) hi] at a2
    cases hy : f_X8_writesWord T1 i with
    | none => rw [hy] at a2; cases a2
    | some T2 =>
      rw [hy, Option.bind_some] at a2
      exact ⟨S1, T1, T2, T3, by rw [C_lt hk]; exact a1, rfl, hy, a2, a3.mono (by omega), a4, a5⟩
theorem PS.ft {S T T' : Mem} {w n : Int} (h : PS S T w n) (f : FrT T T') : PS S T' w n := by
  obtain ⟨l, a, b, c, d, e, g⟩ := h
  exact ⟨l, a, b, c, by rw [f 0 (by decide)]; exact d, fun i i0 i1 => by rw [f 11 (by decide)]; exact e i i0 i1, g⟩
theorem PS.fp {S S' T : Mem} {w n : Int} (h : PS S T w n) (f : FrP S S' 5) : PS S' T w n := by
  obtain ⟨l, a, b, c, d, e, g⟩ := h
  have k : S' 36 = S 36 := f 36 (by decide) (by decide)
  exact ⟨l, by rw [k]; exact a, by rw [k]; exact b, by rw [k]; exact c, d, e, g⟩
theorem DM.pen {T T' : Mem} {B : Int → Int} (h : DM T B) (f : FM T T') : DM T' B := by
  obtain ⟨a1, a2, a3, a4⟩ := h
  have e : T' 1 = T 1 := f.1 1 (by decide) (by decide)
  refine ⟨by rw [e]; exact a1, ?_, by rw [f.2 12 (by decide)]; exact a3, fun b h1 h2 => by rw [f.1 6 (by decide) (by decide)]; exact a4 b h1 h2⟩
  unfold ARm
  rw [e]
  exact a2.fr (f.2 11 (by decide)) (f.1 _ (by decide) (by decide)) (f.1 _ (by decide) (by decide)) (f.1 _ (by decide) (by decide)) (f.1 _ (by decide) (by decide))
theorem P_told {S T : Mem} {w n b k : Int} (h : Rel S T) (hD : DC S 4 (T 1)) (hM : DM T (T 1)) (hp : PS S T w n) (hw : -1 ≤ w ∧ w < 2147483648) (h1 : 0 ≤ b) (h2 : b < T 1 2) (h3 : 0 ≤ k ∧ k ≤ 3) (hn : n + 32 ≤ 600) : ∃ S17 S19 S21 S22 S25 T19 T21 T23 T25 T27 T29 T31 T33, f_X4_number S b = some S17 ∧ f_X4_letters S17 11 = some S19 ∧ f_X4_number S19 (hs (oc (T 1)) b) = some S21 ∧ f_X0_payment S21 4 b k = some (pay (T 1) b k, S22) ∧ f_X4_line S22 12 (pay (T 1) b k) = some S25 ∧ f_X8_writesNumber T b = some T19 ∧ f_X8_writes T19 32 = some T21 ∧ f_X8_writesWord T21 5 = some T23 ∧ f_X8_writes T23 32 = some T25 ∧ f_X8_writesNumber T25 (hs (oc (T 1)) b) = some T27 ∧ f_X8_writes T27 32 = some T29 ∧ f_X8_paysOf T29 b k = some (pay (T 1) b k, T31) ∧ f_X8_writesOne T31 6 (pay (T 1) b k) = some T33 ∧ PS S25 T33 w (n + 32) ∧ Rel S25 T33 ∧ DC S25 4 (T 1) ∧ DM T33 (T 1) ∧ S19 11 b = hs (oc (T 1)) b ∧ T25 5 b = hs (oc (T 1)) b := by
  have n1 := h.1.2.2.2.2.2.1
  have o := oc_used h.1 h1 h2
  have u := bused_bnd h.1 h1 h2
  have pb := pay_bnd (k := k) (by decide) h.1 h1 h2
  have pn := pay_nn (k := k) (by decide) h.1 h1 h2
  obtain ⟨S17, T19, a1, a2, a3, a4, a5⟩ := P_number (v := b) hp hw (by omega) h1 (by omega)
  have hR1 : Rel S17 T19 := h.ag (AgC.pen a4) (AgM.pen a5)
  obtain ⟨S19, T21, T23, T25, b1, b2, b3, b4, b5, b6, b7⟩ := P_mid (k := 11) (i := 5) hR1.2.2.2.2.2.2 a3 hw (by decide) (by decide) lt11 (by decide +kernel) (by omega)
  obtain ⟨S21, T27, c1, c2, c3, c4, c5⟩ := P_number (v := hs (oc (T 1)) b) b5 hw (by omega) o.1 (by omega)
  have D1 : DC S21 4 (T 1) := hD.ag (AgC.pen ((a4.tr b6).tr c4))
  have M1 : DM T27 (T 1) := hM.pen ((a5.tr b7).tr c5)
  obtain ⟨S22, d1, d2⟩ := C_payment (by decide) h.1 D1 h1 h2 h3.1 h3.2
  obtain ⟨S23, T29, e1, e2, e3, e4, e5⟩ := P_sign (x := 32) (c3.fp d2) hw (by omega)
  obtain ⟨T31, f1, f2⟩ := M_paysOf (by decide) h.1 (M1.pen e5) h1 h2 h3.1 h3.2
  have hR2 : Rel S22 T31 := ((h.ag (AgC.pen ((a4.tr b6).tr c4)) (AgM.pen (((a5.tr b7).tr c5).tr e5))).ag (AgC.fp (Or.inl rfl) d2) AgM.rf).ag AgC.rf (AgM.ft f2)
  have l6 : (wrd 6 ++ [32]).length = 5 := by decide +kernel
  obtain ⟨S24, T32, g1, g2, g3, g4, g5⟩ := P_list hw (wrd 6 ++ [32]) (e3.ft f2) (by rw [l6]; omega)
  rw [l6] at g3
  obtain ⟨S26, T34, i1, i2, i3, i4, i5⟩ := P_number (v := pay (T 1) b k) g3 hw (by omega) pn (by omega)
  obtain ⟨S25, T33, j1, j2, j3, j4, j5⟩ := P_sign (x := 59) i3 hw (by omega)
  refine ⟨S17, S19, S21, S22, S25, T19, T21, T23, T25, T27, T29, T31, T33, a1, b1, c1, d1, ?_, a2, b2, b3, b4, c2, e2, f1, ?_, j3.mono (by omega), hR2.ag (AgC.pen (((e4.tr g4).tr i4).tr j4)) (AgM.pen ((g5.tr i5).tr j5)), (D1.fp d2).ag (AgC.pen (((e4.tr g4).tr i4).tr j4)), ((M1.pen e5).ft f2).pen ((g5.tr i5).tr j5), ?_, ?_⟩
  · unfold f_X4_line
    rw [C_lt (by decide), lt12]
    show ((f_X4_sign S22 32).bind (sgs (wrd 6 ++ [32]))).bind _ = _
    rw [e1, Option.bind_some, g1, Option.bind_some, i1, Option.bind_some, j1]
    rfl
  · rw [← M_word1 hR2.2.2.2.2.2.2 (by decide)] at g2
    unfold f_X8_writesOne
    cases hx : f_X8_writesWord T31 6 with
    | none =>
      rw [show (((6 : Nat) : Int)) = 6 from rfl, hx] at g2
      cases g2
    | some U =>
      rw [show (((6 : Nat) : Int)) = 6 from rfl, hx, Option.bind_some] at g2
      rw [Option.bind_some, g2, Option.bind_some, i2, Option.bind_some, j2]
      rfl
  · rw [b6 11 (by decide), a4 11 (by decide)]
    exact hD.units h1 h2
  · rw [b7.1 5 (by decide) (by decide), a5.1 5 (by decide) (by decide)]
    exact hM.units h1 h2
theorem Q_report {S T : Mem} {k w : Int} (h : Rel S T) (hk : R32 k) (hw : R32 w) : ∃ r S' T', f_X7_report S k w = some (r, S') ∧ f_X8_report T k w = some (r, T') ∧ Rel S' T' := by
  have n0 := h.1.2.2.2.2.1
  have n1 := h.1.2.2.2.2.2.1
  have eb := en_bnd h.1
  have bu := bun_bnd h.1
  unfold f_X7_report f_X8_report
  rw [C_isKind hk, M_isKind hk, Option.bind_some, Option.bind_some]
  by_cases h3 : 0 ≤ k ∧ k ≤ 3
  · rw [if_pos h3, if_neg e10, if_neg e10]
    by_cases h1 : w < -1
    · rw [if_pos (ltb_t h1 hw.1 (by omega)), if_pos (ltb_t h1 hw.1 (by omega))]
      exact ⟨_, _, _, rfl, rfl, h⟩
    · have q := nl (x := w) (y := -1) (by omega) (by omega) hw.2
      have hw2 : -1 ≤ w ∧ w < 2147483648 := ⟨by omega, hw.2⟩
      rw [if_neg q, if_neg q]
      obtain ⟨S0, s1, s2, s3⟩ := Q_now h
      obtain ⟨T0, t1, t2, t3⟩ := Q_runs s2
      obtain ⟨S1, a1, a2, a3⟩ := P_seek (S := S0) (T := T0) (w := w)
      have fm : FM T0 (wr T0 0 15 0) := ⟨fun k k0 _ => wr_ne k0, fun j hj => wr_idx hj 0⟩
      have hR1 : Rel S1 (wr T0 0 15 0) := t3.ag (AgC.pen a3) (AgM.pen fm)
      have D1 : DC S1 4 (T 1) := s3.ag (AgC.pen a3)
      have M1 : DM (wr T0 0 15 0) (T 1) := t2.pen fm
      obtain ⟨S2, T2, b1, b2, b3, b4, b5⟩ := P_line (k := 10) (i := 4) (v := en (T 1)) a2 hR1.2.2.2.2.2.2 hw2 (by decide) (by decide) lt10 (by decide +kernel) (by omega) eb.1 (by omega)
      have hR2 : Rel S2 T2 := hR1.ag (AgC.pen b4) (AgM.pen b5)
      obtain ⟨r, r', g1, g2, g3, g4, g5, g6⟩ := lp_sim (step := f_X7_report_l44 k) (step' := f_X8_report_l34 k w) (fun s t => s.1 = t.1 ∧ 0 ≤ s.1 ∧ s.1 ≤ T 1 2 ∧ PS s.2 t.2 w (14 + 32 * s.1) ∧ Rel s.2 t.2 ∧ DC s.2 4 (T 1) ∧ DM t.2 (T 1)) (fun s => (T 1 2 - s.1).toNat) (fun r r' => PS r r' w 300 ∧ Rel r r' ∧ DC r 4 (T 1) ∧ DM r' (T 1)) (by
        intro s t ⟨e, x0, x1, ps, hR, hD, hM⟩
        obtain ⟨i, s⟩ := s
        obtain ⟨i', t⟩ := t
        dsimp only at e x0 x1 ps hR hD hM ⊢
        subst e
        have sn : s 5 2 = T 1 2 := hD.1.2.2.1
        unfold f_X7_report_l44 f_X8_report_l34
        dsimp only
        rw [M_many, Option.bind_some, hM.1]
        by_cases hi : i < T 1 2
        · have o := oc_used h.1 x0 hi
          have u := bused_bnd h.1 x0 hi
          have su : s 11 i = hs (oc (T 1)) i := hD.units x0 hi
          have tu : t 5 i = hs (oc (T 1)) i := hM.units x0 hi
          have l9 : 0 ≤ i ∧ i < 9 := by omega
          rw [if_pos (show ltb i (s 5 2) = true by rw [sn]; exact ltb_t hi (by omega) (by omega)), if_pos (ltb_t hi (by omega) (by omega)), if_pos l9, if_pos l9]
          by_cases hz : hs (oc (T 1)) i = 0
          · rw [if_neg (show ¬ ltb 0 (s 11 i) = true by rw [su]; exact nl (by omega) (by omega) (by omega)), if_pos (show eqb (t 5 i) 0 = true by rw [tu]; exact eqb_t hz)]
            exact Or.inl ⟨_, _, rfl, rfl, ⟨rfl, by dsimp only; omega, by dsimp only; omega, ps.mono (by dsimp only; omega), hR, hD, hM⟩, by dsimp only; omega⟩
          · obtain ⟨S17, S19, S21, S22, S25, T19, T21, T23, T25, T27, T29, T31, T33, p1, p2, p3, p4, p5, p6, p7, p8, p9, p10, p11, p12, p13, p14, p15, p16, p17, p18, p19⟩ := P_told (b := i) (k := k) hR (by rw [hM.1]; exact hD) (by rw [hM.1]; exact hM) ps hw2 x0 (by rw [hM.1]; exact hi) h3 (by omega)
            rw [hM.1] at p3 p4 p5 p10 p12 p13 p16 p17 p18 p19
            rw [if_pos (show ltb 0 (s 11 i) = true by rw [su]; exact ltb_t (by omega) (by omega) (by omega)), if_neg (show ¬ eqb (t 5 i) 0 = true by rw [tu]; exact nq hz (by omega) (by omega) (by omega) (by omega)), p1, Option.bind_some, p2, Option.bind_some, p18, p3, Option.bind_some, p4, Option.bind_some]
            dsimp only
            rw [p5, Option.bind_some, Option.bind_some, p6, Option.bind_some, p7, Option.bind_some, p8, Option.bind_some, p9, Option.bind_some, p19, p10, Option.bind_some, p11, Option.bind_some, p12, Option.bind_some]
            dsimp only
            rw [p13, Option.bind_some]
            exact Or.inl ⟨_, _, rfl, rfl, ⟨rfl, by dsimp only; omega, by dsimp only; omega, p14.mono (by dsimp only; omega), p15, p16, p17⟩, by dsimp only; omega⟩
        · have ql := nl (x := i) (y := T 1 2) (by omega) (by omega) (by omega)
          rw [if_neg (show ¬ ltb i (s 5 2) = true by rw [sn]; exact ql), if_neg ql]
          exact Or.inr ⟨_, _, rfl, rfl, ps.mono (by omega), hR, hD, hM⟩) FU (0, S2) (0, T2) ⟨rfl, by dsimp only; omega, n0, b3.mono (by dsimp only; omega), hR2, D1.ag (AgC.pen b4), M1.pen b5⟩ (by dsimp only; rw [FU_eq]; omega)
      have cu : f_X0_unsold r 4 = some (bun (T 1)) := by
        unfold f_X0_unsold
        rw [show r (4 + 1) 0 = T 1 0 from g5.1.1, show r 4 2 = ((oc (T 1)).length : Nat) from g5.2.1.1]
        rfl
      have mu : f_X8_unsold r' = some (bun (T 1)) := by
        unfold f_X8_unsold
        rw [if_pos (by decide), g6.1, show r' 0 11 = ((oc (T 1)).length : Nat) from g6.2.1.1]
        rfl
      obtain ⟨S4, T4, c1, c2, c3, c4, c5⟩ := P_line (k := 13) (i := 7) (v := bun (T 1)) g3 g4.2.2.2.2.2.2 hw2 (by decide) (by decide) lt13 (by decide +kernel) (by omega) bu.1 (by omega)
      obtain ⟨x, k1, k2⟩ := P_answer c3 hw2 (by omega)
      have e1 : S1 4 1 = en (T 1) := D1.2.2.1
      have e2 : wr T0 0 15 0 0 12 = en (T 1) := M1.2.2.1
      rw [s1, Option.bind_some, a1, Option.bind_some, e1, b1, Option.bind_some, g1, Option.bind_some, cu, Option.bind_some, c1, Option.bind_some, k1, Option.bind_some, t1, Option.bind_some]
      dsimp only [wrk]
      rw [e2, show f_X8_writesOne (wr T0 0 15 0) 4 (en (T 1)) = some T2 from b2, Option.bind_some, g2, Option.bind_some, mu, Option.bind_some, show f_X8_writesOne r' 7 (bun (T 1)) = some T4 from c2, Option.bind_some, k2, Option.bind_some]
      exact ⟨_, _, _, rfl, rfl, g4.ag (AgC.pen c4) (AgM.pen c5)⟩
  · rw [if_neg h3]
    exact ⟨_, _, _, rfl, rfl, h⟩
