/-! ===== report ===== -/
theorem P_mid {S T : Mem} {w n : Int} {k i : Nat} (hr : RW T) (hp : PS S T w n) (hw : -1 ≤ w ∧ w < 2147483648) (hk : k < 14) (hi : i < 8) (e : ltr k = [32] ++ (wrd i ++ [32])) (hl : (ltr k).length ≤ 6) (hn : n + 6 ≤ 600) : ∃ S1 T1 T2 T3, f_X4_letters S k = some S1 ∧ f_X8_writes T 32 = some T1 ∧ f_X8_writesWord T1 i = some T2 ∧ f_X8_writes T2 32 = some T3 ∧ PS S1 T3 w (n + 6) ∧ FP S S1 ∧ FM T T3 := by
  obtain ⟨S1, T3, a1, a2, a3, a4, a5⟩ := P_list hw (ltr k) hp (by omega)
  rw [e, wrs_app, wrs_one] at a2
  cases hx : f_X8_writes T 32 with
  | none => rw [hx] at a2; cases a2
  | some T1 =>
    rw [hx, Option.bind_some, ← M_word1 (hr.wr hx) hi] at a2
    cases hy : f_X8_writesWord T1 i with
    | none => rw [hy] at a2; cases a2
    | some T2 =>
      rw [hy, Option.bind_some] at a2
      exact ⟨S1, T1, T2, T3, by rw [C_lt hk]; exact a1, rfl, hy, a2, a3.mono (by omega), a4, a5⟩
theorem PS.ft {S T T' : Mem} {w n : Int} (h : PS S T w n) (f : FrT T T') : PS S T' w n := by
  obtain ⟨l, a, b, c, d, e, g⟩ := h
  exact ⟨l, a, b, c, by rw [f 0 (by decide)]; exact d, fun i i0 i1 => by rw [f 11 (by decide)]; exact e i i0 i1, g⟩
theorem PS.fp {S S' T : Mem} {w n : Int} (h : PS S T w n) (f : FrP S S' 5) : PS S' T w n := by
  obtain ⟨l, a, b, c, d, e, g⟩ := h
  have k : S' 36 = S 36 := f 36 (by decide) (by decide)
  exact ⟨l, by rw [k]; exact a, by rw [k]; exact b, by rw [k]; exact c, d, e, g⟩
theorem DM.pen {T T' : Mem} {B : Int → Int} (h : DM T B) (f : FM T T') : DM T' B := by
  obtain ⟨a1, a2, a3, a4⟩ := h
  have e : T' 1 = T 1 := f.1 1 (by decide) (by decide)
  refine ⟨by rw [e]; exact a1, ?_, by rw [f.2 12 (by decide)]; exact a3, fun b h1 h2 => by rw [f.1 6 (by decide) (by decide)]; exact a4 b h1 h2⟩
  unfold ARm
  rw [e]
  exact a2.fr (f.2 11 (by decide)) (f.1 _ (by decide) (by decide)) (f.1 _ (by decide) (by decide)) (f.1 _ (by decide) (by decide)) (f.1 _ (by decide) (by decide))
theorem P_told {S T : Mem} {w n b k : Int} (h : Rel S T) (hD : DC S 4 (T 1)) (hM : DM T (T 1)) (hp : PS S T w n) (hw : -1 ≤ w ∧ w < 2147483648) (h1 : 0 ≤ b) (h2 : b < T 1 2) (h3 : 0 ≤ k ∧ k ≤ 3) (hn : n + 32 ≤ 600) : ∃ S17 S19 S21 S22 S25 T19 T21 T23 T25 T27 T29 T31 T33, f_X4_number S b = some S17 ∧ f_X4_letters S17 11 = some S19 ∧ f_X4_number S19 (hs (oc (T 1)) b) = some S21 ∧ f_X0_payment S21 4 b k = some (pay (T 1) b k, S22) ∧ f_X4_line S22 12 (pay (T 1) b k) = some S25 ∧ f_X8_writesNumber T b = some T19 ∧ f_X8_writes T19 32 = some T21 ∧ f_X8_writesWord T21 5 = some T23 ∧ f_X8_writes T23 32 = some T25 ∧ f_X8_writesNumber T25 (hs (oc (T 1)) b) = some T27 ∧ f_X8_writes T27 32 = some T29 ∧ f_X8_paysOf T29 b k = some (pay (T 1) b k, T31) ∧ f_X8_writesOne T31 6 (pay (T 1) b k) = some T33 ∧ PS S25 T33 w (n + 32) ∧ Rel S25 T33 ∧ DC S25 4 (T 1) ∧ DM T33 (T 1) ∧ S19 11 b = hs (oc (T 1)) b ∧ T25 5 b = hs (oc (T 1)) b := by
  have n1 := h.1.2.2.2.2.2.1
  have o := oc_used h.1 h1 h2
  have u := bused_bnd h.1 h1 h2
  have pb := pay_bnd (k := k) (by decide) h.1 h1 h2
  have pn := pay_nn (k := k) (by decide) h.1 h1 h2
  obtain ⟨S17, T19, a1, a2, a3, a4, a5⟩ := P_number (v := b) hp hw (by omega) h1 (by omega)
  have hR1 : Rel S17 T19 := h.ag (AgC.pen a4) (AgM.pen a5)
  obtain ⟨S19, T21, T23, T25, b1, b2, b3, b4, b5, b6, b7⟩ := P_mid (k := 11) (i := 5) hR1.2.2.2.2.2.2 a3 hw (by decide) (by decide) lt11 (by decide +kernel) (by omega)
  obtain ⟨S21, T27, c1, c2, c3, c4, c5⟩ := P_number (v := hs (oc (T 1)) b) b5 hw (by omega) o.1 (by omega)
  have D1 : DC S21 4 (T 1) := hD.ag (AgC.pen ((a4.tr b6).tr c4))
  have M1 : DM T27 (T 1) := hM.pen ((a5.tr b7).tr c5)
  obtain ⟨S22, d1, d2⟩ := C_payment (by decide) h.1 D1 h1 h2 h3.1 h3.2
  obtain ⟨S23, T29, e1, e2, e3, e4, e5⟩ := P_sign (x := 32) (c3.fp d2) hw (by omega)
  obtain ⟨T31, f1, f2⟩ := M_paysOf (by decide) h.1 (M1.pen e5) h1 h2 h3.1 h3.2
  have hR2 : Rel S22 T31 := ((h.ag (AgC.pen ((a4.tr b6).tr c4)) (AgM.pen (((a5.tr b7).tr c5).tr e5))).ag (AgC.fp (Or.inl rfl) d2) AgM.rf).ag AgC.rf (AgM.ft f2)
  have l6 : (wrd 6 ++ [32]).length = 5 := by decide +kernel
  obtain ⟨S24, T32, g1, g2, g3, g4, g5⟩ := P_list hw (wrd 6 ++ [32]) (e3.ft f2) (by rw [l6]; omega)
  rw [l6] at g3
  obtain ⟨S26, T34, i1, i2, i3, i4, i5⟩ := P_number (v := pay (T 1) b k) g3 hw (by omega) pn (by omega)
  obtain ⟨S25, T33, j1, j2, j3, j4, j5⟩ := P_sign (x := 59) i3 hw (by omega)
  refine ⟨S17, S19, S21, S22, S25, T19, T21, T23, T25, T27, T29, T31, T33, a1, b1, c1, d1, ?_, a2, b2, b3, b4, c2, e2, f1, ?_, j3.mono (by omega), hR2.ag (AgC.pen (((e4.tr g4).tr i4).tr j4)) (AgM.pen ((g5.tr i5).tr j5)), (D1.fp d2).ag (AgC.pen (((e4.tr g4).tr i4).tr j4)), ((M1.pen e5).ft f2).pen ((g5.tr i5).tr j5), ?_, ?_⟩
  · unfold f_X4_line
    rw [C_lt (by decide), lt12]
    show ((f_X4_sign S22 32).bind (sgs (wrd 6 ++ [32]))).bind _ = _
    rw [e1, Option.bind_some, g1, Option.bind_some, i1, Option.bind_some, j1]
    rfl
  · rw [← M_word1 hR2.2.2.2.2.2.2 (by decide)] at g2
    unfold f_X8_writesOne
    cases hx : f_X8_writesWord T31 6 with
    | none =>
      rw [show (((6 : Nat) : Int)) = 6 from rfl, hx] at g2
      cases g2
    | some U =>
      rw [show (((6 : Nat) : Int)) = 6 from rfl, hx, Option.bind_some] at g2
      rw [Option.bind_some, g2, Option.bind_some, i2, Option.bind_some, j2]
      rfl
  · rw [b6 11 (by decide), a4 11 (by decide)]
    exact hD.units h1 h2
  · rw [b7.1 5 (by decide) (by decide), a5.1 5 (by decide) (by decide)]
    exact hM.units h1 h2
