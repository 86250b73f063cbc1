/-! ===== the reference's whole run ===== -/
theorem AR.fr {S S' : Mem} {cf : Nat} {ff : Int} {cu cp co ca : Nat} {n : Int} {o : Out} (h : AR S cf ff cu cp co ca n o) (h0 : S' cf ff = S cf ff) (h1 : S' cu = S cu) (h2 : S' cp = S cp) (h3 : S' co = S co) (h4 : S' ca = S ca) : AR S' cf ff cu cp co ca n o := by
  obtain ⟨a1, a2, a3, a4⟩ := h
  refine ⟨by rw [h0]; exact a1, fun b x y => by rw [h1]; exact a2 b x y, fun b i x y z w => by rw [h2]; exact a3 b i x y z w, fun k x y => by rw [h3, h4]; exact a4 k x y⟩
/-- what stays over a run -/
def FrR (T T' : Mem) : Prop := (∀ k, k ≠ 0 → k ≠ 5 → k ≠ 6 → k ≠ 7 → k ≠ 8 → k ≠ 9 → T' k = T k) ∧ ∀ j, j ≠ 11 → j ≠ 12 → T' 0 j = T 0 j
theorem FrR.rf {T : Mem} : FrR T T := ⟨fun _ _ _ _ _ _ _ => rfl, fun _ _ _ => rfl⟩
theorem FrR.tr {T T1 T2 : Mem} (h : FrR T T1) (g : FrR T1 T2) : FrR T T2 := ⟨fun k a b c d e f => (g.1 k a b c d e f).trans (h.1 k a b c d e f), fun j x y => (g.2 j x y).trans (h.2 j x y)⟩
theorem FrR.of {T T' : Mem} (h : Frmm T T') : FrR T T' := ⟨fun k a b _ d e f => h.1 k a b d e f, fun j x _ => h.2 j x⟩
theorem FrR.row {T T' : Mem} (h : FrR T T') : T' 1 = T 1 := h.1 1 (by decide) (by decide) (by decide) (by decide) (by decide) (by decide)
theorem FrR_wr {T : Mem} {q : Nat} {i v : Int} (h : q = 5 ∨ q = 6 ∨ (q = 0 ∧ (i = 11 ∨ i = 12))) : FrR T (wr T q i v) := by
  refine ⟨fun k a b c d e f => ?_, fun j x y => ?_⟩
  · rw [wr_ne]
    rcases h with h | h | h
    · rw [h]; exact b
    · rw [h]; exact c
    · rw [h.1]; exact a
  · rcases h with h | h | ⟨h, g⟩
    · rw [h, wr_cell (by decide)]
    · rw [h, wr_cell (by decide)]
    · rw [wr_idx]
      rcases g with g | g
      · rw [g]; exact x
      · rw [g]; exact y
theorem rdN_full {B : Int → Int} {e : Int} {o : Out} {k : Nat} (h : B 0 ≤ ((rdN B e o k).length : Int)) : ∀ j, rdN B e o (k + j) = rdN B e o k
  | 0 => rfl
  | j + 1 => by
    have ih := rdN_full h j
    show rdS B e ((k + j : Nat) : Int) (rdN B e o (k + j)) = _
    rw [ih]
    unfold rdS
    rw [if_neg (by omega)]
theorem M_start {T : Mem} (hn0 : 0 ≤ T 1 2) (hn : T 1 2 ≤ 9) : ∃ T', lp (f_X8_runs_l7) FU (0, wr T 0 11 0) = some T' ∧ ARm T' [] ∧ FrR T T' := by
  obtain ⟨r, g1, g2⟩ := lp_rel (step := f_X8_runs_l7) (fun i (t : Int × Mem) => t.1 = i ∧ FrR T t.2 ∧ t.2 0 11 = 0 ∧ ∀ b : Int, 0 ≤ b → b < (i : Int) → t.2 5 b = 0) (fun t => FrR T t ∧ t 0 11 = 0 ∧ ∀ b, 0 ≤ b → b < T 1 2 → t 5 b = 0) (T 1 2).toNat (by
      intro i t hi ⟨e0, hF, e1, e2⟩
      obtain ⟨t1, t2⟩ := t
      dsimp only at e0 hF e1 e2 ⊢
      subst e0
      refine ⟨((i : Int) + 1, wr t2 5 i 0), ?_, by dsimp only; omega, hF.tr (FrR_wr (Or.inl rfl)), ?_, ?_⟩
      · unfold f_X8_runs_l7
        dsimp only
        rw [M_many]
        simp only [Option.bind_some]
        rw [hF.row, if_pos (ltb_t (by omega) (by omega) (by omega)), if_pos (by omega)]
        rfl
      · dsimp only
        rw [wr_cell (by decide)]; exact e1
      · intro b h1 h2
        dsimp only
        by_cases hb : b = i
        · rw [hb, wr_eq]
        · rw [wr_idx hb]; exact e2 b h1 (by omega)) (by
      intro t ⟨e0, hF, e1, e2⟩
      obtain ⟨t1, t2⟩ := t
      dsimp only at e0 hF e1 e2 ⊢
      subst e0
      refine ⟨t2, ?_, hF, e1, fun b h1 h2 => e2 b h1 (by omega)⟩
      unfold f_X8_runs_l7
      dsimp only
      rw [M_many]
      simp only [Option.bind_some]
      rw [hF.row, if_neg (by rw [ltb_f (by omega) (by omega) (by omega)]; decide)]) (n := FU) (by rw [FU_eq]; omega) (s := (0, wr T 0 11 0)) ⟨rfl, FrR_wr (Or.inr (Or.inr ⟨rfl, Or.inl rfl⟩)), (show wr T 0 11 0 0 11 = 0 from wr_eq _ _ _ _), fun b h1 h2 => by omega⟩
  obtain ⟨hF, e1, e2⟩ := g2
  refine ⟨r, g1, ⟨by rw [e1]; rfl, fun b h1 h2 => by rw [hF.row] at h2; rw [e2 b h1 h2]; rfl, fun b i h1 h2 h3 h4 => ?_, fun k h1 h2 => ?_⟩, hF⟩
  · have : hs ([] : Out) b = 0 := rfl
    omega
  · have : (([] : Out).length : Int) = 0 := rfl
    omega
theorem M_clock {N : Int} {T : Mem} (hN : N ≤ 9) (hw : WF N (T 1)) (hA : ARm T (outK (T 1) 0)) (he : T 0 12 = T 1 1) : ∃ T', lp (f_X8_runs_l46) FU T = some T' ∧ ARm T' (oc1 (T 1)) ∧ T' 0 12 = en (T 1) ∧ FrR T T' := by
  have b0 := hw.1
  have b1 := hw.2.1
  have b2 := hw.2.2.1
  have b3 := ek_le hw
  refine lp_rel (fun i t => FrR T t ∧ ARm t (outK (T 1) i) ∧ t 0 12 = T 1 1 + i) (fun t => ARm t (oc1 (T 1)) ∧ t 0 12 = en (T 1) ∧ FrR T t) (ek (T 1)) ?_ ?_ (by rw [FU_eq]; omega) ⟨FrR.rf, hA, by rw [he]; omega⟩
  · intro i t hi ⟨hF, hA', e1⟩
    have er := hF.row
    have hw' : WF N (t 1) := by rw [er]; exact hw
    have hgt := ek_lt hi
    have hwb := bW_bnd hN hw (T 1 1 + i)
    let t1 := wr t 0 12 (t 0 12 + 1)
    have er1 : t1 1 = T 1 := by
      show wr t 0 12 (t 0 12 + 1) 1 = T 1
      rw [wr_ne (by decide), er]
    have e12 : t1 0 12 = T 1 1 + ((i : Int) + 1) := by
      show wr t 0 12 (t 0 12 + 1) 0 12 = _
      rw [wr_eq, e1]; omega
    have hA1 : ARm t1 (outK (T 1) i) := by
      unfold ARm
      rw [er1]
      unfold ARm at hA'
      rw [er] at hA'
      exact hA'.fr (wr_idx (by decide) _) (wr_ne (by decide)) (wr_ne (by decide)) (wr_ne (by decide)) (wr_ne (by decide))
    have hlen := len_outK hw (k := i + 1) (by omega)
    obtain ⟨t', g1, g2, g3⟩ := M_shows (p := T 1 1 + ((i : Int) + 1)) hN (by rw [er1]; exact hw) hA1 (by omega) (by omega) (by rw [er1]; show ((outK (T 1) (i + 1)).length : Int) ≤ 30; omega) (fun c h1 h2 => by
      rw [er1] at h2
      have := hs_outK_used hw h1 h2 i
      have := bused_bnd hw h1 h2
      omega)
    rw [er1] at g2
    refine ⟨t', ?_, hF.tr ((FrR_wr (Or.inr (Or.inr ⟨rfl, Or.inr rfl⟩))).tr (FrR.of g3)), g2, ?_⟩
    · unfold f_X8_runs_l46
      rw [e1, M_wantedAt hN hw' (by omega) (by omega)]
      simp only [Option.bind_some]
      rw [if_pos (by omega), er, if_pos (ltb_t hgt (by omega) (by omega))]
      dsimp only [wrk]
      have e13 : wr t 0 12 (T 1 1 + (i : Int) + 1) = t1 := by
        show _ = wr t 0 12 (t 0 12 + 1)
        rw [e1]
      rw [e13, e12, g1]
      rfl
    · rw [g3.end_, e12]
      omega
  · intro t ⟨hF, hA', e1⟩
    have er := hF.row
    have hw' : WF N (t 1) := by rw [er]; exact hw
    have hle := ek_end hw
    have hwb := bW_bnd hN hw (en (T 1))
    refine ⟨t, ?_, hA', e1, hF⟩
    unfold f_X8_runs_l46
    rw [e1, M_wantedAt hN hw' (by omega) (by omega)]
    simp only [Option.bind_some]
    unfold en at hle hwb
    rw [if_pos (by omega), er, if_neg (by rw [ltb_f hle (by omega) (by omega)]; decide)]
theorem M_byClock {T : Mem} {o : Out} (hA : ARm T o) (hn0 : 0 ≤ T 1 2) (hn : T 1 2 ≤ 9) : ∃ T', lp (f_X8_runs_l86) FU (0, T) = some T' ∧ ARm T' o ∧ T' 0 12 = T 0 12 ∧ (∀ b, 0 ≤ b → b < T 1 2 → T' 6 b = hs o b) ∧ FrR T T' := by
  refine lp_rel (step := f_X8_runs_l86) (fun i (t : Int × Mem) => t.1 = i ∧ FrR T t.2 ∧ ARm t.2 o ∧ t.2 0 12 = T 0 12 ∧ ∀ b : Int, 0 ≤ b → b < (i : Int) → t.2 6 b = hs o b) (fun t => ARm t o ∧ t 0 12 = T 0 12 ∧ (∀ b, 0 ≤ b → b < T 1 2 → t 6 b = hs o b) ∧ FrR T t) (T 1 2).toNat (by
      intro i t hi ⟨e0, hF, hA', e1, e2⟩
      obtain ⟨t1, t2⟩ := t
      dsimp only at e0 hF hA' e1 e2 ⊢
      subst e0
      have er := hF.row
      refine ⟨((i : Int) + 1, wr t2 6 i (t2 5 i)), ?_, by dsimp only; omega, hF.tr (FrR_wr (Or.inr (Or.inl rfl))), ?_, ?_, ?_⟩
      · unfold f_X8_runs_l86
        dsimp only
        rw [M_many]
        simp only [Option.bind_some]
        rw [er, if_pos (ltb_t (by omega) (by omega) (by omega)), if_pos (by omega)]
        rfl
      · dsimp only
        unfold ARm
        rw [wr_ne (by decide)]
        exact hA'.fr (wr_cell (by decide)) (wr_ne (by decide)) (wr_ne (by decide)) (wr_ne (by decide)) (wr_ne (by decide))
      · dsimp only
        rw [wr_cell (by decide)]; exact e1
      · intro b h1 h2
        dsimp only
        by_cases hb : b = i
        · rw [hb, wr_eq]
          exact hA'.2.1 i (by omega) (by rw [er]; omega)
        · rw [wr_idx hb]; exact e2 b h1 (by omega)) (by
      intro t ⟨e0, hF, hA', e1, e2⟩
      obtain ⟨t1, t2⟩ := t
      dsimp only at e0 hF hA' e1 e2 ⊢
      subst e0
      refine ⟨t2, ?_, hA', e1, fun b h1 h2 => e2 b h1 (by omega), hF⟩
      unfold f_X8_runs_l86
      dsimp only
      rw [M_many]
      simp only [Option.bind_some]
      rw [hF.row, if_neg (by rw [ltb_f (by omega) (by omega) (by omega)]; decide)]) (n := FU) (by rw [FU_eq]; omega) (s := (0, T)) ⟨rfl, FrR.rf, hA, rfl, fun b h1 h2 => by omega⟩
theorem M_round {N : Int} {T : Mem} {o : Out} (hN : N ≤ 9) (hw : WF N (T 1)) (hA : ARm T o) (he1 : 0 ≤ T 0 12) (he2 : T 0 12 ≤ 99) (hL : (o.length : Int) ≤ T 1 0) (hu : ∀ c, 0 ≤ c → c < T 1 2 → hs o c ≤ bused (T 1) c) : ∃ r : Int × Mem, lp (f_X8_runs_l122) FU (0, 0, T) = some r ∧ ARm r.2 (rd (T 1) (T 0 12) o) ∧ Frmm T r.2 ∧ (r.1 = if (rd (T 1) (T 0 12) o).length = o.length then 0 else 1) := by
  have b0 := hw.1
  have b1 := hw.2.1
  have n0 := hw.2.2.2.2.1
  have n1 := hw.2.2.2.2.2.1
  refine lp_inv (step := f_X8_runs_l122) (fun (t : Int × Int × Mem) => ∃ i : Nat, t.2.1 = i ∧ (i : Int) ≤ T 1 2 ∧ ARm t.2.2 (rdN (T 1) (T 0 12) o i) ∧ Frmm T t.2.2 ∧ t.1 = if (rdN (T 1) (T 0 12) o i).length = o.length then 0 else 1) (fun t => (T 1 2 - t.2.1).toNat) (fun r => ARm r.2 (rd (T 1) (T 0 12) o) ∧ Frmm T r.2 ∧ r.1 = if (rd (T 1) (T 0 12) o).length = o.length then 0 else 1) ?_ FU (0, 0, T) ⟨0, rfl, n0, hA, Frm.rf, (by show (0 : Int) = if o.length = o.length then 0 else 1; rw [if_pos rfl])⟩ (by rw [FU_eq]; dsimp only; omega)
  intro t ⟨i, e0, hi, hA', hF, em⟩
  obtain ⟨t1, t2, t3⟩ := t
  dsimp only at e0 hA' hF em ⊢
  subst e0
  have er := hF.row
  have ee := hF.end_
  have er2 : t3 1 2 = T 1 2 := by rw [er]
  have er0 : t3 1 0 = T 1 0 := by rw [er]
  have hw' : WF N (t3 1) := by rw [er]; exact hw
  have gl := len_rdN_le (e := T 0 12) hL i
  have a1 := hA'.1
  by_cases hin : (i : Int) < T 1 2
  · have hgu := hs_rdN_bnd (e := T 0 12) hw (c := i) (by omega) hin (hu i (by omega) hin) i
    have hub := bused_bnd hw (b := i) (by omega) hin
    have a2 := hA'.2.1 i (by omega) (by rw [er]; exact hin)
    have ga := abv_9 hw (b := i) (by omega) hin (T 0 12 - 1)
    have hnn := hs_nn (rdN (T 1) (T 0 12) o i) i
    by_cases hfull : ((rdN (T 1) (T 0 12) o i).length : Int) < T 1 0
    · left
      by_cases htk : hs (rdN (T 1) (T 0 12) o i) i < abv (T 1) i (T 0 12 - 1)
      · have gab := abv_bnd (p := T 0 12 - 1) hub.1
        obtain ⟨t', g1, g2, g3⟩ := M_give (p := T 0 12) hA' (by rw [er]; omega) (b := i) (by omega) (by rw [er]; exact hin) (by omega) (by omega) (fun c h1 h2 => by
          rw [er] at h2
          have x1 := hs_rdN_bnd (e := T 0 12) hw h1 h2 (hu c h1 h2) i
          have x2 := bused_bnd hw h1 h2
          omega)
        have hstep : rdN (T 1) (T 0 12) o (i + 1) = rdN (T 1) (T 0 12) o i ++ [((i : Int), T 0 12)] := by
          show rdS _ _ _ _ = _
          unfold rdS
          rw [if_pos ⟨hfull, htk⟩]
        refine ⟨(1, (i : Int) + 1, t'), ?_, ⟨i + 1, by dsimp only; omega, by omega, by dsimp only; rw [hstep]; exact g2, hF.tr g3, ?_⟩, by dsimp only; omega⟩
        · unfold f_X8_runs_l122
          dsimp only
          rw [M_many]
          simp only [Option.bind_some]
          rw [er2, if_pos (ltb_t (by omega) (by omega) (by omega)), if_pos (by omega), if_pos (show ltb (t3 0 11) (t3 1 0) = true by rw [a1, er0]; exact ltb_t hfull (by omega) (by omega)), ee, M_aboveOf hN hw' (by omega) (by rw [er]; exact hin) (by omega) (by omega)]
          simp only [Option.bind_some]
          rw [if_pos (by omega), er, if_pos (show ltb (t3 5 (i : Int)) (abv (T 1) i (T 0 12 - 1)) = true by rw [a2]; exact ltb_t htk (by omega) (by omega)), g1]
          rfl
        · dsimp only
          rw [hstep, List.length_append, List.length_singleton, if_neg (by omega)]
      · have hstep : rdN (T 1) (T 0 12) o (i + 1) = rdN (T 1) (T 0 12) o i := by
          show rdS _ _ _ _ = _
          unfold rdS
          rw [if_neg (fun z => htk z.2)]
        refine ⟨(t1, (i : Int) + 1, t3), ?_, ⟨i + 1, by dsimp only; omega, by omega, by dsimp only; rw [hstep]; exact hA', hF, by dsimp only; rw [hstep]; exact em⟩, by dsimp only; omega⟩
        unfold f_X8_runs_l122
        dsimp only
        rw [M_many]
        simp only [Option.bind_some]
        rw [er2, if_pos (ltb_t (by omega) (by omega) (by omega)), if_pos (by omega), if_pos (show ltb (t3 0 11) (t3 1 0) = true by rw [a1, er0]; exact ltb_t hfull (by omega) (by omega)), ee, M_aboveOf hN hw' (by omega) (by rw [er]; exact hin) (by omega) (by omega)]
        simp only [Option.bind_some]
        rw [if_pos (by omega), er, if_neg (show ¬ ltb (t3 5 (i : Int)) (abv (T 1) i (T 0 12 - 1)) = true by rw [a2, ltb_f (by omega) (by omega) (by omega)]; decide)]
        rfl
    · right
      have hfin : rd (T 1) (T 0 12) o = rdN (T 1) (T 0 12) o i := by
        have := rdN_full (B := T 1) (e := T 0 12) (o := o) (k := i) (by omega) ((T 1 2).toNat - i)
        rw [show i + ((T 1 2).toNat - i) = (T 1 2).toNat by omega] at this
        exact this
      refine ⟨(t1, t3), ?_, by dsimp only; rw [hfin]; exact hA', hF, by dsimp only; rw [hfin]; exact em⟩
      unfold f_X8_runs_l122
      dsimp only
      rw [M_many]
      simp only [Option.bind_some]
      rw [er2, if_pos (ltb_t (by omega) (by omega) (by omega)), if_pos (by omega), if_neg (show ¬ ltb (t3 0 11) (t3 1 0) = true by rw [a1, er0, ltb_f (by omega) (by omega) (by omega)]; decide)]
  · right
    have hieq : i = (T 1 2).toNat := by omega
    have hfin : rd (T 1) (T 0 12) o = rdN (T 1) (T 0 12) o i := by rw [hieq]; rfl
    refine ⟨(t1, t3), ?_, by dsimp only; rw [hfin]; exact hA', hF, by dsimp only; rw [hfin]; exact em⟩
    unfold f_X8_runs_l122
    dsimp only
    rw [M_many]
    simp only [Option.bind_some]
    rw [er2, if_neg (by rw [ltb_f (by omega) (by omega) (by omega)]; decide)]
theorem M_rounds {N : Int} {T : Mem} {o : Out} (hN : N ≤ 9) (hw : WF N (T 1)) (hA : ARm T o) (he1 : 0 ≤ T 0 12) (he2 : T 0 12 ≤ 99) (hL : (o.length : Int) ≤ T 1 0) (hu : ∀ c, 0 ≤ c → c < T 1 2 → hs o c ≤ bused (T 1) c) : ∃ T', lp (f_X8_runs_l114) FU (1, T) = some T' ∧ ARm T' (rds (T 1) (T 0 12) o 8) ∧ Frmm T T' := by
  have b0 := hw.1
  have b1 := hw.2.1
  have n0 := hw.2.2.2.2.1
  refine lp_inv (step := f_X8_runs_l114) (fun (t : Int × Mem) => ∃ j : Nat, (t.1 = 0 ∨ t.1 = 1) ∧ ARm t.2 (rds (T 1) (T 0 12) o j) ∧ Frmm T t.2 ∧ (t.1 = 0 → Still (T 1) (T 0 12) (rds (T 1) (T 0 12) o j))) (fun t => if t.1 = 0 then 0 else (T 1 0 - t.2 0 11).toNat + 1) (fun t => ARm t (rds (T 1) (T 0 12) o 8) ∧ Frmm T t) ?_ FU (1, T) ⟨0, Or.inr rfl, hA, Frm.rf, fun h => by omega⟩ (by
    rw [FU_eq]; dsimp only
    rw [if_neg (by decide), hA.1]
    omega)
  intro t ⟨j, e0, hA', hF, hS⟩
  obtain ⟨t1, t2⟩ := t
  dsimp only at e0 hA' hF hS ⊢
  have er := hF.row
  have ee := hF.end_
  rcases e0 with e0 | e0
  · right
    subst e0
    have hst := hS rfl
    have hfin : rds (T 1) (T 0 12) o 8 = rds (T 1) (T 0 12) o j := by
      rcases Nat.lt_or_ge j 8 with h | h
      · have := rds_stop n0 hst (8 - j)
        rw [show j + (8 - j) = 8 by omega] at this
        exact this
      · have := rds_stop n0 (rds_still8 (e := T 0 12) hw hL) (j - 8)
        rw [show 8 + (j - 8) = j by omega] at this
        exact this.symm
    refine ⟨t2, ?_, by rw [hfin]; exact hA', hF⟩
    unfold f_X8_runs_l114
    dsimp only
    rw [if_pos (eqb_t rfl)]
  · left
    subst e0
    have hw' : WF N (t2 1) := by rw [er]; exact hw
    have gl := len_rds_le (e := T 0 12) hL j
    obtain ⟨r, g1, g2, g3, g4⟩ := M_round (o := rds (T 1) (T 0 12) o j) hN hw' hA' (by rw [ee]; exact he1) (by rw [ee]; exact he2) (by rw [er]; exact gl.1) (fun c h1 h2 => by
      rw [er] at h2 ⊢
      exact (hs_rds_bnd (e := T 0 12) hw h1 h2 (hu c h1 h2) j).1)
    rw [er, ee] at g2 g4
    have hstep : rds (T 1) (T 0 12) o (j + 1) = rd (T 1) (T 0 12) (rds (T 1) (T 0 12) o j) := rfl
    have gl2 := len_rds_le (e := T 0 12) hL (j + 1)
    have gl3 := len_rdN_le (e := T 0 12) gl.1 (T 1 2).toNat
    refine ⟨(r.1, r.2), ?_, ⟨j + 1, ?_, by rw [hstep]; exact g2, hF.tr g3, ?_⟩, ?_⟩
    · unfold f_X8_runs_l114
      dsimp only
      rw [if_neg (by rw [eqb_f (by decide) (by decide) (by decide) (by decide) (by decide)]; decide), g1]
      rfl
    · dsimp only
      rw [g4]
      split
      · left; rfl
      · right; rfl
    · intro hz
      dsimp only at hz
      rw [g4] at hz
      have hsame : (rd (T 1) (T 0 12) (rds (T 1) (T 0 12) o j)).length = (rds (T 1) (T 0 12) o j).length := by
        by_cases hq : (rd (T 1) (T 0 12) (rds (T 1) (T 0 12) o j)).length = (rds (T 1) (T 0 12) o j).length
        · exact hq
        · rw [if_neg hq] at hz; omega
      have hst := still_of_same (B := T 1) (e := T 0 12) gl.1 (by rw [hsame]) n0
      rw [hstep, rd_still n0 hst]
      exact hst
    · dsimp only
      rw [if_neg (show ¬ (1 : Int) = 0 by decide)]
      have e1 := g2.1
      have e2 := hA'.1
      by_cases hq : (rd (T 1) (T 0 12) (rds (T 1) (T 0 12) o j)).length = (rds (T 1) (T 0 12) o j).length
      · rw [g4, if_pos hq, if_pos rfl]; omega
      · rw [g4, if_neg hq, if_neg (by decide), e1, e2]
        have : (rds (T 1) (T 0 12) o j).length < (rd (T 1) (T 0 12) (rds (T 1) (T 0 12) o j)).length := by
          unfold rd at hq ⊢
          omega
        have h5 : ((rd (T 1) (T 0 12) (rds (T 1) (T 0 12) o j)).length : Int) ≤ T 1 0 := by
          rw [← hstep]; exact gl2.1
        omega
/-- the reference's run -/
theorem M_runs {N : Int} {T : Mem} (hN : N ≤ 9) (hw : WF N (T 1)) : ∃ T', f_X8_runs T = some T' ∧ ARm T' (oc (T 1)) ∧ T' 0 12 = en (T 1) ∧ (∀ b, 0 ≤ b → b < T 1 2 → T' 6 b = hs (oc1 (T 1)) b) ∧ FrR T T' := by
  have b0 := hw.1
  have b1 := hw.2.1
  have b2 := hw.2.2.1
  have b3 := ek_le hw
  have n0 := hw.2.2.2.2.1
  have n1 := hw.2.2.2.2.2.1
  obtain ⟨T1, a1, a2, a3⟩ := M_start n0 (by omega)
  have r1 := a3.row
  let T2 := wr T1 0 12 (T1 1 1)
  have r2 : T2 1 = T 1 := by
    show wr T1 0 12 (T1 1 1) 1 = T 1
    rw [wr_ne (by decide), r1]
  have f2 : FrR T T2 := a3.tr (FrR_wr (Or.inr (Or.inr ⟨rfl, Or.inr rfl⟩)))
  have e2 : T2 0 12 = T 1 1 := by
    show wr T1 0 12 (T1 1 1) 0 12 = _
    rw [wr_eq, r1]
  have A2 : ARm T2 [] := by
    unfold ARm
    rw [r2]
    unfold ARm at a2
    rw [r1] at a2
    exact a2.fr (wr_idx (by decide) _) (wr_ne (by decide)) (wr_ne (by decide)) (wr_ne (by decide)) (wr_ne (by decide))
  have hl0 := len_outK hw (k := 0) (by omega)
  obtain ⟨T3, c1, c2, c3⟩ := M_shows (p := T 1 1) hN (by rw [r2]; exact hw) A2 (by omega) (by omega) (by rw [r2]; show ((outK (T 1) 0).length : Int) ≤ 30; omega) (fun c h1 h2 => by show (0 : Int) ≤ 8; decide)
  rw [r2] at c2
  have r3 : T3 1 = T 1 := by rw [c3.row, r2]
  have e3 : T3 0 12 = T3 1 1 := by rw [c3.end_, e2, r3]
  obtain ⟨T4, d1, d2, d3, d4⟩ := M_clock hN (by rw [r3]; exact hw) (by rw [r3]; exact c2) e3
  rw [r3] at d2 d3
  have r4 : T4 1 = T 1 := by rw [d4.row, r3]
  obtain ⟨T5, k1, k2, k3, k4, k5⟩ := M_byClock d2 (by rw [r4]; omega) (by rw [r4]; omega)
  have r5 : T5 1 = T 1 := by rw [k5.row, r4]
  have e5 : T5 0 12 = en (T 1) := by rw [k3, d3]
  have hl1 := len_outK hw (k := ek (T 1)) (Nat.le_refl _)
  obtain ⟨T6, m1, m2, m3⟩ := M_rounds hN (by rw [r5]; exact hw) k2 (by rw [e5]; unfold en; omega) (by rw [e5]; unfold en; omega) (by rw [r5]; exact hl1) (fun c h1 h2 => by
    rw [r5] at h2 ⊢
    exact hs_outK_used hw h1 h2 _)
  rw [r5, e5] at m2
  refine ⟨T6, ?_, m2, by rw [m3.end_, e5], fun b h1 h2 => ?_, ?_⟩
  · unfold f_X8_runs
    dsimp only [wrk]
    rw [a1]
    simp only [Option.bind_some]
    rw [if_pos (by omega)]
    have e20 : wr T1 0 12 (T1 1 1) = T2 := rfl
    rw [e20, e2, c1]
    simp only [Option.bind_some]
    rw [d1]
    simp only [Option.bind_some]
    rw [k1]
    simp only [Option.bind_some]
    rw [m1]
    rfl
  · rw [m3.1 6 (by decide) (by decide) (by decide) (by decide) (by decide)]
    exact k4 b h1 (by rw [r4]; exact h2)
  · exact f2.tr ((FrR.of c3).tr (d4.tr (k5.tr (FrR.of m3))))
