/-! ===== the reference's worth ===== -/
theorem cF_add1 (f : Int → Int) (m : Nat) (v : Int) : cF f 0 (m + 1) v = cF f 0 m v + if f m = v then 1 else 0 := by
  unfold cF
  rw [sumN]
  rw [show (0 : Int) + m = m by omega]
/-- what stays but the times -/
def FrT (T T' : Mem) : Prop := ∀ k, k ≠ 10 → T' k = T k
theorem FrT.row {T T' : Mem} (h : FrT T T') : T' 1 = T 1 := h 1 (by decide)
theorem M_times {N : Int} {T : Mem} {b set y2 : Int} (hN : N ≤ 9) (hw : WF N (T 1)) (h1 : 0 ≤ b) (h2 : b < T 1 2) : ∃ T', lp (f_X8_worthTo_l45 set y2 b) FU (0, T) = some T' ∧ FrT T T' ∧ ∀ v, 0 ≤ v → v ≤ 99 → T' 10 v = T 10 v + cF (bval (T 1) b) 0 (bused (T 1) b).toNat v := by
  have n1 := hw.2.2.2.2.2.1
  have a := bused_bnd hw h1 h2
  refine lp_rel (step := f_X8_worthTo_l45 set y2 b) (fun i (t : Int × Mem) => t.1 = i ∧ FrT T t.2 ∧ ∀ v, 0 ≤ v → v ≤ 99 → t.2 10 v = T 10 v + cF (bval (T 1) b) 0 i v) (fun (t : Mem) => FrT T t ∧ ∀ v, 0 ≤ v → v ≤ 99 → t 10 v = T 10 v + cF (bval (T 1) b) 0 (bused (T 1) b).toNat v) (bused (T 1) b).toNat ?_ ?_ (by rw [FU_eq]; omega) ⟨rfl, fun _ _ => rfl, fun v _ _ => by show T 10 v = T 10 v + 0; omega⟩
  · intro i t hi ⟨e0, hF, e1⟩
    obtain ⟨t1, t2⟩ := t
    dsimp only at e0 hF e1 ⊢
    subst e0
    have er := hF.row
    have hw' : WF N (t2 1) := by rw [er]; exact hw
    have vb := hw.2.2.2.2.2.2.2.1 b i h1 h2 (by omega) (by omega)
    refine ⟨((i : Int) + 1, wr t2 10 (bval (T 1) b i) (t2 10 (bval (T 1) b i) + 1)), ?_, by dsimp only; omega, fun k hk => by dsimp only; rw [wr_ne hk]; exact hF k hk, fun v h3 h4 => ?_⟩
    · unfold f_X8_worthTo_l45
      dsimp only
      rw [M_usedOf hN hw' h1 (by rw [er]; exact h2)]
      simp only [Option.bind_some]
      rw [er, if_pos (ltb_t (by omega) (by omega) (by omega)), M_valueAt h1 (by omega) (by omega) (by omega)]
      simp only [Option.bind_some]
      rw [er, if_pos (by omega)]
      rfl
    · dsimp only
      rw [cF_add1]
      by_cases hv : v = bval (T 1) b i
      · subst hv
        rw [wr_eq, e1 _ h3 h4, if_pos rfl]
        omega
      · rw [wr_idx hv, e1 v h3 h4, if_neg (fun z => hv z.symm)]
        omega
  · intro t ⟨e0, hF, e1⟩
    obtain ⟨t1, t2⟩ := t
    dsimp only at e0 hF e1 ⊢
    subst e0
    have er := hF.row
    have hw' : WF N (t2 1) := by rw [er]; exact hw
    refine ⟨t2, ?_, hF, e1⟩
    unfold f_X8_worthTo_l45
    dsimp only
    rw [M_usedOf hN hw' h1 (by rw [er]; exact h2)]
    simp only [Option.bind_some]
    rw [er, if_neg (by rw [ltb_f (by omega) (by omega) (by omega)]; decide)]
theorem gr_loop {t : Int → Int} {S : Mem} {units : Int} (ht : ∀ v : Int, 0 ≤ v → v ≤ 99 → S 10 v = t v ∧ 0 ≤ t v ∧ t v ≤ 1000) (hu1 : 0 ≤ units) (hu2 : units ≤ 30) : lp (f_X8_worthTo_l107 S) FU (0, units, 99) = some (gr t 100 units) := by
  obtain ⟨r, g1, g2⟩ := lp_rel (step := f_X8_worthTo_l107 S) (fun i (s : Int × Int × Int) => s.2.2 = 99 - (i : Int) ∧ 0 ≤ s.2.1 ∧ s.2.1 ≤ 30 ∧ s.1 + gr t (100 - i) s.2.1 = gr t 100 units) (fun (r : Int) => r = gr t 100 units) 100 (by
      intro i s hi ⟨e0, e1, e2, e3⟩
      obtain ⟨s1, s2, s3⟩ := s
      dsimp only at e0 e1 e2 e3 ⊢
      subst e0
      have hv := ht (99 - (i : Int)) (by omega) (by omega)
      refine ⟨(s1 + min s2 (t (99 - (i : Int))) * (99 - (i : Int)), s2 - min s2 (t (99 - (i : Int))), 99 - (i : Int) + (-1)), ?_, by dsimp only; omega, by dsimp only; omega, by dsimp only; omega, ?_⟩
      · unfold f_X8_worthTo_l107
        dsimp only
        rw [if_neg (by rw [ltb_f (by omega) (by omega) (by omega)]; decide), if_pos (by omega), hv.1, M_less (by omega) (by omega) (by omega) (by omega)]
        rfl
      · dsimp only
        rw [show 100 - i = (100 - (i + 1)) + 1 by omega, gr, show ((100 - (i + 1) : Nat) : Int) = 99 - (i : Int) by omega] at e3
        omega) (by
      intro s ⟨e0, e1, e2, e3⟩
      obtain ⟨s1, s2, s3⟩ := s
      dsimp only at e0 e1 e2 e3 ⊢
      subst e0
      refine ⟨s1, ?_, ?_⟩
      · unfold f_X8_worthTo_l107
        dsimp only
        rw [if_pos (ltb_t (by omega) (by omega) (by omega))]
      · have e4 : s1 + gr t 0 s2 = gr t 100 units := e3
        have e5 : gr t 0 s2 = 0 := rfl
        omega) (n := FU) (by rw [FU_eq]; omega) (s := (0, units, 99)) ⟨by dsimp only; omega, hu1, hu2, by dsimp only; rw [show 100 - 0 = 100 from rfl]; omega⟩
  rw [g1, g2]
theorem M_worthTo {N : Int} {T : Mem} {set units : Int} (hN : N ≤ 9) (hw : WF N (T 1)) (hu1 : 0 ≤ units) (hu2 : units ≤ 30) : ∃ T', f_X8_worthTo T set units = some (bworth (T 1) set units, T') ∧ FrT T T' := by
  have b2 := hw.2.2.1
  have b3 := hw.2.2.2.1
  have n0 := hw.2.2.2.2.1
  have n1 := hw.2.2.2.2.2.1
  obtain ⟨T1, a1, a2, a3⟩ := lp_rel (step := f_X8_worthTo_l2 set units) (fun i (t : Int × Mem) => t.1 = i ∧ FrT T t.2 ∧ ∀ v : Int, 0 ≤ v → v < (i : Int) → t.2 10 v = 0) (fun (t : Mem) => FrT T t ∧ ∀ v, 0 ≤ v → v ≤ 99 → t 10 v = 0) 100 (by
      intro i t hi ⟨e0, hF, e1⟩
      obtain ⟨t1, t2⟩ := t
      dsimp only at e0 hF e1 ⊢
      subst e0
      refine ⟨((i : Int) + 1, wr t2 10 (i : Int) 0), ?_, by dsimp only; omega, fun k hk => by dsimp only; rw [wr_ne hk]; exact hF k hk, fun v h1 h2 => ?_⟩
      · unfold f_X8_worthTo_l2
        dsimp only
        rw [if_neg (by rw [ltb_f (by omega) (by omega) (by omega)]; decide), if_pos (by omega)]
        rfl
      · dsimp only
        by_cases hv : v = i
        · rw [hv, wr_eq]
        · rw [wr_idx hv]; exact e1 v h1 (by omega)) (by
      intro t ⟨e0, hF, e1⟩
      obtain ⟨t1, t2⟩ := t
      dsimp only at e0 hF e1 ⊢
      subst e0
      refine ⟨t2, ?_, hF, fun v h1 h2 => e1 v h1 (by omega)⟩
      unfold f_X8_worthTo_l2
      dsimp only
      rw [if_pos (ltb_t (by omega) (by omega) (by omega))]) (n := FU) (by rw [FU_eq]; omega) (s := (0, T)) ⟨rfl, fun _ _ => rfl, fun v h1 h2 => by omega⟩
  obtain ⟨T2, c1, c2, c3⟩ := lp_rel (step := f_X8_worthTo_l23 set units) (fun i (t : Int × Mem) => t.1 = i ∧ FrT T t.2 ∧ ∀ v : Int, 0 ≤ v → v ≤ 99 → t.2 10 v = sumN (fun b => cF (bval (T 1) b) 0 (limS (T 1) set b).toNat v) i) (fun (t : Mem) => FrT T t ∧ ∀ v : Int, 0 ≤ v → v ≤ 99 → t 10 v = rem (T 1) (fun _ => 0) (limS (T 1) set) v) (T 1 2).toNat (by
      intro i t hi ⟨e0, hF, e1⟩
      obtain ⟨t1, t2⟩ := t
      dsimp only at e0 hF e1 ⊢
      subst e0
      have er := hF.row
      have hw' : WF N (t2 1) := by rw [er]; exact hw
      by_cases hb : eqb (andb (shrb set i) 1) 1 = true
      · have hb1 : andb (shrb set i) 1 = 1 := by
          rcases andb_1 (shrb set i) with h | h
          · rw [h] at hb; exact absurd hb (by decide)
          · exact h
        obtain ⟨t', g1, g2, g3⟩ := M_times (set := set) (y2 := units) (b := i) hN hw' (by omega) (by rw [er]; omega)
        rw [er] at g3
        refine ⟨((i : Int) + 1, t'), ?_, by dsimp only; omega, fun k hk => by dsimp only; rw [g2 k hk]; exact hF k hk, fun v h1 h2 => ?_⟩
        · unfold f_X8_worthTo_l23
          dsimp only
          rw [M_many]
          simp only [Option.bind_some]
          rw [if_pos (show ltb (i : Int) (t2 1 2) = true by rw [er]; exact ltb_t (by omega) (by omega) (by omega)), if_neg (show ¬ eqb (andb (shrb set (i : Int)) 1) 0 = true by rw [hb1]; decide), g1]
          rfl
        · dsimp only
          rw [g3 v h1 h2, e1 v h1 h2]
          have : limS (T 1) set i = bused (T 1) i := by unfold limS; rw [if_pos hb]
          rw [sumN, this]
      · have hb0 : andb (shrb set i) 1 = 0 := by
          rcases andb_1 (shrb set i) with h | h
          · exact h
          · rw [h] at hb; exact absurd (by decide) hb
        refine ⟨((i : Int) + 1, t2), ?_, by dsimp only; omega, hF, fun v h1 h2 => ?_⟩
        · unfold f_X8_worthTo_l23
          dsimp only
          rw [M_many]
          simp only [Option.bind_some]
          rw [if_pos (show ltb (i : Int) (t2 1 2) = true by rw [er]; exact ltb_t (by omega) (by omega) (by omega)), if_pos (show eqb (andb (shrb set (i : Int)) 1) 0 = true by rw [hb0]; decide)]
          rfl
        · dsimp only
          rw [e1 v h1 h2]
          have : limS (T 1) set i = 0 := by unfold limS; rw [if_neg hb]
          rw [sumN, this]
          show _ = _ + 0
          omega) (by
      intro t ⟨e0, hF, e1⟩
      obtain ⟨t1, t2⟩ := t
      dsimp only at e0 hF e1 ⊢
      subst e0
      have er := hF.row
      refine ⟨t2, ?_, hF, fun v h1 h2 => ?_⟩
      · unfold f_X8_worthTo_l23
        dsimp only
        rw [M_many]
        simp only [Option.bind_some]
        rw [if_neg (show ¬ ltb (((T 1 2).toNat : Nat) : Int) (t2 1 2) = true by rw [er, ltb_f (by omega) (by omega) (by omega)]; decide)]
      · rw [e1 v h1 h2]
        unfold rem
        apply sumN_congr
        intro i hi
        rw [Int.sub_zero]) (n := FU) (by rw [FU_eq]; omega) (s := (0, T1)) ⟨rfl, a2, fun v h1 h2 => by
        dsimp only
        rw [a3 v h1 h2]
        rfl⟩
  have r2 : T2 1 = T 1 := c2.row
  have hrem : ∀ v, 0 ≤ rem (T 1) (fun _ => 0) (limS (T 1) set) v ∧ rem (T 1) (fun _ => 0) (limS (T 1) set) v ≤ 72 := by
    intro v
    refine ⟨rem_nn _ _ _ _, ?_⟩
    have := sumN_bnd (g := fun b => cF (bval (T 1) b) 0 (limS (T 1) set b - 0).toNat v) (lo := 0) (hi := 8) (T 1 2).toNat (fun i hi => by
      have a := limS_bnd (set := set) (b := i) hw (by omega) (by omega)
      have b := (sumN_bnd (g := fun j => if bval (T 1) i (0 + j) = v then 1 else 0) (lo := 0) (hi := 1) (limS (T 1) set i - 0).toNat (fun j hj => by split <;> omega))
      try dsimp only
      unfold cF
      omega)
    unfold rem
    dsimp only
    omega
  let T3 := wr T2 10 (T 1 1) (T2 10 (T 1 1) + units)
  have ht3 : ∀ v : Int, 0 ≤ v → v ≤ 99 → T3 10 v = tW (T 1) set units v ∧ 0 ≤ tW (T 1) set units v ∧ tW (T 1) set units v ≤ 1000 := by
    intro v h1 h2
    have hr := hrem v
    have e : T3 10 v = tW (T 1) set units v := by
      show wr T2 10 (T 1 1) (T2 10 (T 1 1) + units) 10 v = _
      unfold tW
      by_cases hv : v = T 1 1
      · subst hv
        rw [wr_eq, if_pos rfl, c3 _ h1 h2]
      · rw [wr_idx hv, if_neg hv, c3 v h1 h2]
        omega
    refine ⟨e, ?_⟩
    unfold tW
    split <;> omega
  have hl := gr_loop (t := tW (T 1) set units) ht3 hu1 hu2
  refine ⟨T3, ?_, fun k hk => ?_⟩
  · unfold f_X8_worthTo
    rw [a1]
    simp only [Option.bind_some]
    rw [c1]
    simp only [Option.bind_some]
    rw [if_pos (by omega), r2, if_pos (by omega)]
    dsimp only [wrk]
    have e30 : wr T2 10 (T 1 1) (T2 10 (T 1 1) + units) = T3 := rfl
    rw [e30, hl]
    rfl
  · show wr T2 10 (T 1 1) (T2 10 (T 1 1) + units) k = T k
    rw [wr_ne hk]
    exact c2 k hk
