/-! ===== text ===== -/
theorem M_starts {T : Mem} {q : Nat} : ∃ T', f_X8_starts T q = some T' ∧ (∀ k, k ≠ q → T' k = T k) ∧ T' q 0 = 10 ∧ ∀ j, 1 ≤ j → j < 126 → T' q j = 0 := by
  obtain ⟨T1, g1, g2, g3⟩ := lp_rel (step := f_X8_starts_l2 q) (fun i (t : Int × Mem) => t.1 = i ∧ (∀ k, k ≠ q → t.2 k = T k) ∧ ∀ j, 0 ≤ j → j < (i : Int) → t.2 q j = 0) (fun (t : Mem) => (∀ k, k ≠ q → t k = T k) ∧ ∀ j, 0 ≤ j → j < 126 → t q j = 0) 126 (by
    intro i t hi ⟨e0, e1, e2⟩
    obtain ⟨t1, t2⟩ := t
    dsimp only at e0 e1 e2 ⊢
    subst e0
    refine ⟨((i : Int) + 1, wr t2 q i 0), ?_, rfl, fun k hk => by dsimp only; rw [wr_ne hk]; exact e1 k hk, fun j j0 j1 => ?_⟩
    · unfold f_X8_starts_l2
      dsimp only
      rw [if_pos (ltb_t (by omega) (by omega) (by omega)), if_pos (by omega)]
      rfl
    · dsimp only
      rw [wr_at]
      by_cases h : j = i
      · rw [if_pos h]
      · rw [if_neg h]; exact e2 j j0 (by omega)) (by
    intro t ⟨e0, e1, e2⟩
    obtain ⟨t1, t2⟩ := t
    dsimp only at e0 e1 e2 ⊢
    subst e0
    refine ⟨t2, ?_, e1, fun j j0 j1 => e2 j j0 (by omega)⟩
    unfold f_X8_starts_l2
    dsimp only
    rw [if_neg (nl (by omega) (by omega) (by omega))]) (n := FU) (by rw [FU_eq]; omega) (s := (0, T)) ⟨rfl, fun _ _ => rfl, fun j j0 j1 => by omega⟩
  refine ⟨wr T1 q 0 10, ?_, fun k hk => by rw [wr_ne hk]; exact g2 k hk, wr_eq _ _ _ _, fun j j0 j1 => by rw [wr_idx (by omega)]; exact g3 j (by omega) j1⟩
  unfold f_X8_starts
  rw [g1, Option.bind_some, if_pos (by decide)]
  rfl
theorem M_copies {T : Mem} : ∃ T', lp f_X8_text_l69 FU (0, T) = some T' ∧ (∀ k, k ≠ 1 → T' k = T k) ∧ ∀ j, 0 ≤ j → j < 126 → T' 1 j = T 2 j := by
  obtain ⟨T1, g1, g2, g3⟩ := lp_rel (step := f_X8_text_l69) (fun i (t : Int × Mem) => t.1 = i ∧ (∀ k, k ≠ 1 → t.2 k = T k) ∧ ∀ j, 0 ≤ j → j < (i : Int) → t.2 1 j = T 2 j) (fun (t : Mem) => (∀ k, k ≠ 1 → t k = T k) ∧ ∀ j, 0 ≤ j → j < 126 → t 1 j = T 2 j) 126 (by
    intro i t hi ⟨e0, e1, e2⟩
    obtain ⟨t1, t2⟩ := t
    dsimp only at e0 e1 e2 ⊢
    subst e0
    refine ⟨((i : Int) + 1, wr t2 1 i (t2 2 i)), ?_, rfl, fun k hk => by dsimp only; rw [wr_ne hk]; exact e1 k hk, fun j j0 j1 => ?_⟩
    · unfold f_X8_text_l69
      dsimp only
      rw [if_pos (ltb_t (by omega) (by omega) (by omega)), if_pos (by omega)]
      rfl
    · dsimp only
      rw [wr_at]
      by_cases h : j = i
      · rw [if_pos h, h, e1 2 (by decide)]
      · rw [if_neg h]; exact e2 j j0 (by omega)) (by
    intro t ⟨e0, e1, e2⟩
    obtain ⟨t1, t2⟩ := t
    dsimp only at e0 e1 e2 ⊢
    subst e0
    refine ⟨t2, ?_, e1, fun j j0 j1 => e2 j j0 (by omega)⟩
    unfold f_X8_text_l69
    dsimp only
    rw [if_neg (nl (by omega) (by omega) (by omega))]) (n := FU) (by rw [FU_eq]; omega) (s := (0, T)) ⟨rfl, fun _ _ => rfl, fun j j0 j1 => by omega⟩
  exact ⟨T1, g1, g2, g3⟩
theorem WF.fresh {B : Int → Int} (h0 : B 0 = 10) (h : ∀ j, 1 ≤ j → j < 126 → B j = 0) : WF 8 B := by
  have h1 := h 1 (by decide) (by decide)
  have h2 := h 2 (by decide) (by decide)
  exact ⟨by omega, by omega, by omega, by omega, by omega, by omega, fun b x y => by omega, fun b i x y => by omega, fun b i x y => by omega⟩
theorem Sm.row {B B' : Int → Int} (hw : WF 8 B) (h : ∀ j, 0 ≤ j → j < 126 → B' j = B j) : Sm B B' := by
  have n1 := hw.2.2.2.2.2.1
  refine ⟨h 0 (by decide) (by decide), h 1 (by decide) (by decide), h 2 (by decide) (by decide), fun b b0 b1 => ?_⟩
  have c := bcnt_bnd hw b0 b1
  exact ⟨h _ (by omega) (by omega), h _ (by omega) (by omega), fun i i0 i1 => h _ (by omega) (by omega)⟩
theorem read_both {S T : Mem} (hr : RT S T) (hw : RW T) : ∃ S' T' T1, f_X6_read S = some (S' 1 4, S') ∧ f_X8_starts T 2 = some T1 ∧ ((f_X8_goesOn (wr (wr (wr T1 0 19 0) 0 20 3) 0 23 0)).bind fun S9 => lp (f_X8_text_l26) FU S9) = some T' ∧ FtC S S' ∧ FtM T T' ∧ (GD S' T' ∨ BD S' T') := by
  obtain ⟨T1, m1, m2, m3, m4⟩ := M_starts (T := T) (q := 2)
  have fc : FtC S (wr (wr (wr (wr (wr (wr S 19 0 10) 19 1 0) 19 2 0) 1 4 (-1)) 1 1 0) 1 3 0) := (FtC.wr (Or.inr (by decide))).tr ((FtC.wr (Or.inr (by decide))).tr ((FtC.wr (Or.inr (by decide))).tr ((FtC.wr (Or.inl rfl)).tr ((FtC.wr (Or.inl rfl)).tr (FtC.wr (Or.inl rfl))))))
  have fm : FtM T (wr (wr (wr T1 0 19 0) 0 20 3) 0 23 0) := (show FtM T T1 from ⟨fun k _ b => m2 k b, fun j _ => by rw [m2 0 (by decide)]⟩).tr ((FtM.wr0 (by decide)).tr ((FtM.wr0 (by decide)).tr (FtM.wr0 (by decide))))
  have er : f_X6_read S = (f_X6_advance (wr (wr (wr (wr (wr (wr S 19 0 10) 19 1 0) 19 2 0) 1 4 (-1)) 1 1 0) 1 3 0)).bind fun S9 => (lp (f_X6_read_l25) FU (0, S9)).bind fun r51 => some (r51 1 4, r51) := rfl
  have x4 : wr (wr (wr (wr (wr (wr S 19 0 10) 19 1 0) 19 2 0) 1 4 (-1)) 1 1 0) 1 3 0 1 4 = -1 := by rw [wr_idx (by decide), wr_idx (by decide), wr_eq]
  have x1 : wr (wr (wr (wr (wr (wr S 19 0 10) 19 1 0) 19 2 0) 1 4 (-1)) 1 1 0) 1 3 0 1 1 = 0 := by rw [wr_idx (by decide), wr_eq]
  have x3 : wr (wr (wr (wr (wr (wr S 19 0 10) 19 1 0) 19 2 0) 1 4 (-1)) 1 1 0) 1 3 0 1 3 = 0 := wr_eq _ _ _ _
  have xb : ∀ j, wr (wr (wr (wr (wr (wr S 19 0 10) 19 1 0) 19 2 0) 1 4 (-1)) 1 1 0) 1 3 0 19 j = wr (wr (wr S 19 0 10) 19 1 0) 19 2 0 19 j := fun j => by rw [wr_cell (by decide), wr_cell (by decide), wr_cell (by decide)]
  have x190 : wr (wr (wr S 19 0 10) 19 1 0) 19 2 0 19 0 = 10 := by rw [wr_idx (by decide), wr_idx (by decide), wr_eq]
  have x191 : wr (wr (wr S 19 0 10) 19 1 0) 19 2 0 19 1 = 0 := by rw [wr_idx (by decide), wr_eq]
  have x192 : wr (wr (wr S 19 0 10) 19 1 0) 19 2 0 19 2 = 0 := wr_eq _ _ _ _
  rw [← xb] at x190 x191 x192
  rw [er]
  suffices hs : ∃ S' T', ((f_X6_advance (wr (wr (wr (wr (wr (wr S 19 0 10) 19 1 0) 19 2 0) 1 4 (-1)) 1 1 0) 1 3 0)).bind fun S9 => (lp (f_X6_read_l25) FU (0, S9)).bind fun r51 => some (r51 1 4, r51)) = some (S' 1 4, S') ∧ ((f_X8_goesOn (wr (wr (wr T1 0 19 0) 0 20 3) 0 23 0)).bind fun S9 => lp (f_X8_text_l26) FU S9) = some T' ∧ FtC S S' ∧ FtM T T' ∧ (GD S' T' ∨ BD S' T') by
    obtain ⟨S', T', a, b, c⟩ := hs
    exact ⟨S', T', T1, a, m1, b, c⟩
  generalize wr (wr (wr (wr (wr (wr S 19 0 10) 19 1 0) 19 2 0) 1 4 (-1)) 1 1 0) 1 3 0 = S7 at fc x4 x1 x3 x190 x191 x192 ⊢
  have y19 : wr (wr (wr T1 0 19 0) 0 20 3) 0 23 0 0 19 = 0 := by rw [wr_idx (by decide), wr_idx (by decide), wr_eq]
  have y20 : wr (wr (wr T1 0 19 0) 0 20 3) 0 23 0 0 20 = 3 := by rw [wr_idx (by decide), wr_eq]
  have y23 : wr (wr (wr T1 0 19 0) 0 20 3) 0 23 0 0 23 = 0 := wr_eq _ _ _ _
  have y2 : wr (wr (wr T1 0 19 0) 0 20 3) 0 23 0 2 = T1 2 := by rw [wr_ne (by decide), wr_ne (by decide), wr_ne (by decide)]
  generalize wr (wr (wr T1 0 19 0) 0 20 3) 0 23 0 = T7 at fm y19 y20 y23 y2 ⊢
  have r7 : RT S7 T7 := hr.ft fc fm
  have w7 : RW T7 := hw.ft fm
  have l7 := r7.2.1
  obtain ⟨S9, T9, a1, a2, a3, a4, a5, a6, a7⟩ := adv r7 (by omega) (by omega) (by omega) (by omega) (by omega) (by rw [x1, y20]; decide)
  have t92 : T9 2 = T1 2 := by rw [a6.1 2 (by decide), y2]
  have z2 := m4 2 (by decide) (by decide)
  have z1 := m4 1 (by decide) (by decide)
  have g9 : GD S9 T9 := by
    refine ⟨a3, by rw [a5]; exact x4, by rw [a6.2 23 (by decide) (by decide) (by decide) (by decide)]; exact y23, by rw [t92]; exact WF.fresh m3 m4, ?_, by rw [t92]; exact m4 93 (by decide) (by decide)⟩
    rw [t92]
    refine ⟨by rw [a4 19 (by decide)]; omega, by rw [a4 19 (by decide)]; omega, by rw [a4 19 (by decide)]; omega, fun b b0 b1 => by omega, fun b b0 b1 => by omega, fun b i b0 b1 => by omega⟩
  have f9 : FtC S S9 := fc.tr (FtC.one a4)
  have n9 : FtM T T9 := fm.tr (FtM.zero a6)
  have l9 := a3.lim (r7.ft (FtC.one a4) (FtM.zero a6))
  rw [a1, a2, Option.bind_some, Option.bind_some]
  obtain ⟨r, r', b1, b2, b3, b4, b5⟩ := lp_sim (step := f_X6_read_l25) (step' := f_X8_text_l26) (fun s t => FtC S s.2 ∧ FtM T t ∧ ((GD s.2 t ∧ 0 ≤ s.1 ∧ s.1 ≤ t 0 21) ∨ BD s.2 t)) (fun s => if s.2 1 4 = -1 then (500 - s.2 1 2).toNat + 1 else 0) (fun r r' => FtC S r ∧ FtM T r' ∧ (GD r r' ∨ BD r r')) (by
    intro s t ⟨c1, c2, c3⟩
    obtain ⟨p, s⟩ := s
    dsimp only at c1 c2 c3 ⊢
    have rs : RT s t := hr.ft c1 c2
    have ws : RW t := hw.ft c2
    rcases c3 with ⟨d1, d2, d3⟩ | d
    · have l := d1.1.lim rs
      have ls := rs.2.2.1
      by_cases q : t 0 20 = 0
      · right
        refine ⟨s, t, ?_, ?_, c1, c2, Or.inl d1⟩
        · unfold f_X6_read_l25
          dsimp only
          by_cases q5 : p < 500
          · rw [if_pos (ltb_t q5 (by omega) (by omega)), if_pos (eqb_t d1.2.1), if_pos (eqb_t (show s 1 1 = 0 by omega))]
          · rw [if_neg (nl (by omega) (by omega) (by omega))]
        · unfold f_X8_text_l26
          rw [if_pos (eqb_t d1.2.2.1), if_pos (eqb_t q)]
      · left
        have lt := d1.1.2.2.2.2.2.1 q
        have le := d1.1.2.2.2.2.1
        obtain ⟨S', T', u1, u2, u3, u4, u5⟩ := one_both rs ws d1 q (p := p) (by omega)
        refine ⟨(p + 1, S'), T', u1, ?_, ⟨c1.tr u3, c2.tr u4, ?_⟩, ?_⟩
        · unfold f_X8_text_l26
          rw [if_pos (eqb_t d1.2.2.1), if_neg (nq q (by omega) (by omega) (by omega) (by omega)), u2]
          rfl
        · rcases u5 with ⟨v1, v2⟩ | v
          · exact Or.inl ⟨v1, by dsimp only; omega, by dsimp only; omega⟩
          · exact Or.inr v
        · dsimp only
          rw [if_pos d1.2.1]
          rcases u5 with ⟨v1, v2⟩ | v
          · have l' := v1.1.lim (rs.ft u3 u4)
            rw [if_pos v1.2.1]
            omega
          · rw [if_neg (by have := v.2.1; have := v.2.2.1; omega)]
            omega
    · right
      obtain ⟨d1, d2, d3, d4⟩ := d
      refine ⟨s, t, ?_, ?_, c1, c2, Or.inr ⟨d1, d2, d3, d4⟩⟩
      · unfold f_X6_read_l25
        dsimp only
        by_cases q5 : ltb p 500 = true
        · rw [if_pos q5, if_neg (nq (show s 1 4 ≠ -1 by omega) (by omega) (by omega) (by omega) (by omega))]
        · rw [if_neg q5]
      · unfold f_X8_text_l26
        rw [if_neg (show ¬ eqb (t 0 23) 0 = true by rw [d1]; decide)]) FU (0, S9) T9 ⟨f9, n9, Or.inl ⟨g9, Int.le_refl 0, by dsimp only; omega⟩⟩ (by
    dsimp only
    rw [if_pos g9.2.1, FU_eq]
    omega)
  exact ⟨r, r', by rw [b1]; rfl, b2, b3, b4, b5⟩
theorem Q_text {S T : Mem} (h : Rel S T) : ∃ r S' T', f_X7_text S = some (r, S') ∧ f_X8_text T = some (r, T') ∧ Rel S' T' := by
  have hh := h
  obtain ⟨a1, a2, a3, a4, a5, a6, a7⟩ := h
  obtain ⟨S1, T2, T1, g1, g2, g3, g4, g5, g6⟩ := read_both a6 a7
  have em : f_X8_text T = wrk T2 0 17 0 fun S27 => if eqb (S27 0 23) 0 = true then ((lp (f_X8_text_l69) FU (0, S27)).bind fun r34 => wrk r34 0 5 0 fun S46 => (f_X8_many S46).bind fun r48 => some (r48, S46)) else (some ((-4) - (S27 0 21), S27)) := by
    unfold f_X8_text
    rw [g2, Option.bind_some]
    dsimp only [wrk]
    revert g3
    generalize f_X8_goesOn (wr (wr (wr T1 0 19 0) 0 20 3) 0 23 0) = x
    intro g3
    cases x with
    | none => cases g3
    | some x =>
      rw [Option.bind_some] at g3 ⊢
      rw [g3, Option.bind_some]
  have ec : f_X7_text S = wrk S1 2 0 0 fun S3 => if ltb (S1 1 4) 0 = true then ((f_X1_takeFrom S3 5 19).bind fun S6 => wrk S6 32 0 0 fun S8 => wrk S8 34 0 0 fun S10 => wrk S10 0 9 1 fun S12 => some (S12 5 2, S12)) else (some ((-4) - (S1 1 4), S3)) := by
    unfold f_X7_text
    rw [g1, Option.bind_some]
  rw [em, ec]
  dsimp only [wrk]
  have fS : ∀ k, k ≠ 1 → k ≠ 2 → k ≠ 19 → k ≠ 20 → k ≠ 21 → k ≠ 22 → wr S1 2 0 0 k = S k := fun k b1 b2 b3 b4 b5 b6 => by rw [wr_ne b2]; exact g4 k b1 b3 b4 b5 b6
  rcases g6 with q | ⟨q1, q2, q3, q4⟩
  · obtain ⟨q1, q2, q3, q4, q5, q6⟩ := q
    rw [if_pos (show ltb (S1 1 4) 0 = true by rw [q2]; decide), if_pos (show eqb (wr T2 0 17 0 0 23) 0 = true by rw [wr_idx (by decide), q3]; decide)]
    have rb : RB (wr S1 2 0 0) 19 (T2 2) := q5.fr (wr_ne (by decide)) (wr_ne (by decide)) (wr_ne (by decide)) (wr_ne (by decide))
    obtain ⟨S6, b1, b2, b3⟩ := C_takeFrom (S := wr S1 2 0 0) (th := 5) (q := 19) (by omega) (by decide) q4 rb
    obtain ⟨T6, c1, c2, c3⟩ := M_copies (T := wr T2 0 17 0)
    have e2 : ∀ j, 0 ≤ j → j < 126 → T6 1 j = T2 2 j := fun j j0 j1 => by rw [c3 j j0 j1, wr_cell (by decide)]
    have sm := Sm.row q4 e2
    rw [b1, c1, Option.bind_some, Option.bind_some, M_many, Option.bind_some]
    have m1 : wr T6 0 5 0 1 = T6 1 := wr_ne (by decide)
    have cl : ∀ k, k ≠ 0 → k ≠ 32 → k ≠ 34 → wr (wr (wr S6 32 0 0) 34 0 0) 0 9 1 k = S6 k := fun k k0 k1 k2 => by rw [wr_ne k0, wr_ne k2, wr_ne k1]
    have m0 : ∀ j, j < 17 → j ≠ 5 → wr T6 0 5 0 0 j = T 0 j := fun j j0 j1 => by rw [wr_idx j1, c2 0 (by decide), wr_idx (by omega)]; exact g5.2 j (by omega)
    refine ⟨T6 1 2, _, _, by rw [cl 5 (by decide) (by decide) (by decide), b2.2.2.1, sm.2.2.1], by rw [m1], ?_⟩
    obtain ⟨h1, h2, h3, h4, h5, h6⟩ := a5
    refine ⟨by rw [m1]; exact q4.sm sm, ?_, Or.inr (wr_eq _ _ _ _), ?_, ?_, ?_, ?_⟩
    · rw [m1]
      exact (b2.sm sm).fr (cl _ (by decide) (by decide) (by decide)) (cl _ (by decide) (by decide) (by decide)) (cl _ (by decide) (by decide) (by decide)) (cl _ (by decide) (by decide) (by decide))
    · rw [m1]
      have z : wr (wr (wr S6 32 0 0) 34 0 0) 0 9 1 32 0 = 0 := by rw [wr_cell (by decide), wr_cell (by decide), wr_eq]
      rw [z]
      exact ⟨by rw [e2 93 (by decide) (by decide)]; exact q6.symm, by decide, by decide, fun k j k0 k1 => by omega⟩
    · have z0 : wr (wr (wr S6 32 0 0) 34 0 0) 0 9 1 34 0 = 0 := by rw [wr_cell (by decide), wr_eq]
      have z1 : wr (wr (wr S6 32 0 0) 34 0 0) 0 9 1 34 1 = S 34 1 := by
        rw [wr_cell (by decide), wr_idx (by decide), wr_cell (by decide), b3 34 (by decide) (by decide) (by decide) (by decide), fS 34 (by decide) (by decide) (by decide) (by decide) (by decide) (by decide)]
      have z5 : wr T6 0 5 0 0 5 = 0 := wr_eq _ _ _ _
      unfold RH
      rw [z0, z1, z5]
      exact ⟨rfl, by decide, by decide, h4, h5, fun i i0 i1 => by omega⟩
    · have z0 : wr (wr (wr S6 32 0 0) 34 0 0) 0 9 1 2 0 = 0 := by rw [cl 2 (by decide) (by decide) (by decide), b3 2 (by decide) (by decide) (by decide) (by decide), wr_eq]
      have z1 : wr T6 0 5 0 0 17 = 0 := by rw [wr_idx (by decide), c2 0 (by decide), wr_eq]
      unfold RT
      rw [z0, z1]
      exact ⟨rfl, by decide, by decide, fun i i0 i1 => by omega⟩
    · unfold RW
      rw [wr_ne (by decide), c2 13 (by decide), wr_ne (by decide), g5.1 13 (by decide) (by decide)]
      exact a7
  · rw [if_neg (nl (show 0 ≤ S1 1 4 by omega) (by omega) (by omega)), if_neg (show ¬ eqb (wr T2 0 17 0 0 23) 0 = true by rw [wr_idx (by decide), q1]; decide), wr_idx (show (21 : Int) ≠ 17 by decide), q2]
    refine ⟨_, _, _, rfl, rfl, ?_⟩
    have r1 : Rel S1 T2 := hh.ag (fun k hk => g4 k (by omega) (by omega) (by omega) (by omega) (by omega)) ⟨g5.1 1 (by decide) (by decide), g5.1 4 (by decide) (by decide), g5.1 12 (by decide) (by decide), g5.1 13 (by decide) (by decide), g5.2 5 (by decide), g5.2 17 (by decide)⟩
    refine r1.tape (fun k k2 _ => wr_ne k2) (fun k k0 _ => wr_ne k0) (fun j hj => wr_idx hj 0) ?_
    unfold RT
    rw [wr_eq, wr_eq]
    exact ⟨rfl, by decide, by decide, fun i i0 i1 => by omega⟩
