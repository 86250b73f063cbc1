/-! ===== what were, if: another supply, another reserve ===== -/
theorem AgC.fb {S S' : Mem} (h : FrB S S' 19) : AgC S S' := fun k a => h k (by omega) (by omega) (by omega) (by omega)
theorem AgC.ps {S S' : Mem} (h : FrP S S' 19) : AgC S S' := AgC.fp (Or.inr rfl) h
theorem tl_out {B : Int → Int} {w : Int} (h : ¬ (0 ≤ w ∧ w ≤ 9)) : tl B w = -1 := by
  unfold tl
  rw [if_neg (by omega), if_neg (by omega), if_neg (by omega), if_neg (by omega), if_neg (by omega), if_neg (by omega), if_neg (by omega), if_neg (by omega), if_neg (by omega), if_neg (by omega)]
theorem wrR_eq (B : Int → Int) (i x : Int) : wrR B i x i = x := if_pos rfl
theorem wrR_ne {B : Int → Int} {i x j : Int} (h : j ≠ i) : wrR B i x j = B j := if_neg h
theorem wrR_back (B : Int → Int) (i x : Int) : wrR (wrR B i x) i (B i) = B := by
  funext j
  by_cases h : j = i
  · rw [h, wrR_eq]
  · rw [wrR_ne h, wrR_ne h]
theorem wrR_low {B : Int → Int} {i x : Int} (h : i < 3) : (∀ b, 0 ≤ b → bcap (wrR B i x) b = bcap B b) ∧ (∀ b, 0 ≤ b → bcnt (wrR B i x) b = bcnt B b) ∧ ∀ b j, 0 ≤ b → 0 ≤ j → bval (wrR B i x) b j = bval B b j := by
  refine ⟨fun b b0 => wrR_ne (by omega), fun b b0 => wrR_ne (by omega), fun b j b0 j0 => wrR_ne (by omega)⟩
theorem wrR_WF {N : Int} {B : Int → Int} {i x : Int} (hw : WF N B) (h : (i = 0 ∧ 1 ≤ x ∧ x ≤ 30) ∨ (i = 1 ∧ 0 ≤ x ∧ x ≤ 99)) : WF N (wrR B i x) := by
  obtain ⟨a0, a1, a2, a3, a4, a5, a6, a7, a8⟩ := hw
  obtain ⟨l1, l2, l3⟩ := wrR_low (B := B) (i := i) (x := x) (by omega)
  have z2 : wrR B i x 2 = B 2 := wrR_ne (by omega)
  have z0 : 1 ≤ wrR B i x 0 ∧ wrR B i x 0 ≤ 30 := by
    rcases h with ⟨e, h⟩ | ⟨e, h⟩ <;> subst e
    · rw [wrR_eq]; exact h
    · rw [wrR_ne (by decide)]; omega
  have z1 : 0 ≤ wrR B i x 1 ∧ wrR B i x 1 ≤ 99 := by
    rcases h with ⟨e, h⟩ | ⟨e, h⟩ <;> subst e
    · rw [wrR_ne (by decide)]; omega
    · rw [wrR_eq]; exact h
  refine ⟨z0.1, z0.2, z1.1, z1.2, by omega, by omega, fun b x y => ?_, fun b i x y z u => ?_, fun b i x y z u => ?_⟩
  · rw [l1 b x, l2 b x]
    exact a6 b x (by omega)
  · rw [l2 b x] at u
    rw [l3 b i x z]
    exact a7 b i x (by omega) z u
  · rw [l2 b x] at u
    rw [l3 b i x z, l3 b (i + 1) x (by omega)]
    exact a8 b i x (by omega) z u
theorem wrR_RB {B : Int → Int} {S : Mem} {q : Nat} {i x : Int} (hR : RB S q B) (h : i = 0 ∨ i = 1) : RB (wr S q i x) q (wrR B i x) := by
  obtain ⟨l1, l2, l3⟩ := wrR_low (B := B) (i := i) (x := x) (by omega)
  have z2 : wrR B i x 2 = B 2 := wrR_ne (by omega)
  refine ⟨?_, ?_, by rw [wr_idx (by omega), z2]; exact hR.2.2.1, fun b b0 b1 => ?_, fun b b0 b1 => ?_, fun b j b0 b1 j0 j1 => ?_⟩
  · rw [wr_at]
    unfold wrR
    rw [hR.1]
  · rw [wr_at]
    unfold wrR
    rw [hR.2.1]
  · rw [wr_cell (by omega), l1 b b0]; exact hR.2.2.2.1 b b0 (by omega)
  · rw [wr_cell (by omega), l2 b b0]; exact hR.2.2.2.2.1 b b0 (by omega)
  · rw [l2 b b0] at j1
    rw [wr_cell (by omega), l3 b j b0 j0]
    exact hR.2.2.2.2.2 b j b0 (by omega) j0 j1
theorem FrB.wr {S : Mem} {q : Nat} {i x : Int} {k : Nat} (hk : k = q ∨ k = q + 1 ∨ k = q + 2 ∨ k = q + 3) : FrB S (wr S k i x) q := fun j a b c d => wr_ne (by omega)
/-- the trial with one number of the row changed -/
theorem C_trial1 {S T : Mem} {i x : Int} (h : Rel S T) (hi : (i = 0 ∧ 1 ≤ x ∧ x ≤ 30) ∨ (i = 1 ∧ 0 ≤ x ∧ x ≤ 99)) : ∃ S1 S2, f_X1_takeFrom S 19 5 = some S1 ∧ f_X0_run (wr S1 19 i x) 18 = some S2 ∧ DC S2 18 (wrR (T 1) i x) ∧ AgC S S2 := by
  obtain ⟨S1, a1, a2, a3⟩ := C_takeFrom (th := 19) (q := 5) (by omega) (by decide) h.1 h.2.1
  obtain ⟨S2, b1, b2, b3⟩ := DC.of (S := wr S1 19 i x) (α := 18) (by decide) (wrR_WF h.1 hi) (wrR_RB a2 (by omega))
  exact ⟨S1, S2, a1, b1, b2, ((AgC.fb a3).tr (AgC.fb (FrB.wr (Or.inl rfl)))).tr (AgC.fc b3)⟩
theorem M_toldBy {T : Mem} {i x w : Int} (hw : WF 8 (T 1)) (hi : (i = 0 ∧ 1 ≤ x ∧ x ≤ 30) ∨ (i = 1 ∧ 0 ≤ x ∧ x ≤ 99)) (h9 : 0 ≤ w ∧ w ≤ 9) : ∃ T', f_X8_toldBy T i x w = some (tl (wrR (T 1) i x) w, T') ∧ AgM T T' := by
  have e1 := wr_row T 1 i x
  obtain ⟨T2, T1, t1, t2, t3⟩ := M_told (T := wr T 1 i x) (w := w) (by decide) (show WF 8 (wr T 1 i x 1) by rw [e1]; exact wrR_WF hw hi) h9
  rw [e1] at t1
  refine ⟨wr T2 1 i (T 1 i), ?_, ?_⟩
  · unfold f_X8_toldBy
    rw [if_pos (by omega)]
    dsimp only [wrk]
    rw [t1]
    rfl
  · have ag := (AgM.fr t2).tr (AgM.ft t3)
    obtain ⟨g1, g4, g12, g13, g5, g17⟩ := ag
    refine ⟨?_, by rw [wr_ne (by decide), g4, wr_ne (by decide)], by rw [wr_ne (by decide), g12, wr_ne (by decide)], by rw [wr_ne (by decide), g13, wr_ne (by decide)], by rw [wr_cell (by decide), g5, wr_cell (by decide)], by rw [wr_cell (by decide), g17, wr_cell (by decide)]⟩
    rw [wr_row, g1, e1, wrR_back]
theorem Q_bySupply {S T : Mem} {a w : Int} (h : Rel S T) (ha : R32 a) (hw : R32 w) : ∃ r S' T', f_X7_bySupply S a w = some (r, S') ∧ f_X8_bySupply T a w = some (r, T') ∧ Rel S' T' := by
  unfold f_X7_bySupply f_X8_bySupply
  rw [C_isSupply ha, M_inL ha (by decide) (by decide), M_isResult hw]
  simp only [Option.bind_some]
  by_cases h3 : 1 ≤ a ∧ a ≤ 30
  · rw [if_pos h3, if_neg e10, if_neg e10]
    obtain ⟨S1, S2, s1, s2, s3, s4⟩ := C_trial1 h (Or.inl ⟨rfl, h3⟩)
    obtain ⟨S3, u1, u2⟩ := C_tell (by decide) (wrR_WF h.1 (Or.inl ⟨rfl, h3⟩)) s3 hw
    rw [s1, Option.bind_some]
    dsimp only [wrk]
    rw [s2, Option.bind_some, u1, Option.bind_some]
    have hR : Rel S3 T := h.ag (s4.tr (AgC.ps u2)) AgM.rf
    by_cases h9 : 0 ≤ w ∧ w ≤ 9
    · obtain ⟨T', t1, t2⟩ := M_toldBy h.1 (Or.inl ⟨rfl, h3⟩) h9
      rw [if_pos h9, if_neg e10, t1]
      exact ⟨_, _, _, rfl, rfl, hR.ag AgC.rf t2⟩
    · rw [if_neg h9, if_pos e00, tl_out h9]
      exact ⟨_, _, _, rfl, rfl, hR⟩
  · rw [if_neg h3]
    exact ⟨_, _, _, rfl, rfl, h⟩
theorem C_supposeReserve {S T : Mem} {x : Int} (h : Rel S T) (hx : 0 ≤ x ∧ x ≤ 99) : ∃ S2, f_X7_supposeReserve S x = some S2 ∧ DC S2 18 (wrR (T 1) 1 x) ∧ AgC S S2 := by
  obtain ⟨S1, S2, s1, s2, s3, s4⟩ := C_trial1 h (Or.inr ⟨rfl, hx⟩)
  refine ⟨S2, ?_, s3, s4⟩
  unfold f_X7_supposeReserve
  rw [s1, Option.bind_some]
  dsimp only [wrk]
  rw [s2]
  rfl
theorem Q_byReserve {S T : Mem} {a w : Int} (h : Rel S T) (ha : R32 a) (hw : R32 w) : ∃ r S' T', f_X7_byReserve S a w = some (r, S') ∧ f_X8_byReserve T a w = some (r, T') ∧ Rel S' T' := by
  unfold f_X7_byReserve f_X8_byReserve
  rw [C_isPrice ha, M_isPrice ha, M_isResult hw]
  simp only [Option.bind_some]
  by_cases h3 : 0 ≤ a ∧ a ≤ 99
  · rw [if_pos h3, if_neg e10, if_neg e10]
    obtain ⟨S2, s2, s3, s4⟩ := C_supposeReserve h h3
    obtain ⟨S3, u1, u2⟩ := C_tell (by decide) (wrR_WF h.1 (Or.inr ⟨rfl, h3⟩)) s3 hw
    rw [s2, Option.bind_some, u1, Option.bind_some]
    have hR : Rel S3 T := h.ag (s4.tr (AgC.ps u2)) AgM.rf
    by_cases h9 : 0 ≤ w ∧ w ≤ 9
    · obtain ⟨T', t1, t2⟩ := M_toldBy h.1 (Or.inr ⟨rfl, h3⟩) h9
      rw [if_pos h9, if_neg e10, t1]
      exact ⟨_, _, _, rfl, rfl, hR.ag AgC.rf t2⟩
    · rw [if_neg h9, if_pos e00, tl_out h9]
      exact ⟨_, _, _, rfl, rfl, hR⟩
  · rw [if_neg h3]
    exact ⟨_, _, _, rfl, rfl, h⟩
theorem bun_bnd {N : Int} {B : Int → Int} (hw : WF N B) : 0 ≤ bun B ∧ bun B ≤ 30 := by
  have l := oc_len hw
  have r0 := hw.1
  have r1 := hw.2.1
  unfold bun
  omega
theorem Q_reserveFor {S T : Mem} {n : Int} (h : Rel S T) (hn : R32 n) : ∃ r S' T', f_X7_reserveFor S n = some (r, S') ∧ f_X8_reserveFor T n = some (r, T') ∧ Rel S' T' := by
  unfold f_X7_reserveFor f_X8_reserveFor
  by_cases h1 : n < 1
  · rw [if_pos (ltb_t h1 hn.1 (by omega)), if_pos (ltb_t h1 hn.1 (by omega))]
    exact ⟨_, _, _, rfl, rfl, h⟩
  · have q := nl (x := n) (y := 1) (by omega) (by omega) hn.2
    rw [if_neg q, if_neg q]
    obtain ⟨r, r', g1, g2, g3⟩ := lp_sim (step := f_X7_reserveFor_l9 n) (step' := f_X8_reserveFor_l9 n) (fun s t => s.1 = t.1 ∧ 0 ≤ s.1 ∧ s.1 ≤ 100 ∧ Rel s.2 t.2) (fun s => (100 - s.1).toNat) (fun r r' => match r with
      | .inl x => ∃ y, r' = .inl y ∧ Rel x y
      | .inr x => ∃ y, r' = .inr y ∧ x.1 = y.1 ∧ Rel x.2 y.2) (by
      intro s t ⟨e, x0, x1, hR⟩
      obtain ⟨i, s⟩ := s
      obtain ⟨i', t⟩ := t
      dsimp only at e x0 x1 hR ⊢
      subst e
      unfold f_X7_reserveFor_l9 f_X8_reserveFor_l9
      dsimp only
      by_cases h9 : 99 < i
      · rw [if_pos (ltb_t h9 (by omega) (by omega)), if_pos (ltb_t h9 (by omega) (by omega))]
        exact Or.inr ⟨_, _, rfl, rfl, _, rfl, hR⟩
      · have q9 := nl (x := 99) (y := i) (by omega) (by omega) (by omega)
        obtain ⟨S2, s2, s3, s4⟩ := C_supposeReserve hR (x := i) (by omega)
        obtain ⟨T', t1, t2⟩ := M_toldBy (w := 2) hR.1 (Or.inr ⟨rfl, (show 0 ≤ i ∧ i ≤ 99 by omega)⟩) (by decide)
        have bb := bun_bnd (wrR_WF hR.1 (Or.inr ⟨rfl, (show 0 ≤ i ∧ i ≤ 99 by omega)⟩))
        have cu : f_X0_unsold S2 18 = some (bun (wrR (t 1) 1 i)) := by
          unfold f_X0_unsold
          rw [show S2 (18 + 1) 0 = wrR (t 1) 1 i 0 from s3.1.1, show S2 18 2 = ((oc (wrR (t 1) 1 i)).length : Nat) from s3.2.1.1]
          rfl
        have et : tl (wrR (t 1) 1 i) 2 = bun (wrR (t 1) 1 i) := rfl
        rw [if_neg q9, if_neg q9, s2, Option.bind_some, cu, Option.bind_some, t1, Option.bind_some, et]
        have hR2 : Rel S2 T' := hR.ag s4 t2
        by_cases hl : bun (wrR (t 1) 1 i) < n
        · rw [if_pos (ltb_t hl (by omega) hn.2), if_pos (ltb_t hl (by omega) hn.2)]
          exact Or.inl ⟨_, _, rfl, rfl, ⟨rfl, by dsimp only; omega, by dsimp only; omega, hR2⟩, by dsimp only; omega⟩
        · have ql := nl (x := bun (wrR (t 1) 1 i)) (y := n) (by omega) (by omega) (by omega)
          rw [if_neg ql, if_neg ql]
          exact Or.inr ⟨_, _, rfl, rfl, _, rfl, rfl, hR2⟩) FU (0, S) (0, T) ⟨rfl, by dsimp only; omega, by dsimp only; omega, h⟩ (by dsimp only; rw [FU_eq]; omega)
    rw [g1, g2]
    cases r with
    | inl x =>
      obtain ⟨y, e, f1⟩ := g3
      subst e
      exact ⟨_, _, _, rfl, rfl, f1⟩
    | inr x =>
      obtain ⟨y, e, e2, f1⟩ := g3
      subst e
      refine ⟨x.1, x.2, y.2, rfl, ?_, f1⟩
      rw [e2]
      rfl
theorem Q_supplyFor {S T : Mem} {p : Int} (h : Rel S T) (hp : R32 p) : ∃ r S' T', f_X7_supplyFor S p = some (r, S') ∧ f_X8_supplyFor T p = some (r, T') ∧ Rel S' T' := by
  unfold f_X7_supplyFor f_X8_supplyFor
  rw [C_isPrice hp, M_isPrice hp]
  simp only [Option.bind_some]
  by_cases h3 : 0 ≤ p ∧ p ≤ 99
  · rw [if_pos h3, if_neg e10, if_neg e10]
    obtain ⟨S1, a1, a2, a3⟩ := C_takeFrom (th := 19) (q := 5) (by omega) (by decide) h.1 h.2.1
    rw [a1, Option.bind_some]
    obtain ⟨r, r', g1, g2, g3⟩ := lp_sim (step := f_X7_supplyFor_l22 p) (step' := f_X8_supplyFor_l11 p) (fun s t => s.1 = t.1 ∧ 1 ≤ s.1 ∧ s.1 ≤ 31 ∧ Rel s.2 t.2 ∧ t.2 1 = T 1 ∧ ∃ y, 1 ≤ y ∧ y ≤ 30 ∧ RB s.2 19 (wrR (T 1) 0 y)) (fun s => (31 - s.1).toNat) (fun r r' => match r with
      | .inl x => ∃ y, r' = .inl y ∧ Rel x y
      | .inr x => ∃ y, r' = .inr y ∧ x.1 = y.1 ∧ Rel x.2 y.2) (by
      intro s t ⟨e, x0, x1, hR, ht, y, y0, y1, hB⟩
      obtain ⟨i, s⟩ := s
      obtain ⟨i', t⟩ := t
      dsimp only at e x0 x1 hR ht hB ⊢
      subst e
      unfold f_X7_supplyFor_l22 f_X8_supplyFor_l11
      dsimp only
      by_cases h9 : 30 < i
      · rw [if_pos (ltb_t h9 (by omega) (by omega)), if_pos (ltb_t h9 (by omega) (by omega))]
        exact Or.inr ⟨_, _, rfl, rfl, _, rfl, hR⟩
      · have q9 := nl (x := 30) (y := i) (by omega) (by omega) (by omega)
        have hi : 1 ≤ i ∧ i ≤ 30 := by omega
        have hw2 := wrR_WF h.1 (Or.inl ⟨rfl, hi⟩)
        have hB2 : RB (wr s 19 0 i) 19 (wrR (T 1) 0 i) := by
          have := wrR_RB (x := i) hB (Or.inl rfl)
          rw [show wrR (wrR (T 1) 0 y) 0 i = wrR (T 1) 0 i by
            funext j
            by_cases hj : j = 0
            · rw [hj, wrR_eq, wrR_eq]
            · rw [wrR_ne hj, wrR_ne hj, wrR_ne hj]] at this
          exact this
        obtain ⟨S2, b1, b2, b3⟩ := DC.of (S := wr s 19 0 i) (α := 18) (by decide) hw2 hB2
        obtain ⟨T', t1, t2⟩ := M_toldBy (T := t) (w := 0) (by rw [ht]; exact h.1) (Or.inl ⟨rfl, hi⟩) (by decide)
        rw [ht] at t1
        have eb := en_bnd hw2
        have et : tl (wrR (T 1) 0 i) 0 = en (wrR (T 1) 0 i) := rfl
        rw [if_neg q9, if_neg q9]
        dsimp only [wrk]
        rw [b1, Option.bind_some, t1, Option.bind_some, et, show S2 18 1 = en (wrR (T 1) 0 i) from b2.2.2.1]
        have hR2 : Rel S2 T' := hR.ag ((AgC.fb (FrB.wr (Or.inl rfl))).tr (AgC.fc b3)) t2
        by_cases hl : p < en (wrR (T 1) 0 i)
        · rw [if_pos (ltb_t hl (by omega) (by omega)), if_pos (ltb_t hl (by omega) (by omega))]
          exact Or.inl ⟨_, _, rfl, rfl, ⟨rfl, by dsimp only; omega, by dsimp only; omega, hR2, by dsimp only; rw [t2.1]; exact ht, i, hi.1, hi.2, b2.1⟩, by dsimp only; omega⟩
        · have ql := nl (x := p) (y := en (wrR (T 1) 0 i)) (by omega) (by omega) (by omega)
          rw [if_neg ql, if_neg ql]
          exact Or.inr ⟨_, _, rfl, rfl, _, rfl, rfl, hR2⟩) FU (1, S1) (1, T) ⟨rfl, by dsimp only; omega, by dsimp only; omega, h.ag (AgC.fb a3) AgM.rf, rfl, T 1 0, h.1.1, h.1.2.1, by
        rw [show wrR (T 1) 0 (T 1 0) = T 1 by
          funext j
          by_cases hj : j = 0
          · rw [hj, wrR_eq]
          · rw [wrR_ne hj]]
        exact a2⟩ (by dsimp only; rw [FU_eq]; omega)
    rw [g1, g2]
    cases r with
    | inl x =>
      obtain ⟨y, e, f1⟩ := g3
      subst e
      exact ⟨_, _, _, rfl, rfl, f1⟩
    | inr x =>
      obtain ⟨y, e, e2, f1⟩ := g3
      subst e
      refine ⟨x.1, x.2, y.2, rfl, ?_, f1⟩
      rw [e2]
      rfl
  · rw [if_neg h3]
    exact ⟨_, _, _, rfl, rfl, h⟩
