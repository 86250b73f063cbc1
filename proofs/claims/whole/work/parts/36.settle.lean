/-! ===== what was had is handed over ===== -/
def SetR (h : Int → Int) (B B' : Int → Int) : Prop := B' 0 = B 0 ∧ B' 1 = B 1 ∧ B' 2 = B 2 ∧ (∀ b, 0 ≤ b → b < B 2 → bcap B' b = bcap B b - h b ∧ bcnt B' b = bcnt B b - h b ∧ ∀ i, 0 ≤ i → i < bcnt B b - h b → bval B' b i = bval B b (i + h b)) ∧ ∀ j, (j < 0 ∨ 93 ≤ j) → B' j = B j
theorem SetR.WF {N : Int} {B B' h : Int → Int} (g : SetR h B B') (hw : WF N B) (hh : ∀ b, 0 ≤ b → b < B 2 → 0 ≤ h b ∧ h b ≤ bcap B b ∧ h b ≤ bcnt B b) : WF N B' := by
  have hw' := hw
  obtain ⟨a0, a1, a2, a3, a4, a5, a6, a7, a8⟩ := hw
  obtain ⟨z0, z1, z2, z3, z4⟩ := g
  refine ⟨by omega, by omega, by omega, by omega, by omega, by omega, fun c x y => ?_, fun c i x y z u => ?_, fun c i x y z u => ?_⟩
  · have k := a6 c x (by omega)
    have e := z3 c x (by omega)
    have f := hh c x (by omega)
    omega
  · have e := z3 c x (by omega)
    have f := hh c x (by omega)
    rw [e.2.2 i z (by omega)]
    exact a7 c (i + h c) x (by omega) (by omega) (by omega)
  · have e := z3 c x (by omega)
    have f := hh c x (by omega)
    rw [e.2.2 i z (by omega), e.2.2 (i + 1) (by omega) (by omega), show i + 1 + h c = (i + h c) + 1 by omega]
    exact a8 c (i + h c) x (by omega) (by omega) (by omega)
theorem C_handOver {N : Int} {B B' h : Int → Int} {S : Mem} {q u : Nat} (hN : N ≤ 9) (hw : WF N B) (hR : RB S q B) (hq : u < q ∨ q + 3 < u) (hu : ∀ b, 0 ≤ b → b < B 2 → S u b = h b) (hh : ∀ b, 0 ≤ b → b < B 2 → 0 ≤ h b ∧ h b ≤ bcap B b ∧ h b ≤ bcnt B b) (g : SetR h B B') : ∃ S', f_X1_handOver S q u = some S' ∧ RB S' q B' ∧ FrB S S' q := by
  have n0 := hw.2.2.2.2.1
  have n1 := hw.2.2.2.2.2.1
  obtain ⟨S', g1, g2, g3, g4⟩ := lp_rel (step := f_X1_handOver_l2 q u) (fun i (t : Int × Mem) => t.1 = i ∧ t.2 q = S q ∧ (∀ k, k ≠ q → k ≠ q + 1 → k ≠ q + 2 → k ≠ q + 3 → t.2 k = S k) ∧ ∀ b, 0 ≤ b → b < B 2 → (b < (i : Int) → t.2 (q + 1) b = bcnt B b - h b ∧ t.2 (q + 2) b = bcap B b - h b ∧ ∀ j, 0 ≤ j → j < bcnt B b - h b → t.2 (q + 3) (b * 8 + j) = bval B b (j + h b)) ∧ ((i : Int) ≤ b → t.2 (q + 1) b = bcnt B b ∧ t.2 (q + 2) b = bcap B b ∧ ∀ j, 0 ≤ j → j < bcnt B b → t.2 (q + 3) (b * 8 + j) = bval B b j)) (fun (t : Mem) => t q = S q ∧ (∀ k, k ≠ q → k ≠ q + 1 → k ≠ q + 2 → k ≠ q + 3 → t k = S k) ∧ ∀ b, 0 ≤ b → b < B 2 → t (q + 1) b = bcnt B b - h b ∧ t (q + 2) b = bcap B b - h b ∧ ∀ j, 0 ≤ j → j < bcnt B b - h b → t (q + 3) (b * 8 + j) = bval B b (j + h b)) (B 2).toNat (by
    intro i t hi ⟨e0, e1, e2, e3⟩
    obtain ⟨t1, t2⟩ := t
    dsimp only at e0 e1 e2 e3 ⊢
    subst e0
    have me := (e3 i (by omega) (by omega)).2 (by omega)
    have f := hh i (by omega) (by omega)
    have cb := bcnt_bnd hw (b := i) (by omega) (by omega)
    have eu : t2 u i = h i := by rw [e2 u (by omega) (by omega) (by omega) (by omega)]; exact hu i (by omega) (by omega)
    refine ⟨((i : Int) + 1, wr (wr (cpy t2 (q + 3) (i * 8 + 0 + h i) (q + 3) (i * 8 + 0) (bcnt B i - 0 - h i)) (q + 1) i (bcnt B i - h i)) (q + 2) i (bcap B i - h i)), ?_, rfl, ?_, fun k k0 k1 k2 k3 => ?_, fun b b0 b1 => ⟨fun hb => ?_, fun hb => ?_⟩⟩
    · have hdv : f_X1_dropValues t2 q i 0 (h i) = some (wr (cpy t2 (q + 3) (i * 8 + 0 + h i) (q + 3) (i * 8 + 0) (bcnt B i - 0 - h i)) (q + 1) i (bcnt B i - h i)) := by
        unfold f_X1_dropValues
        rw [me.1, if_pos (by omega), if_pos (by omega)]
        dsimp only [cpyk, wrk]
        rw [cpy_ne (by omega), me.1]
      unfold f_X1_handOver_l2
      dsimp only
      rw [if_pos (show ltb (i : Int) (t2 q 2) = true by rw [e1, hR.2.2.1]; exact ltb_t (by omega) (by omega) (by omega)), if_pos (by omega), eu, hdv, Option.bind_some]
      dsimp only [wrk]
      rw [wr_cell (by omega), cpy_ne (by omega), me.2.1, wr_cell (by omega), cpy_ne (by omega), eu]
    · dsimp only
      rw [wr_ne (by omega), wr_ne (by omega), cpy_ne (by omega)]
      exact e1
    · dsimp only
      rw [wr_ne k2, wr_ne k1, cpy_ne k3]
      exact e2 k k0 k1 k2 k3
    · dsimp only
      by_cases hbi : b = i
      · subst hbi
        refine ⟨by rw [wr_cell (by omega), wr_eq], by rw [wr_eq], fun j j0 j1 => ?_⟩
        rw [wr_cell (by omega), wr_cell (by omega), cpy_at, if_pos (by omega), ← me.2.2 (j + h i) (by omega) (by omega)]
        congr 1
        omega
      · have r := (e3 b b0 b1).1 (by omega)
        refine ⟨by rw [wr_cell (by omega), wr_idx hbi, cpy_ne (by omega)]; exact r.1, by rw [wr_idx hbi, wr_cell (by omega), cpy_ne (by omega)]; exact r.2.1, fun j j0 j1 => ?_⟩
        have fb := hh b b0 b1
        have kb := bcnt_bnd hw b0 b1
        rw [wr_cell (by omega), wr_cell (by omega), cpy_at, if_neg (by omega)]
        exact r.2.2 j j0 j1
    · dsimp only
      have hbi : b ≠ i := by omega
      have r := (e3 b b0 b1).2 (by omega)
      refine ⟨by rw [wr_cell (by omega), wr_idx hbi, cpy_ne (by omega)]; exact r.1, by rw [wr_idx hbi, wr_cell (by omega), cpy_ne (by omega)]; exact r.2.1, fun j j0 j1 => ?_⟩
      have kb := bcnt_bnd hw b0 b1
      rw [wr_cell (by omega), wr_cell (by omega), cpy_at, if_neg (by omega)]
      exact r.2.2 j j0 j1) (by
    intro t ⟨e0, e1, e2, e3⟩
    obtain ⟨t1, t2⟩ := t
    dsimp only at e0 e1 e2 e3 ⊢
    subst e0
    refine ⟨t2, ?_, e1, e2, fun b b0 b1 => (e3 b b0 b1).1 (by omega)⟩
    unfold f_X1_handOver_l2
    dsimp only
    rw [if_neg (show ¬ ltb (((B 2).toNat : Nat) : Int) (t2 q 2) = true by rw [e1, hR.2.2.1]; exact nl (by omega) (by omega) (by omega))]) (n := FU) (by rw [FU_eq]; omega) (s := (0, S)) ⟨rfl, rfl, fun _ _ _ _ _ => rfl, fun b b0 b1 => ⟨fun hb => by omega, fun _ => ⟨hR.2.2.2.2.1 b b0 b1, hR.2.2.2.1 b b0 b1, fun j j0 j1 => hR.2.2.2.2.2 b j b0 b1 j0 j1⟩⟩⟩
  obtain ⟨z0, z1, z2, z3, z4⟩ := g
  refine ⟨S', ?_, ⟨by rw [g2, z0]; exact hR.1, by rw [g2, z1]; exact hR.2.1, by rw [g2, z2]; exact hR.2.2.1, fun b b0 b1 => ?_, fun b b0 b1 => ?_, fun b i b0 b1 i0 i1 => ?_⟩, g3⟩
  · unfold f_X1_handOver
    rw [g1]
    rfl
  · rw [(z3 b b0 (by omega)).1]; exact (g4 b b0 (by omega)).2.1
  · rw [(z3 b b0 (by omega)).2.1]; exact (g4 b b0 (by omega)).1
  · have e := z3 b b0 (by omega)
    rw [e.2.1] at i1
    rw [e.2.2 i i0 i1]
    exact (g4 b b0 (by omega)).2.2 i i0 i1
theorem M_settle1 {T : Mem} {b : Int} {m : Nat} (h1 : 0 ≤ b) (h2 : b < 9) (hm : T 5 b = m) (hc : (m : Int) ≤ bcnt (T 1) b) (h8 : bcnt (T 1) b ≤ 8) : ∃ T', lp (f_X8_settles_l12 b) FU (0, T) = some T' ∧ Fr1 T T' ∧ (∀ j, (j < 3 + 10 * b + 1 ∨ 3 + 10 * b + 10 ≤ j) → T' 1 j = T 1 j) ∧ bcnt (T' 1) b = bcnt (T 1) b - m ∧ ∀ i, 0 ≤ i → i < bcnt (T 1) b - m → bval (T' 1) b i = bval (T 1) b (i + m) := by
  exact lp_rel (step := f_X8_settles_l12 b) (fun i (t : Int × Mem) => t.1 = i ∧ Fr1 T t.2 ∧ (∀ j, (j < 3 + 10 * b + 1 ∨ 3 + 10 * b + 10 ≤ j) → t.2 1 j = T 1 j) ∧ bcnt (t.2 1) b = bcnt (T 1) b - i ∧ ∀ j, 0 ≤ j → j < bcnt (T 1) b - i → bval (t.2 1) b j = bval (T 1) b (j + i)) (fun (T' : Mem) => Fr1 T T' ∧ (∀ j, (j < 3 + 10 * b + 1 ∨ 3 + 10 * b + 10 ≤ j) → T' 1 j = T 1 j) ∧ bcnt (T' 1) b = bcnt (T 1) b - m ∧ ∀ i, 0 ≤ i → i < bcnt (T 1) b - m → bval (T' 1) b i = bval (T 1) b (i + m)) m (by
    intro i t hi ⟨e0, e1, e2, e3, e4⟩
    obtain ⟨t1, t2⟩ := t
    dsimp only at e0 e1 e2 e3 e4 ⊢
    subst e0
    obtain ⟨u, u1, u2, u3⟩ := M_drops (T := t2) (b := b) (i := 0) h1 h2 (by omega) (by omega) (by omega)
    rw [← cut_one] at u2
    have k := cut_cap (B := t2 1) (b := b) (i := 0) (m := 1) (c := b) h1 (by omega) (by omega) (by omega) h1
    refine ⟨((i : Int) + 1, u), ?_, rfl, fun x hx => (u3 x hx).trans (e1 x hx), fun j hj => ?_, ?_, fun j j0 j1 => ?_⟩
    · unfold f_X8_settles_l12
      dsimp only
      rw [if_pos ⟨h1, h2⟩, if_pos (show ltb (i : Int) (t2 5 b) = true by rw [e1 5 (by decide), hm]; exact ltb_t (by omega) (by omega) (by omega)), u1]
      rfl
    · dsimp only
      rw [u2]
      unfold cutR
      rw [if_neg (by omega), if_neg (by omega)]
      exact e2 j hj
    · dsimp only
      rw [u2, k.2.1, if_pos rfl, e3]
      omega
    · dsimp only
      rw [u2, k.2.2 j j0 (by omega), if_pos (show b = b ∧ 0 ≤ j ∧ j < bcnt (t2 1) b - 1 by omega), e4 (j + 1) (by omega) (by omega)]
      congr 1
      omega) (by
    intro t ⟨e0, e1, e2, e3, e4⟩
    obtain ⟨t1, t2⟩ := t
    dsimp only at e0 e1 e2 e3 e4 ⊢
    subst e0
    refine ⟨t2, ?_, e1, e2, e3, e4⟩
    unfold f_X8_settles_l12
    dsimp only
    rw [if_pos ⟨h1, h2⟩, if_neg (show ¬ ltb (m : Int) (t2 5 b) = true by rw [e1 5 (by decide), hm]; exact nl (by omega) (by omega) (by omega))]) (n := FU) (by rw [FU_eq]; omega) (s := (0, T)) ⟨rfl, fun _ _ => rfl, fun _ _ => rfl, by dsimp only; omega, fun j _ _ => by dsimp only; rw [show j + ((0 : Nat) : Int) = j by omega]⟩
theorem M_settles {N : Int} {T : Mem} {h : Int → Int} (hN : N ≤ 9) (hw : WF N (T 1)) (hu : ∀ b, 0 ≤ b → b < T 1 2 → T 5 b = h b) (hh : ∀ b, 0 ≤ b → b < T 1 2 → 0 ≤ h b ∧ h b ≤ bcap (T 1) b ∧ h b ≤ bcnt (T 1) b) : ∃ T', f_X8_settles T = some T' ∧ Fr1 T T' ∧ SetR h (T 1) (T' 1) := by
  have n0 := hw.2.2.2.2.1
  have n1 := hw.2.2.2.2.2.1
  obtain ⟨T', g1, g2, g3, g4⟩ := lp_rel (step := f_X8_settles_l2) (fun i (t : Int × Mem) => t.1 = i ∧ Fr1 T t.2 ∧ (∀ j, (j < 3 ∨ 3 + 10 * (i : Int) ≤ j) → t.2 1 j = T 1 j) ∧ ∀ b, 0 ≤ b → b < (i : Int) → bcap (t.2 1) b = bcap (T 1) b - h b ∧ bcnt (t.2 1) b = bcnt (T 1) b - h b ∧ ∀ j, 0 ≤ j → j < bcnt (T 1) b - h b → bval (t.2 1) b j = bval (T 1) b (j + h b)) (fun (t : Mem) => Fr1 T t ∧ (∀ j, (j < 3 ∨ 93 ≤ j) → t 1 j = T 1 j) ∧ ∀ b, 0 ≤ b → b < T 1 2 → bcap (t 1) b = bcap (T 1) b - h b ∧ bcnt (t 1) b = bcnt (T 1) b - h b ∧ ∀ j, 0 ≤ j → j < bcnt (T 1) b - h b → bval (t 1) b j = bval (T 1) b (j + h b)) (T 1 2).toNat (by
    intro i t hi ⟨e0, e1, e2, e3⟩
    obtain ⟨t1, t2⟩ := t
    dsimp only at e0 e1 e2 e3 ⊢
    subst e0
    have f := hh i (by omega) (by omega)
    have cb := bcnt_bnd hw (b := i) (by omega) (by omega)
    have ec : bcnt (t2 1) i = bcnt (T 1) i := e2 _ (by omega)
    have e5 : t2 5 i = h i := by rw [e1 5 (by decide)]; exact hu i (by omega) (by omega)
    obtain ⟨u, u1, u2, u3, u4, u5⟩ := M_settle1 (T := t2) (b := i) (m := (h i).toNat) (by omega) (by omega) (by rw [e5]; omega) (by rw [ec]; omega) (by rw [ec]; omega)
    have em : (((h i).toNat : Nat) : Int) = h i := by omega
    rw [em, ec] at u4
    rw [em, ec] at u5
    have eb : u 1 (3 + 10 * i) = bcap (T 1) i := by rw [u3 _ (by omega)]; exact e2 _ (by omega)
    have e55 : u 5 i = h i := by rw [u2 5 (by decide)]; exact e5
    refine ⟨((i : Int) + 1, wr u 1 (3 + 10 * i) (bcap (T 1) i - h i)), ?_, rfl, fun x hx => by dsimp only; rw [wr_ne hx, u2 x hx]; exact e1 x hx, fun j hj => ?_, fun b b0 b1 => ?_⟩
    · unfold f_X8_settles_l2
      dsimp only
      rw [M_many, Option.bind_some, if_pos (show ltb (i : Int) (t2 1 2) = true by rw [e2 2 (by omega)]; exact ltb_t (by omega) (by omega) (by omega)), u1, Option.bind_some, if_pos (by omega), if_pos (by omega)]
      dsimp only [wrk]
      rw [eb, e55]
    · dsimp only
      rw [wr_idx (by omega), u3 j (by omega)]
      exact e2 j (by omega)
    · dsimp only
      rw [wr_row]
      by_cases hbi : b = i
      · subst hbi
        refine ⟨wrR_eq _ _ _, (wrR_ne (by omega)).trans u4, fun j j0 j1 => ?_⟩
        have := u5 j j0 j1
        rw [show bval (wrR (u 1) (3 + 10 * (i : Int)) (bcap (T 1) i - h i)) i j = bval (u 1) i j from wrR_ne (by omega), this]
        exact e2 _ (by omega)
      · have r := e3 b b0 (by omega)
        have fb := hh b b0 (by omega)
        have kb := bcnt_bnd hw b0 (show b < T 1 2 by omega)
        refine ⟨(wrR_ne (by omega)).trans ((u3 _ (by omega)).trans r.1), (wrR_ne (by omega)).trans ((u3 _ (by omega)).trans r.2.1), fun j j0 j1 => (wrR_ne (by omega)).trans ((u3 _ (by omega)).trans (r.2.2 j j0 j1))⟩) (by
    intro t ⟨e0, e1, e2, e3⟩
    obtain ⟨t1, t2⟩ := t
    dsimp only at e0 e1 e2 e3 ⊢
    subst e0
    refine ⟨t2, ?_, e1, fun j hj => e2 j (by omega), fun b b0 b1 => e3 b b0 (by omega)⟩
    unfold f_X8_settles_l2
    dsimp only
    rw [M_many, Option.bind_some, if_neg (show ¬ ltb (((T 1 2).toNat : Nat) : Int) (t2 1 2) = true by rw [e2 2 (by omega)]; exact nl (by omega) (by omega) (by omega))]) (n := FU) (by rw [FU_eq]; omega) (s := (0, T)) ⟨rfl, fun _ _ => rfl, fun _ _ => rfl, fun b b0 b1 => by omega⟩
  refine ⟨T', ?_, g2, g3 0 (by omega), g3 1 (by omega), g3 2 (by omega), g4, fun j hj => g3 j (by omega)⟩
  unfold f_X8_settles
  rw [g1]
  rfl
theorem Q_inTwo {S T : Mem} {a k : Int} (h : Rel S T) (ha : R32 a) (hk : R32 k) : ∃ r S' T', f_X7_inTwo S a k = some (r, S') ∧ f_X8_inTwo T a k = some (r, T') ∧ Rel S' T' := by
  have n0 := h.1.2.2.2.2.1
  have n1 := h.1.2.2.2.2.2.1
  have r0 := h.1.1
  have r1 := h.1.2.1
  have s0 : S 5 0 = T 1 0 := h.2.1.1
  unfold f_X7_inTwo f_X8_inTwo
  rw [if_pos (show (0 : Int) ≤ 0 ∧ (0 : Int) < 126 by decide), M_inL ha (by decide) (by omega), Option.bind_some, s0, C_isKind hk, M_isKind hk, Option.bind_some, Option.bind_some]
  by_cases h1 : a < 1
  · rw [if_pos (ltb_t h1 ha.1 (by omega)), if_neg (show ¬ (1 ≤ a ∧ a ≤ T 1 0 - 1) by omega), if_pos e00]
    exact ⟨_, _, _, rfl, rfl, h⟩
  · rw [if_neg (nl (x := a) (y := 1) (by omega) (by omega) ha.2)]
    by_cases h2 : a < T 1 0
    · rw [if_pos (ltb_t h2 ha.1 (by omega)), if_pos (show 1 ≤ a ∧ a ≤ T 1 0 - 1 by omega), if_neg e10]
      by_cases h3 : 0 ≤ k ∧ k ≤ 3
      · rw [if_pos h3, if_neg e10, if_neg e10]
        have hi : 1 ≤ a ∧ a ≤ 30 := by omega
        have hw1 := wrR_WF h.1 (Or.inl ⟨rfl, hi⟩)
        have z2 : wrR (T 1) 0 a 2 = T 1 2 := wrR_ne (by decide)
        -- the system, first
        obtain ⟨S1, a1, a2, a3⟩ := C_takeFrom (th := 19) (q := 5) (by omega) (by decide) h.1 h.2.1
        obtain ⟨S2, b1, b2, b3⟩ := DC.of (S := wr S1 19 0 a) (α := 18) (by decide) hw1 (wrR_RB a2 (Or.inl rfl))
        obtain ⟨S3, c1, c2⟩ := C_paidByAll (by decide) hw1 b2 h3.1 h3.2
        have d3 := b2.fp c2
        -- the reference, first
        have p := Asd.put T
        have hA : Asd T (wr (fl T 3 0 126 (fun j => T 1 j)) 1 0 a) (wrR (T 1) 0 a) := p.row (by rw [wr_row, p.1]) (fun k hk => wr_ne hk) (fun j hj => wrR_ne (by omega))
        obtain ⟨T2, e1, e2, e3⟩ := DM.of (T := wr (fl T 3 0 126 (fun j => T 1 j)) 1 0 a) (N := 8) (by decide) (by rw [hA.1]; exact hw1)
        rw [hA.1] at e2
        obtain ⟨T3, f1, f2⟩ := M_paidAll (by decide) hw1 e2 h3.1 h3.2
        have m3 := e2.ft f2
        have hh : ∀ b, 0 ≤ b → b < wrR (T 1) 0 a 2 → 0 ≤ hs (oc (wrR (T 1) 0 a)) b ∧ hs (oc (wrR (T 1) 0 a)) b ≤ bcap (wrR (T 1) 0 a) b ∧ hs (oc (wrR (T 1) 0 a)) b ≤ bcnt (wrR (T 1) 0 a) b := fun b b0 b1 => by
          have o := oc_used hw1 b0 b1
          have u := bused_bnd hw1 b0 b1
          omega
        obtain ⟨T4, g1, g2, g3⟩ := M_settles (T := T3) (N := 8) (h := hs (oc (wrR (T 1) 0 a))) (by decide) (by rw [m3.1]; exact hw1) (fun b b0 b1 => by rw [m3.1] at b1; exact m3.units b0 b1) (by rw [m3.1]; exact hh)
        rw [m3.1] at g3
        have hw4 := g3.WF hw1 hh
        have A4 : Asd T T4 (T4 1) := ((hA.fr e3).ft f2).row rfl g2 (fun j hj => g3.2.2.2.2 j (by omega))
        obtain ⟨S4, k1, k2, k3⟩ := C_handOver (q := 19) (u := 25) (h := hs (oc (wrR (T 1) 0 a))) (by decide) hw1 d3.1 (by omega) (fun b b0 b1 => d3.units b0 b1) hh g3
        -- and again with the rest
        have hj : 1 ≤ T 1 0 - a ∧ T 1 0 - a ≤ 30 := by omega
        have hw5 := wrR_WF hw4 (Or.inl ⟨rfl, hj⟩)
        obtain ⟨S5, l1, l2, l3⟩ := DC.of (S := wr S4 19 0 (T 1 0 - a)) (α := 18) (by decide) hw5 (wrR_RB k2 (Or.inl rfl))
        obtain ⟨S6, o1, o2⟩ := C_paidByAll (by decide) hw5 l2 h3.1 h3.2
        have A5 : Asd T (wr T4 1 0 (T 1 0 - a)) (wrR (T4 1) 0 (T 1 0 - a)) := A4.row (by rw [wr_row]) (fun k hk => wr_ne hk) (fun j hj => wrR_ne (by omega))
        obtain ⟨T5, q1, q2, q3⟩ := DM.of (T := wr T4 1 0 (T 1 0 - a)) (N := 8) (by decide) (by rw [A5.1]; exact hw5)
        rw [A5.1] at q2
        obtain ⟨T6, u1, u2⟩ := M_paidAll (by decide) hw5 q2 h3.1 h3.2
        obtain ⟨T7, v1, v2, _⟩ := ((A5.fr q3).ft u2).back
        have ag4 : AgC S S4 := ((((AgC.fb a3).tr (AgC.fb (FrB.wr (Or.inl rfl)))).tr (AgC.fc b3)).tr (AgC.ps c2)).tr (AgC.fb k3)
        have s40 : S4 5 0 = T 1 0 := by rw [ag4 5 (by omega)]; exact s0
        have ag : AgC S S6 := ((ag4.tr (AgC.fb (FrB.wr (Or.inl rfl)))).tr (AgC.fc l3)).tr (AgC.ps o2)
        have p0 : fl T 3 0 126 (fun j => T 1 j) 1 0 = T 1 0 := by rw [p.1]
        rw [a1, Option.bind_some]
        dsimp only [wrk]
        rw [b1, Option.bind_some, c1, Option.bind_some]
        dsimp only
        rw [k1, Option.bind_some, s40, l1, Option.bind_some, o1, Option.bind_some, M_putsAside, Option.bind_some, e1, Option.bind_some, f1, Option.bind_some]
        dsimp only
        rw [g1, Option.bind_some, p0, q1, Option.bind_some, u1, Option.bind_some]
        dsimp only
        rw [v1, Option.bind_some]
        exact ⟨_, _, _, rfl, rfl, h.ag ag v2⟩
      · rw [if_neg h3]
        exact ⟨_, _, _, rfl, rfl, h⟩
    · rw [if_neg (nl (x := a) (y := T 1 0) (by omega) (by omega) ha.2), if_neg (show ¬ (1 ≤ a ∧ a ≤ T 1 0 - 1) by omega), if_pos e00]
      exact ⟨_, _, _, rfl, rfl, h⟩
