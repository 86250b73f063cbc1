/-! ===== one bidder in two ===== -/
def addR (B : Int → Int) (cap : Int) : Int → Int := fun j => if j = 2 then B 2 + 1 else if j = 3 + 10 * B 2 then cap else if 3 + 10 * B 2 ≤ j ∧ j < 3 + 10 * B 2 + 10 then 0 else B j
theorem M_addsOne {T : Mem} {cap : Int} (h0 : 0 ≤ T 1 2) (h8 : T 1 2 ≤ 8) : ∃ T', f_X8_addsOne T cap = some (T 1 2, T') ∧ T' 1 = addR (T 1) cap ∧ Fr1 T T' := by
  have := lp_seq (step := f_X8_addsOne_l7 cap (T 1 2)) (fun n => ((n : Int), fl T 1 (3 + 10 * T 1 2) n (fun _ => 0))) 10 (fl T 1 (3 + 10 * T 1 2) 10 (fun _ => 0)) (fun i hi => by
    unfold f_X8_addsOne_l7
    dsimp only
    rw [if_pos (ltb_t (by omega) (by omega) (by omega)), if_pos (by omega)]
    dsimp only [wrk]
    rw [fl_s (by omega) rfl]
    rfl) (by
    unfold f_X8_addsOne_l7
    dsimp only
    rw [if_neg (nl (by omega) (by omega) (by omega))]) (n := FU) (by rw [FU_eq]; omega)
  rw [fl_0, show ((0 : Nat) : Int) = 0 from rfl] at this
  refine ⟨wr (wr (fl T 1 (3 + 10 * T 1 2) 10 (fun _ => 0)) 1 (3 + 10 * T 1 2) cap) 1 2 (T 1 2 + 1), ?_, ?_, fun k hk => ?_⟩
  · unfold f_X8_addsOne
    rw [M_many, Option.bind_some, this, Option.bind_some, if_pos (by omega)]
    dsimp only [wrk]
    rw [if_pos (by decide), wr_idx (by omega), fl_out (by omega)]
  · rw [wr_row, wr_row, fl_row]
    funext j
    unfold wrR addR
    dsimp only
    by_cases hj : j = 2
    · rw [if_pos hj, if_pos hj]
    · rw [if_neg hj, if_neg hj]
      by_cases hj2 : j = 3 + 10 * T 1 2
      · rw [if_pos hj2, if_pos hj2]
      · rw [if_neg hj2, if_neg hj2]
        by_cases hj3 : 3 + 10 * T 1 2 ≤ j ∧ j < 3 + 10 * T 1 2 + 10
        · rw [if_pos (by omega), if_pos hj3]
        · rw [if_neg (by omega), if_neg hj3]
  · rw [wr_ne hk, wr_ne hk, fl_ne hk]
theorem addR_eq {B : Int → Int} {cap : Int} (h0 : 0 ≤ B 2) : addR B cap 0 = B 0 ∧ addR B cap 1 = B 1 ∧ addR B cap 2 = B 2 + 1 ∧ bcap (addR B cap) (B 2) = cap ∧ bcnt (addR B cap) (B 2) = 0 ∧ (∀ c, 0 ≤ c → c < B 2 → bcap (addR B cap) c = bcap B c ∧ bcnt (addR B cap) c = bcnt B c ∧ ∀ i, 0 ≤ i → i < 8 → bval (addR B cap) c i = bval B c i) ∧ ∀ j, (j < 0 ∨ 3 + 10 * B 2 + 10 ≤ j) → addR B cap j = B j := by
  unfold bcap bcnt bval addR
  refine ⟨?_, ?_, ?_, ?_, ?_, fun c c0 c1 => ⟨?_, ?_, fun i i0 i1 => ?_⟩, fun j hj => ?_⟩
  · rw [if_neg (by decide), if_neg (by omega), if_neg (by omega)]
  · rw [if_neg (by decide), if_neg (by omega), if_neg (by omega)]
  · rw [if_pos rfl]
  · rw [if_neg (by omega), if_pos rfl]
  · rw [if_neg (by omega), if_neg (by omega), if_pos (by omega)]
  · rw [if_neg (by omega), if_neg (by omega), if_neg (by omega)]
  · rw [if_neg (by omega), if_neg (by omega), if_neg (by omega)]
  · rw [if_neg (by omega), if_neg (by omega), if_neg (by omega)]
  · rw [if_neg (by omega), if_neg (by omega), if_neg (by omega)]
theorem addR_WF {B : Int → Int} {cap : Int} (hw : WF 8 B) (hc : 0 ≤ cap ∧ cap ≤ 8) : WF 9 (addR B cap) := by
  obtain ⟨a0, a1, a2, a3, a4, a5, a6, a7, a8⟩ := hw
  obtain ⟨z0, z1, z2, z3, z4, z5, _⟩ := addR_eq (cap := cap) a4
  refine ⟨by omega, by omega, by omega, by omega, by omega, by omega, fun c x y => ?_, fun c i x y z u => ?_, fun c i x y z u => ?_⟩
  · by_cases hn : c = B 2
    · subst hn; omega
    · have k := z5 c x (by omega)
      rw [k.1, k.2.1]
      exact a6 c x (by omega)
  · by_cases hn : c = B 2
    · subst hn; omega
    · have k := z5 c x (by omega)
      have l := a6 c x (by omega)
      rw [k.2.1] at u
      rw [k.2.2 i z (by omega)]
      exact a7 c i x (by omega) z u
  · by_cases hn : c = B 2
    · subst hn; omega
    · have k := z5 c x (by omega)
      have l := a6 c x (by omega)
      rw [k.2.1] at u
      rw [k.2.2 i z (by omega), k.2.2 (i + 1) (by omega) (by omega)]
      exact a8 c i x (by omega) z u
/-- the row with one bidder in two -/
def SplR (B : Int → Int) (a m : Int) (B' : Int → Int) : Prop := B' 0 = B 0 ∧ B' 1 = B 1 ∧ B' 2 = B 2 + 1 ∧ (∀ c, 0 ≤ c → c < B 2 → bcap B' c = bcap B c ∧ bcnt B' c = (if c = a then bcnt B a - m else bcnt B c) ∧ ∀ i, 0 ≤ i → i < 8 → bval B' c i = bval B c i) ∧ bcap B' (B 2) = bcap B a ∧ bcnt B' (B 2) = m ∧ (∀ i, 0 ≤ i → i < m → bval B' (B 2) i = bval B a (bcnt B a - m + i)) ∧ ∀ j, (j < 0 ∨ 93 ≤ j) → B' j = B j
theorem SplR.WF {B B' : Int → Int} {a m : Int} (g : SplR B a m B') (hw : WF 8 B) (h1 : 0 ≤ a) (h2 : a < B 2) (hm : 0 ≤ m) (hm2 : m ≤ bcnt B a) : WF 9 B' := by
  have hw' := hw
  obtain ⟨a0, a1, a2, a3, a4, a5, a6, a7, a8⟩ := hw
  obtain ⟨z0, z1, z2, z3, z4, z5, z6, _⟩ := g
  have ca := a6 a h1 h2
  have le : ∀ c, 0 ≤ c → c < B 2 → bcnt B' c ≤ bcnt B c ∧ 0 ≤ bcnt B' c := fun c x y => by
    have l := a6 c x y
    rw [(z3 c x y).2.1]
    by_cases hc : c = a
    · subst hc; rw [if_pos rfl]; omega
    · rw [if_neg hc]; omega
  refine ⟨by omega, by omega, by omega, by omega, by omega, by omega, fun c x y => ?_, fun c i x y z u => ?_, fun c i x y z u => ?_⟩
  · by_cases hn : c = B 2
    · subst hn; omega
    · have k := z3 c x (by omega)
      have l := a6 c x (by omega)
      have e := le c x (by omega)
      omega
  · by_cases hn : c = B 2
    · subst hn
      rw [z6 i z (by omega)]
      exact a7 a _ h1 h2 (by omega) (by omega)
    · have k := z3 c x (by omega)
      have l := a6 c x (by omega)
      have e := le c x (by omega)
      rw [k.2.2 i z (by omega)]
      exact a7 c i x (by omega) z (by omega)
  · by_cases hn : c = B 2
    · subst hn
      rw [z6 i z (by omega), z6 (i + 1) (by omega) (by omega), show bcnt B a - m + (i + 1) = bcnt B a - m + i + 1 by omega]
      exact a8 a _ h1 h2 (by omega) (by omega)
    · have k := z3 c x (by omega)
      have l := a6 c x (by omega)
      have e := le c x (by omega)
      rw [k.2.2 i z (by omega), k.2.2 (i + 1) (by omega) (by omega)]
      exact a8 c i x (by omega) z (by omega)
theorem pos_end {B : Int → Int} {b v : Int} (hc : 0 ≤ bcnt B b) (h : ∀ i, 0 ≤ i → i < bcnt B b → v ≤ bval B b i) : pos B b v = bcnt B b := by
  unfold pos
  rw [ledN_uniq (k := (bcnt B b).toNat) (Nat.le_refl _) (fun i hi => by
    simp only [decide_eq_true_eq]
    exact h i (by omega) (by omega)) (Or.inl rfl)]
  omega
theorem M_parts {T : Mem} {a m : Int} (hw : WF 8 (T 1)) (h1 : 0 ≤ a) (h2 : a < T 1 2) (hm : 1 ≤ m) (hm2 : m < bcnt (T 1) a) : ∃ T', f_X8_parts T a m = some (T 1 2, T') ∧ SplR (T 1) a m (T' 1) ∧ Fr1 T T' := by
  have n1 := hw.2.2.2.2.2.1
  have n0 := hw.2.2.2.2.1
  have ca := bcnt_bnd hw h1 h2
  obtain ⟨T1, b1, b2, b3⟩ := M_addsOne (T := T) (cap := bcap (T 1) a) n0 n1
  have hwA := addR_WF (cap := bcap (T 1) a) hw ⟨ca.1, ca.2.1⟩
  obtain ⟨z0, z1, z2, z3, z4, z5, z6⟩ := addR_eq (B := T 1) (cap := bcap (T 1) a) n0
  obtain ⟨T2, c1, c2, c3, c4, c5, c6⟩ := lp_rel (step := f_X8_parts_l22 a m (T 1 2) (bcnt (T 1) a - m)) (fun i (t : Int × Mem) => t.1 = i ∧ Fr1 T t.2 ∧ WF 9 (t.2 1) ∧ bcnt (t.2 1) (T 1 2) = i ∧ (∀ j, 0 ≤ j → j < (i : Int) → bval (t.2 1) (T 1 2) j = bval (T 1) a (bcnt (T 1) a - m + j)) ∧ ∀ j, (j < 3 + 10 * T 1 2 + 1 ∨ 3 + 10 * T 1 2 + 10 ≤ j) → t.2 1 j = addR (T 1) (bcap (T 1) a) j) (fun (t : Mem) => Fr1 T t ∧ WF 9 (t 1) ∧ bcnt (t 1) (T 1 2) = m ∧ (∀ j, 0 ≤ j → j < m → bval (t 1) (T 1 2) j = bval (T 1) a (bcnt (T 1) a - m + j)) ∧ ∀ j, (j < 3 + 10 * T 1 2 + 1 ∨ 3 + 10 * T 1 2 + 10 ≤ j) → t 1 j = addR (T 1) (bcap (T 1) a) j) m.toNat (by
    intro i t hi ⟨e0, e1, e2, e3, e4, e5⟩
    obtain ⟨t1, t2⟩ := t
    dsimp only at e0 e1 e2 e3 e4 e5 ⊢
    subst e0
    have t22 : t2 1 2 = T 1 2 + 1 := by rw [e5 2 (by omega)]; exact z2
    have ev : bval (t2 1) a (bcnt (T 1) a - m + i) = bval (T 1) a (bcnt (T 1) a - m + i) := (e5 _ (by omega)).trans ((z5 a h1 h2).2.2 _ (by omega) (by omega))
    have vb := bval_bnd hw (i := bcnt (T 1) a - m + i) h1 h2 (by omega) (by omega)
    obtain ⟨u, u1, u2, u3⟩ := M_comes (T := t2) (b := T 1 2) (v := bval (T 1) a (bcnt (T 1) a - m + i)) (N := 9) (by decide) e2 n0 (by omega) (by omega) vb
    have hp : pos (t2 1) (T 1 2) (bval (T 1) a (bcnt (T 1) a - m + i)) = i := by
      rw [pos_end (by omega) (fun j j0 j1 => ?_), e3]
      rw [e4 j j0 (by omega)]
      have := bval_mono hw h1 h2 (i - j).toNat (bcnt (T 1) a - m + j) (by omega) (by omega)
      rw [show bcnt (T 1) a - m + j + (((i - j).toNat : Nat) : Int) = bcnt (T 1) a - m + i by omega] at this
      exact this
    have k := comes_cap (B := t2 1) (b := T 1 2) (v := bval (T 1) a (bcnt (T 1) a - m + i)) (c := T 1 2) n0 (by omega) n0
    refine ⟨((i : Int) + 1, u), ?_, rfl, fun x hx => (u3 x hx).trans (e1 x hx), ?_, ?_, fun j j0 j1 => ?_, fun j hj => ?_⟩
    · unfold f_X8_parts_l22
      dsimp only
      rw [if_pos (ltb_t (by omega) (by omega) (by omega)), M_valueAt h1 (by omega) (by omega) (by omega), Option.bind_some, ev, u1]
      rfl
    · dsimp only
      rw [u2]
      exact comes_WF e2 n0 (by omega) (by omega) vb
    · dsimp only
      rw [u2, k.2.1, if_pos rfl, e3]
      omega
    · dsimp only
      rw [u2, k.2.2 j j0 (by omega), if_pos (show T 1 2 = T 1 2 ∧ j ≤ bcnt (t2 1) (T 1 2) by omega), hp]
      by_cases hj : j < i
      · rw [if_pos hj]
        exact e4 j j0 hj
      · rw [if_neg hj, if_pos (by omega), show j = (i : Int) by omega]
    · dsimp only
      rw [u2]
      unfold comesR
      rw [hp, if_neg (by omega), if_neg (by omega), if_neg (by omega)]
      exact e5 j hj) (by
    intro t ⟨e0, e1, e2, e3, e4, e5⟩
    obtain ⟨t1, t2⟩ := t
    dsimp only at e0 e1 e2 e3 e4 e5 ⊢
    subst e0
    refine ⟨t2, ?_, e1, e2, by omega, fun j j0 j1 => e4 j j0 (by omega), e5⟩
    unfold f_X8_parts_l22
    dsimp only
    rw [if_neg (nl (by omega) (by omega) (by omega))]) (n := FU) (by rw [FU_eq]; omega) (s := (0, T1)) ⟨rfl, b3, by dsimp only; rw [b2]; exact hwA, by dsimp only; rw [b2]; exact z4, fun j j0 j1 => by omega, fun j _ => by dsimp only; rw [b2]⟩
  refine ⟨wr T2 1 (3 + 10 * a + 1) (bcnt (T 1) a - m), ?_, ?_, fun k hk => by rw [wr_ne hk]; exact c2 k hk⟩
  · have ecnt : bcnt (T1 1) a = bcnt (T 1) a := by rw [b2]; exact (z5 a h1 h2).2.1
    unfold f_X8_parts
    rw [M_capOf h1 (by omega), Option.bind_some, b1, Option.bind_some]
    dsimp only
    rw [M_valuesOf h1 (by omega), ecnt, Option.bind_some, c1, Option.bind_some, if_pos (by omega)]
    rfl
  · rw [wr_row]
    refine ⟨?_, ?_, ?_, fun c x y => ⟨?_, ?_, fun i i0 i1 => ?_⟩, ?_, ?_, fun i i0 i1 => ?_, fun j hj => ?_⟩
    · rw [wrR_ne (by omega), c6 0 (by omega)]; exact z0
    · rw [wrR_ne (by omega), c6 1 (by omega)]; exact z1
    · rw [wrR_ne (by omega), c6 2 (by omega)]; exact z2
    · exact (wrR_ne (by omega)).trans ((c6 _ (by omega)).trans (z5 c x y).1)
    · by_cases hc : c = a
      · subst hc
        rw [if_pos rfl]
        exact wrR_eq _ _ _
      · rw [if_neg hc]
        exact (wrR_ne (by omega)).trans ((c6 _ (by omega)).trans (z5 c x y).2.1)
    · exact (wrR_ne (by omega)).trans ((c6 _ (by omega)).trans ((z5 c x y).2.2 i i0 i1))
    · exact (wrR_ne (by omega)).trans ((c6 _ (by omega)).trans z3)
    · exact (wrR_ne (by omega)).trans c4
    · exact (wrR_ne (by omega)).trans (c5 i i0 i1)
    · exact (wrR_ne (by omega)).trans ((c6 _ (by omega)).trans (z6 j (by omega)))
theorem C_splitOff {B B' : Int → Int} {S : Mem} {q : Nat} {a m : Int} (hw : WF 8 B) (hR : RB S q B) (h1 : 0 ≤ a) (h2 : a < B 2) (hm : 1 ≤ m) (hm2 : m < bcnt B a) (g : SplR B a m B') : ∃ S', f_X1_splitOff S q a m = some (B 2, S') ∧ RB S' q B' ∧ FrB S S' q := by
  have n1 := hw.2.2.2.2.2.1
  have n0 := hw.2.2.2.2.1
  have ca := bcnt_bnd hw h1 h2
  have ec := hR.2.2.2.2.1 a h1 h2
  have ep := hR.2.2.2.1 a h1 h2
  obtain ⟨z0, z1, z2, z3, z4, z5, z6, _⟩ := g
  let S6 := wr (wr (wr S (q + 1) (B 2) 0) (q + 2) (B 2) 8) q 2 (B 2 + 1)
  have s6q : ∀ j, j ≠ 2 → S6 q j = S q j := fun j hj => by show wr _ q 2 _ q j = _; rw [wr_idx hj, wr_cell (by omega), wr_cell (by omega)]
  have s61 : ∀ j, j ≠ B 2 → S6 (q + 1) j = S (q + 1) j := fun j hj => by show wr _ q 2 _ (q + 1) j = _; rw [wr_cell (by omega), wr_idx hj, wr_idx hj]
  have s62 : ∀ j, j ≠ B 2 → S6 (q + 2) j = S (q + 2) j := fun j hj => by show wr _ q 2 _ (q + 2) j = _; rw [wr_cell (by omega), wr_idx hj, wr_idx hj]
  have s63 : S6 (q + 3) = S (q + 3) := by show wr _ q 2 _ (q + 3) = _; rw [wr_ne (by omega), wr_ne (by omega), wr_ne (by omega)]
  have hadd : f_X1_addBidder S q = some (B 2, S6) := by
    unfold f_X1_addBidder
    rw [hR.2.2.1, if_pos (by omega)]
    dsimp only [wrk]
    rw [wr_cell (k := q) (by omega), wr_cell (k := q) (by omega), hR.2.2.1]
  let S9 := wr (wr (wr S6 (q + 2) (B 2) (bcap B a)) (q + 1) (B 2) m) (q + 1) a (bcnt B a - m)
  have s91a : S9 (q + 1) a = bcnt B a - m := by show wr _ (q + 1) a _ (q + 1) a = _; rw [wr_eq]
  refine ⟨cpy S9 (q + 3) (a * 8 + (bcnt B a - m)) (q + 3) (B 2 * 8) m, ?_, ⟨?_, ?_, ?_, fun c x y => ?_, fun c x y => ?_, fun c i x y z u => ?_⟩, fun k k0 k1 k2 k3 => ?_⟩
  · unfold f_X1_splitOff
    rw [hadd, Option.bind_some]
    dsimp only
    rw [if_pos (by omega), if_pos (by omega)]
    dsimp only [wrk]
    rw [s62 a (by omega), ep, wr_idx (show a ≠ B 2 by omega), wr_idx (show a ≠ B 2 by omega), s61 a (by omega), ec]
    rw [if_pos (by rw [wr_eq]; omega), wr_eq]
    rfl
  · rw [cpy_ne (by omega), z0]
    show wr _ (q + 1) a _ q 0 = _
    rw [wr_cell (by omega), wr_cell (by omega), wr_cell (by omega), s6q 0 (by decide)]
    exact hR.1
  · rw [cpy_ne (by omega), z1]
    show wr _ (q + 1) a _ q 1 = _
    rw [wr_cell (by omega), wr_cell (by omega), wr_cell (by omega), s6q 1 (by decide)]
    exact hR.2.1
  · rw [cpy_ne (by omega), z2]
    show wr _ (q + 1) a _ q 2 = _
    rw [wr_cell (by omega), wr_cell (by omega), wr_cell (by omega)]
    show wr _ q 2 _ q 2 = _
    rw [wr_eq]
  · rw [cpy_ne (by omega)]
    show wr _ (q + 1) a _ (q + 2) c = _
    rw [wr_cell (by omega), wr_cell (by omega), wr_at]
    by_cases hn : c = B 2
    · rw [if_pos hn, hn, z4]
    · rw [if_neg hn, s62 c hn, (z3 c x (by omega)).1]
      exact hR.2.2.2.1 c x (by omega)
  · rw [cpy_ne (by omega)]
    show wr _ (q + 1) a _ (q + 1) c = _
    rw [wr_at, wr_at, wr_cell (by omega)]
    by_cases hn : c = B 2
    · rw [if_neg (by omega), if_pos hn, hn, z5]
    · rw [if_neg hn, s61 c hn, (z3 c x (by omega)).2.1]
      by_cases hc : c = a
      · rw [if_pos hc, if_pos hc]
      · rw [if_neg hc, if_neg hc]
        exact hR.2.2.2.2.1 c x (by omega)
  · have s93 : S9 (q + 3) = S (q + 3) := by show wr _ (q + 1) a _ (q + 3) = _; rw [wr_ne (by omega), wr_ne (by omega), wr_ne (by omega), s63]
    rw [cpy_at, s93]
    by_cases hn : c = B 2
    · subst hn
      rw [z5] at u
      rw [if_pos (by omega), z6 i z u, ← hR.2.2.2.2.2 a (bcnt B a - m + i) h1 h2 (by omega) (by omega)]
      congr 1
      omega
    · have k := z3 c x (by omega)
      have l := bcnt_bnd hw x (show c < B 2 by omega)
      rw [k.2.1] at u
      have u2 : i < bcnt B c := by
        by_cases hc : c = a
        · subst hc; rw [if_pos rfl] at u; omega
        · rw [if_neg hc] at u; exact u
      rw [if_neg (by omega), k.2.2 i z (by omega)]
      exact hR.2.2.2.2.2 c i x (by omega) z u2
  · rw [cpy_ne k3]
    show wr _ (q + 1) a _ k = _
    rw [wr_ne k1, wr_ne k1, wr_ne k2]
    show wr _ q 2 _ k = _
    rw [wr_ne k0, wr_ne k2, wr_ne k1]
theorem C_canSplit {S T : Mem} {a m : Int} (h : Rel S T) (ha : R32 a) (hm : R32 m) : f_X1_canSplit S 5 a m = some (if (0 ≤ a ∧ a < T 1 2) ∧ 1 ≤ m ∧ m < bcnt (T 1) a then 1 else 0) := by
  have n1 := h.1.2.2.2.2.2.1
  unfold f_X1_canSplit
  rw [(Q_has h ha).1, Option.bind_some]
  by_cases hh : 0 ≤ a ∧ a < T 1 2
  · have cb := bcnt_bnd h.1 hh.1 hh.2
    have c6 : S (5 + 1) a = bcnt (T 1) a := h.2.1.2.2.2.2.1 a hh.1 hh.2
    rw [if_pos hh, if_neg e10, if_pos (show 0 ≤ a ∧ a < 9 by omega), c6]
    by_cases h1 : m < 1
    · rw [if_pos (ltb_t h1 hm.1 (by omega)), if_neg (by omega)]
    · rw [if_neg (nl (x := m) (y := 1) (by omega) (by omega) hm.2)]
      by_cases h2 : m < bcnt (T 1) a
      · rw [if_pos (ltb_t h2 hm.1 (by omega)), if_pos ⟨hh, by omega, h2⟩]
      · rw [if_neg (nl (x := m) (y := bcnt (T 1) a) (by omega) (by omega) hm.2), if_neg (by omega)]
  · rw [if_neg hh, if_pos e00, if_neg (fun z => hh z.1)]
theorem Q_splitGain {S T : Mem} {a m k : Int} (h : Rel S T) (ha : R32 a) (hm : R32 m) (hk : R32 k) : ∃ r S' T', f_X7_splitGain S a m k = some (r, S') ∧ f_X8_splitGain T a m k = some (r, T') ∧ Rel S' T' := by
  have n1 := h.1.2.2.2.2.2.1
  have n0 := h.1.2.2.2.2.1
  unfold f_X7_splitGain f_X8_splitGain
  rw [C_canSplit h ha hm, (Q_has h ha).2, Option.bind_some, Option.bind_some, C_isKind hk, M_isKind hk, Option.bind_some, Option.bind_some]
  by_cases hh : 0 ≤ a ∧ a < T 1 2
  · have cb := bcnt_bnd h.1 hh.1 hh.2
    rw [if_pos hh, if_neg e10, M_valuesOf hh.1 (by omega), Option.bind_some, M_inL hm (by decide) (by omega), Option.bind_some]
    by_cases h3 : 0 ≤ k ∧ k ≤ 3
    · rw [if_pos h3, if_neg e10]
      by_cases h2 : 1 ≤ m ∧ m < bcnt (T 1) a
      · rw [if_pos (show (0 ≤ a ∧ a < T 1 2) ∧ 1 ≤ m ∧ m < bcnt (T 1) a from ⟨hh, h2⟩), if_neg e10, if_pos (show 1 ≤ m ∧ m ≤ bcnt (T 1) a - 1 by omega), if_neg e10]
        obtain ⟨S1, s1, s2, s3⟩ := Q_now h
        obtain ⟨T1, t1, t2, t3⟩ := Q_runs s2
        obtain ⟨S2, u1, u2⟩ := C_payment (by decide) h.1 s3 hh.1 hh.2 h3.1 h3.2
        obtain ⟨T2, v1, v2⟩ := M_paysOf (by decide) h.1 t2 hh.1 hh.2 h3.1 h3.2
        have hR2 : Rel S2 T2 := t3.ag (AgC.fp (Or.inl rfl) u2) (AgM.ft v2)
        have e2 : T2 1 = T 1 := (t2.ft v2).1
        have p := Asd.put T2
        have p1 : fl T2 3 0 126 (fun j => T2 1 j) 1 = T 1 := by rw [p.1, e2]
        obtain ⟨T3, c1, c2, c3⟩ := M_parts (T := fl T2 3 0 126 (fun j => T2 1 j)) (a := a) (m := m) (by rw [p1]; exact h.1) hh.1 (by rw [p1]; exact hh.2) h2.1 (by rw [p1]; exact h2.2)
        rw [p1] at c1 c2
        have hw3 := c2.WF h.1 hh.1 hh.2 (by omega) (by omega)
        have A3 : Asd T2 T3 (T3 1) := p.row rfl c3 (fun j hj => by rw [e2]; exact c2.2.2.2.2.2.2.2 j (by omega))
        have hRB2 := hR2.2.1
        rw [e2] at hRB2
        obtain ⟨S3, a1, a2, a3⟩ := C_takeFrom (th := 19) (q := 5) (by omega) (by decide) h.1 hRB2
        obtain ⟨S4, b1, b2, b3⟩ := C_splitOff (q := 19) h.1 a2 hh.1 hh.2 h2.1 h2.2 c2
        obtain ⟨S5, d1, d2, d3⟩ := DC.of (S := S4) (α := 18) (by decide) hw3 b2
        obtain ⟨T4, f1, f2, f3⟩ := DM.of (T := T3) (by decide) hw3
        have z2 := c2.2.2.1
        obtain ⟨S6, g1, g2⟩ := C_payment (b := a) (by decide) hw3 d2 hh.1 (by omega) h3.1 h3.2
        obtain ⟨S7, g3, g4⟩ := C_payment (b := T 1 2) (by decide) hw3 (d2.fp g2) n0 (by omega) h3.1 h3.2
        obtain ⟨T5, k1, k2⟩ := M_paysOf (b := a) (by decide) hw3 f2 hh.1 (by omega) h3.1 h3.2
        obtain ⟨T6, k3, k4⟩ := M_paysOf (b := T 1 2) (by decide) hw3 (f2.ft k2) n0 (by omega) h3.1 h3.2
        obtain ⟨T7, l1, l2, _⟩ := (((A3.fr f3).ft k2).ft k4).back
        rw [s1, Option.bind_some, u1, Option.bind_some]
        dsimp only
        rw [a1, Option.bind_some, b1, Option.bind_some]
        dsimp only
        rw [d1, Option.bind_some, g1, Option.bind_some]
        dsimp only
        rw [g3, Option.bind_some, t1, Option.bind_some, v1, Option.bind_some]
        dsimp only
        rw [M_putsAside, Option.bind_some, c1, Option.bind_some]
        dsimp only
        rw [f1, Option.bind_some, k1, Option.bind_some]
        dsimp only
        rw [k3, Option.bind_some]
        dsimp only
        rw [l1, Option.bind_some]
        refine ⟨_, _, _, rfl, ?_, hR2.ag (((((AgC.fb a3).tr (AgC.fb b3)).tr (AgC.fc d3)).tr (AgC.ps g2)).tr (AgC.ps g4)) l2⟩
        rw [show pay (T 1) a k - (pay (T3 1) a k + pay (T3 1) (T 1 2) k) = pay (T 1) a k - pay (T3 1) a k - pay (T3 1) (T 1 2) k by omega, if_neg e10]
      · rw [if_neg (show ¬ ((0 ≤ a ∧ a < T 1 2) ∧ 1 ≤ m ∧ m < bcnt (T 1) a) from fun z => h2 z.2), if_pos e00, if_neg (show ¬ (1 ≤ m ∧ m ≤ bcnt (T 1) a - 1) by omega), if_pos e00, if_neg e10]
        exact ⟨_, _, _, rfl, rfl, h⟩
    · rw [if_neg h3, if_pos e00]
      by_cases h2 : 1 ≤ m ∧ m < bcnt (T 1) a
      · rw [if_pos (show (0 ≤ a ∧ a < T 1 2) ∧ 1 ≤ m ∧ m < bcnt (T 1) a from ⟨hh, h2⟩), if_neg e10]
        exact ⟨_, _, _, rfl, rfl, h⟩
      · rw [if_neg (show ¬ ((0 ≤ a ∧ a < T 1 2) ∧ 1 ≤ m ∧ m < bcnt (T 1) a) from fun z => h2 z.2), if_pos e00]
        exact ⟨_, _, _, rfl, rfl, h⟩
  · rw [if_neg hh, if_pos e00, if_neg (show ¬ ((0 ≤ a ∧ a < T 1 2) ∧ 1 ≤ m ∧ m < bcnt (T 1) a) from fun z => hh z.1), if_pos e00]
    exact ⟨_, _, _, rfl, rfl, h⟩
