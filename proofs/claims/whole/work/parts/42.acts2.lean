/-! ===== change, split, copy, shade ===== -/
theorem Q_change {S T : Mem} {a i v : Int} (h : Rel S T) (ha : R32 a) (hi : R32 i) (hv : R32 v) : ∃ r S' T', f_X7_change S a i v = some (r, S') ∧ f_X8_change T a i v = some (r, T') ∧ Rel S' T' := by
  have n1 := h.1.2.2.2.2.2.1
  unfold f_X7_change f_X8_change
  rw [(Q_hasValue h ha hi).1, (Q_hasValue h ha hi).2, Option.bind_some, Option.bind_some, C_isPrice hv, M_isPrice hv, Option.bind_some, Option.bind_some]
  by_cases hh : (0 ≤ a ∧ a < T 1 2) ∧ 0 ≤ i ∧ i < bcnt (T 1) a
  · rw [if_pos hh, if_neg e10, if_neg e10]
    obtain ⟨⟨h1, h2⟩, h3, h4⟩ := hh
    have cb := bcnt_bnd h.1 h1 h2
    have vb := bval_bnd h.1 h1 h2 h3 h4
    by_cases h5 : 0 ≤ v ∧ v ≤ 99
    · rw [if_pos h5, if_neg e10, if_neg e10, C_valueAt (q := 5) (by decide) h.1 h.2.1 h1 h2 h3 h4, M_valueAt h1 (by omega) h3 (by omega), Option.bind_some, Option.bind_some]
      by_cases h6 : v = bval (T 1) a i
      · rw [if_pos (eqb_t h6), if_pos (eqb_t h6.symm)]
        exact ⟨_, _, _, rfl, rfl, h⟩
      · rw [if_neg (nq h6 (by omega) (by omega) (by omega) (by omega)), if_neg (nq (fun z => h6 z.symm) (by omega) (by omega) (by omega) (by omega))]
        obtain ⟨S1, T1, a1, a2, a3, a4, a5, a6, a7⟩ := Q_remember h
        have t1 : T1 1 = T 1 := a6 1 (by decide) (by decide)
        have h2' : a < T1 1 2 := by rw [t1]; exact h2
        have h4' : i < bcnt (T1 1) a := by rw [t1]; exact h4
        have cb' : bcnt (T1 1) a = bcnt (T 1) a := by rw [t1]
        obtain ⟨S2, b1, b2, b3⟩ := C_dropValues (q := 5) (m := 1) (by decide) a3.1 a3.2.1 h1 h2' h3 (by decide) (by omega)
        have w2 := cut_WF (m := 1) a3.1 h1 h2' h3 (by decide) (by omega)
        have z2 := (cut_0 (B := T1 1) (b := a) (i := i) (m := 1) h1 h3).2.2
        have k2 : bcnt (cutR (T1 1) a i 1) a = bcnt (T1 1) a - 1 := by
          rw [(cut_cap (B := T1 1) (i := i) (m := 1) h1 h3 (by decide) (by omega) h1).2.1, if_pos rfl]
        obtain ⟨S3, d1, d2, d3⟩ := C_insertValue (q := 5) (by decide) w2 b2 h1 (by omega) (by omega) h5
        obtain ⟨T2, c1, c2, c3⟩ := M_drops (T := T1) (b := a) (i := i) h1 (by omega) h3 h4' (by omega)
        rw [← cut_one] at c2
        obtain ⟨T3, f1, f2, f3⟩ := M_comes (T := T2) (b := a) (v := v) (N := 8) (by decide) (by rw [c2]; exact w2) h1 (by rw [c2]; omega) (by rw [c2]; omega) h5
        rw [c2] at f2
        have w3 := comes_WF w2 h1 (by omega) (by omega) h5
        unfold f_X1_removeValue
        rw [a1, Option.bind_some, C_valueAt (q := 5) (by decide) a3.1 a3.2.1 h1 h2' h3 h4', Option.bind_some, b1, Option.bind_some, Option.bind_some, d1, Option.bind_some, a2, Option.bind_some, M_valueAt h1 (by omega) h3 (by omega), Option.bind_some, c1, Option.bind_some, f1, Option.bind_some]
        refine ⟨_, S3, T3, rfl, rfl, a3.act a4 (FrB.tr (fun k _ k1 _ k3 => b3 k k1 k3) d3) (fun k hk => (f3 k hk).trans (c3 k hk)) (by rw [f2]; exact w3) (by rw [f2]; exact d2) (fun j hj => ?_)⟩
        rw [f2]
        have pb := pos_bnd (B := cutR (T1 1) a i 1) (b := a) (v := v) (by omega)
        unfold comesR
        rw [if_neg (by omega), if_neg (by omega), if_neg (by omega)]
        unfold cutR
        rw [if_neg (by omega), if_neg (by omega)]
    · rw [if_neg h5]
      exact ⟨_, _, _, rfl, rfl, h⟩
  · rw [if_neg hh]
    exact ⟨_, _, _, rfl, rfl, h⟩
theorem Q_split {S T : Mem} {a m : Int} (h : Rel S T) (ha : R32 a) (hm : R32 m) : ∃ r S' T', f_X7_split S a m = some (r, S') ∧ f_X8_split T a m = some (r, T') ∧ Rel S' T' := by
  have n1 := h.1.2.2.2.2.2.1
  have n0 := h.1.2.2.2.2.1
  unfold f_X7_split f_X8_split
  rw [C_canSplit h ha hm, (Q_has h ha).2, Option.bind_some, Option.bind_some, show S 5 2 = T 1 2 from h.2.1.2.2.1, M_many, Option.bind_some]
  by_cases hh : 0 ≤ a ∧ a < T 1 2
  · have cb := bcnt_bnd h.1 hh.1 hh.2
    rw [if_pos hh, if_neg e10, M_valuesOf hh.1 (by omega), Option.bind_some, M_inL hm (by decide) (by omega), Option.bind_some]
    by_cases h2 : 1 ≤ m ∧ m < bcnt (T 1) a
    · rw [if_pos (show (0 ≤ a ∧ a < T 1 2) ∧ 1 ≤ m ∧ m < bcnt (T 1) a from ⟨hh, h2⟩), if_neg e10, if_pos (show 1 ≤ m ∧ m ≤ bcnt (T 1) a - 1 by omega), if_neg e10]
      by_cases h8 : T 1 2 = 8
      · rw [if_neg (nl (x := T 1 2) (y := 8) (by omega) (by omega) (by omega)), if_pos (eqb_t h8)]
        exact ⟨_, _, _, rfl, rfl, h⟩
      · rw [if_pos (ltb_t (show T 1 2 < 8 by omega) (by omega) (by omega)), if_neg (nq h8 (by omega) (by omega) (by omega) (by omega))]
        obtain ⟨S1, T1, a1, a2, a3, a4, a5, a6, a7⟩ := Q_remember h
        have t1 : T1 1 = T 1 := a6 1 (by decide) (by decide)
        obtain ⟨T2, c1, c2, c3⟩ := M_parts (T := T1) (a := a) (m := m) a3.1 hh.1 (by rw [t1]; exact hh.2) h2.1 (by rw [t1]; exact h2.2)
        obtain ⟨S2, b1, b2, b3⟩ := C_splitOff (q := 5) a3.1 a3.2.1 hh.1 (by rw [t1]; exact hh.2) h2.1 (by rw [t1]; exact h2.2) c2
        have w2 := c2.WF a3.1 hh.1 (by rw [t1]; exact hh.2) (by omega) (by rw [t1]; omega)
        have z2 := c2.2.2.1
        rw [a1, Option.bind_some, b1, Option.bind_some, a2, Option.bind_some, c1, Option.bind_some]
        refine ⟨_, S2, T2, rfl, ?_, a3.act a4 b3 c3 (w2.le (by rw [z2, t1]; omega)) b2 (fun j hj => c2.2.2.2.2.2.2.2 j (by omega))⟩
        rfl
    · rw [if_neg (show ¬ ((0 ≤ a ∧ a < T 1 2) ∧ 1 ≤ m ∧ m < bcnt (T 1) a) from fun z => h2 z.2), if_pos e00, if_neg (show ¬ (1 ≤ m ∧ m ≤ bcnt (T 1) a - 1) by omega), if_pos e00]
      exact ⟨_, _, _, rfl, rfl, h⟩
  · rw [if_neg hh, if_pos e00, if_neg (show ¬ ((0 ≤ a ∧ a < T 1 2) ∧ 1 ≤ m ∧ m < bcnt (T 1) a) from fun z => hh z.1), if_pos e00]
    exact ⟨_, _, _, rfl, rfl, h⟩
/-! one more like another -/
def copR (B : Int → Int) (a : Int) : Int → Int := fun j => if j = 2 then B 2 + 1 else if 3 + 10 * B 2 ≤ j ∧ j < 3 + 10 * B 2 + 10 then B (j + 10 * (a - B 2)) else B j
theorem copR_eq {B : Int → Int} {a : Int} (h0 : 0 ≤ B 2) : copR B a 0 = B 0 ∧ copR B a 1 = B 1 ∧ copR B a 2 = B 2 + 1 ∧ (∀ c, 0 ≤ c → c < B 2 + 1 → bcap (copR B a) c = bcap B (if c = B 2 then a else c) ∧ bcnt (copR B a) c = bcnt B (if c = B 2 then a else c) ∧ ∀ i, 0 ≤ i → i < 8 → bval (copR B a) c i = bval B (if c = B 2 then a else c) i) ∧ ∀ j, (j < 0 ∨ 3 + 10 * B 2 + 10 ≤ j) → copR B a j = B j := by
  unfold bcap bcnt bval copR
  refine ⟨?_, ?_, ?_, fun c c0 c1 => ?_, fun j hj => ?_⟩
  · rw [if_neg (by decide), if_neg (by omega)]
  · rw [if_neg (by decide), if_neg (by omega)]
  · rw [if_pos rfl]
  · by_cases hn : c = B 2
    · rw [if_pos hn]
      refine ⟨?_, ?_, fun i i0 i1 => ?_⟩
      · rw [if_neg (by omega), if_pos (by omega), show 3 + 10 * c + 10 * (a - B 2) = 3 + 10 * a by omega]
      · rw [if_neg (by omega), if_pos (by omega), show 3 + 10 * c + 1 + 10 * (a - B 2) = 3 + 10 * a + 1 by omega]
      · rw [if_neg (by omega), if_pos (by omega), show 3 + 10 * c + 2 + i + 10 * (a - B 2) = 3 + 10 * a + 2 + i by omega]
    · rw [if_neg hn]
      refine ⟨?_, ?_, fun i i0 i1 => ?_⟩ <;> rw [if_neg (by omega), if_neg (by omega)]
  · rw [if_neg (by omega), if_neg (by omega)]
theorem copR_WF {B : Int → Int} {a : Int} (hw : WF 8 B) (h1 : 0 ≤ a) (h2 : a < B 2) : WF 9 (copR B a) := by
  obtain ⟨a0, a1, a2, a3, a4, a5, a6, a7, a8⟩ := hw
  obtain ⟨z0, z1, z2, z3, _⟩ := copR_eq (a := a) a4
  have who : ∀ c, 0 ≤ c → c < B 2 + 1 → 0 ≤ (if c = B 2 then a else c) ∧ (if c = B 2 then a else c) < B 2 := fun c x y => by split <;> omega
  refine ⟨by omega, by omega, by omega, by omega, by omega, by omega, fun c x y => ?_, fun c i x y z u => ?_, fun c i x y z u => ?_⟩
  · have k := z3 c x (by omega)
    have o := who c x (by omega)
    rw [k.1, k.2.1]
    exact a6 _ o.1 o.2
  · have k := z3 c x (by omega)
    have o := who c x (by omega)
    have l := a6 _ o.1 o.2
    rw [k.2.1] at u
    rw [k.2.2 i z (by omega)]
    exact a7 _ i o.1 o.2 z u
  · have k := z3 c x (by omega)
    have o := who c x (by omega)
    have l := a6 _ o.1 o.2
    rw [k.2.1] at u
    rw [k.2.2 i z (by omega), k.2.2 (i + 1) (by omega) (by omega)]
    exact a8 _ i o.1 o.2 z u
theorem C_copy {B : Int → Int} {S : Mem} {q : Nat} {a : Int} (hw : WF 8 B) (hR : RB S q B) (h1 : 0 ≤ a) (h2 : a < B 2) : ∃ S1 S', f_X1_addBidder S q = some (B 2, S1) ∧ f_X1_setLike S1 q (B 2) q a = some S' ∧ RB S' q (copR B a) ∧ FrB S S' q := by
  have n1 := hw.2.2.2.2.2.1
  have n0 := hw.2.2.2.2.1
  obtain ⟨S1, b1, b2, b3⟩ := C_addBidder hw hR
  obtain ⟨S2, c1, c2, c3, c4, c5⟩ := C_setLike (S := S1) (th := q) (q := q) (a := B 2) (c := a) (Or.inl rfl) n0 (by omega) h1 (by omega)
  obtain ⟨z0, z1, z2, z3, z4, z5, _⟩ := addR_eq (B := B) (cap := 8) n0
  obtain ⟨y0, y1, y2, y3, _⟩ := copR_eq (a := a) n0
  have lo : ∀ c, 0 ≤ c → c < B 2 → S1 (q + 1) c = bcnt B c ∧ S1 (q + 2) c = bcap B c ∧ ∀ i, 0 ≤ i → i < bcnt B c → S1 (q + 3) (c * 8 + i) = bval B c i := fun c x y => by
    have k := z5 c x y
    have l := bcnt_bnd hw x y
    refine ⟨by rw [b2.2.2.2.2.1 c x (by omega)]; exact k.2.1, by rw [b2.2.2.2.1 c x (by omega)]; exact k.1, fun i i0 i1 => ?_⟩
    rw [b2.2.2.2.2.2 c i x (by omega) i0 (by rw [k.2.1]; exact i1)]
    exact k.2.2 i i0 (by omega)
  have la := lo a h1 h2
  have ca := bcnt_bnd hw h1 h2
  refine ⟨S1, S2, b1, c1, ⟨?_, ?_, ?_, fun c x y => ?_, fun c x y => ?_, fun c i x y z u => ?_⟩, b3.tr (fun k _ k1 k2 k3 => c2 k k1 k2 k3)⟩
  · rw [c2 q (by omega) (by omega) (by omega), y0, ← z0]; exact b2.1
  · rw [c2 q (by omega) (by omega) (by omega), y1, ← z1]; exact b2.2.1
  · rw [c2 q (by omega) (by omega) (by omega), y2, ← z2]; exact b2.2.2.1
  · rw [c4, (y3 c x (by omega)).1]
    by_cases hn : c = B 2
    · rw [if_pos hn, if_pos hn]; exact la.2.1
    · rw [if_neg hn, if_neg hn]; exact (lo c x (by omega)).2.1
  · rw [c3, (y3 c x (by omega)).2.1]
    by_cases hn : c = B 2
    · rw [if_pos hn, if_pos hn]; exact la.1
    · rw [if_neg hn, if_neg hn]; exact (lo c x (by omega)).1
  · have k := y3 c x (by omega)
    rw [k.2.1] at u
    by_cases hn : c = B 2
    · rw [if_pos hn] at u k
      rw [k.2.2 i z (by omega), c5, if_pos (by omega), ← la.2.2 i z u]
      congr 1
      omega
    · rw [if_neg hn] at u k
      have l := bcnt_bnd hw x (show c < B 2 by omega)
      rw [k.2.2 i z (by omega), c5, if_neg (by omega)]
      exact (lo c x (by omega)).2.2 i z u
theorem Q_copy {S T : Mem} {a : Int} (h : Rel S T) (ha : R32 a) : ∃ r S' T', f_X7_copy S a = some (r, S') ∧ f_X8_copy T a = some (r, T') ∧ Rel S' T' := by
  have n1 := h.1.2.2.2.2.2.1
  have n0 := h.1.2.2.2.2.1
  unfold f_X7_copy f_X8_copy
  rw [(Q_has h ha).1, (Q_has h ha).2, Option.bind_some, Option.bind_some, M_many, Option.bind_some, show S 5 2 = T 1 2 from h.2.1.2.2.1]
  by_cases hh : 0 ≤ a ∧ a < T 1 2
  · rw [if_pos hh, if_neg e10, if_neg e10]
    by_cases h8 : T 1 2 = 8
    · rw [if_neg (nl (x := T 1 2) (y := 8) (by omega) (by omega) (by omega)), if_pos (eqb_t h8)]
      exact ⟨_, _, _, rfl, rfl, h⟩
    · rw [if_pos (ltb_t (show T 1 2 < 8 by omega) (by omega) (by omega)), if_neg (nq h8 (by omega) (by omega) (by omega) (by omega))]
      obtain ⟨S1, T1, a1, a2, a3, a4, a5, a6, a7⟩ := Q_remember h
      have t1 : T1 1 = T 1 := a6 1 (by decide) (by decide)
      obtain ⟨S2, S3, b1, b2, b3, b4⟩ := C_copy a3.1 a3.2.1 hh.1 (by rw [t1]; exact hh.2)
      obtain ⟨y0, y1, y2, y3, y4⟩ := copR_eq (B := T1 1) (a := a) a3.1.2.2.2.2.1
      have er : wr (fl T1 1 (3 + 10 * T 1 2) 10 (fun j => T1 1 (j + 10 * (a - T 1 2)))) 1 2 (T 1 2 + 1) 1 = copR (T1 1) a := by
        rw [wr_row, fl_row, t1]
        funext j
        unfold wrR copR
        dsimp only
        by_cases hj : j = 2
        · rw [if_pos hj, if_pos hj]
        · rw [if_neg hj, if_neg hj]
          by_cases hj3 : 3 + 10 * T 1 2 ≤ j ∧ j < 3 + 10 * T 1 2 + 10
          · rw [if_pos (by omega), if_pos hj3]
          · rw [if_neg (by omega), if_neg hj3]
      have e2 : fl T1 1 (3 + 10 * T 1 2) 10 (fun j => T1 1 (j + 10 * (a - T 1 2))) 1 2 = T 1 2 := by rw [fl_out (by omega), t1]
      rw [t1] at b1 b2
      rw [a1, Option.bind_some, b1, Option.bind_some]
      dsimp only
      rw [b2, Option.bind_some, a2, Option.bind_some, M_many, Option.bind_some, t1, M_lays (by omega) (by omega) (by omega), Option.bind_some, if_pos (show (0 : Int) ≤ 2 ∧ (2 : Int) < 126 by decide)]
      dsimp only [wrk]
      rw [e2, M_many, er, Option.bind_some, y2, t1, show T 1 2 + 1 - 1 = T 1 2 by omega]
      refine ⟨_, S3, wr (fl T1 1 (3 + 10 * T 1 2) 10 (fun j => T1 1 (j + 10 * (a - T 1 2)))) 1 2 (T 1 2 + 1), rfl, by rw [t1], a3.act a4 b4 (fun k hk => by rw [wr_ne hk, fl_ne hk]) ?_ (by rw [er]; exact b3) (fun j hj => ?_)⟩
      · rw [er]
        exact (copR_WF a3.1 hh.1 (by rw [t1]; exact hh.2)).le (by rw [y2, t1]; omega)
      · rw [er]
        exact y4 j (by rw [t1]; omega)
  · rw [if_neg hh]
    exact ⟨_, _, _, rfl, rfl, h⟩
/-! all values of one moved -/
theorem chg_bnd {B : Int → Int} {b d : Int} (n : Nat) : 0 ≤ chg B b d n ∧ chg B b d n ≤ n := by
  have := sumN_bnd (g := fun i => if cla (bval B b i + d) = bval B b i then 0 else 1) (lo := 0) (hi := 1) n (fun i hi => by split <;> omega)
  unfold chg
  omega
theorem C_changedBy {B : Int → Int} {S : Mem} {q : Nat} {b d : Int} (hw : WF 8 B) (hR : RB S q B) (h1 : 0 ≤ b) (h2 : b < B 2) (hd : -1000 ≤ d ∧ d ≤ 1000) : f_X1_changedBy S q b d = some (chg B b d (bcnt B b).toNat) := by
  have n1 := hw.2.2.2.2.2.1
  have cb := bcnt_bnd hw h1 h2
  unfold f_X1_changedBy
  rw [lp_sum (fun i => if cla (bval B b i + d) = bval B b i then 0 else 1) (bcnt B b).toNat (fun x i hi => by
    have vb := bval_bnd hw (i := i) h1 h2 (by omega) (by omega)
    have cl := cla_bnd (bval B b i + d)
    unfold f_X1_changedBy_l5
    dsimp only
    rw [if_pos (by omega), hR.2.2.2.2.1 b h1 h2, if_pos (ltb_t (by omega) (by omega) (by omega)), C_valueAt (by decide) hw hR h1 h2 (by omega) (by omega), Option.bind_some, C_shifted (by omega) hd, Option.bind_some, Option.bind_some]
    by_cases hq : cla (bval B b i + d) = bval B b i
    · rw [if_pos (eqb_t hq), if_pos hq, Int.add_zero]
      rfl
    · rw [if_neg (nq hq (by omega) (by omega) (by omega) (by omega)), if_neg hq]
      rfl) (fun x => by
    unfold f_X1_changedBy_l5
    dsimp only
    rw [if_pos (by omega), hR.2.2.2.2.1 b h1 h2, if_neg (nl (by omega) (by omega) (by omega))]) (by omega)]
  rfl
theorem M_changedBy {T : Mem} {b d : Int} (hw : WF 8 (T 1)) (h1 : 0 ≤ b) (h2 : b < T 1 2) (hd : -1000 ≤ d ∧ d ≤ 1000) : lp (f_X8_shade_l26 T b d) FU (0, 0) = some (chg (T 1) b d (bcnt (T 1) b).toNat) := by
  have n1 := hw.2.2.2.2.2.1
  have cb := bcnt_bnd hw h1 h2
  rw [lp_sum (fun i => if cla (bval (T 1) b i + d) = bval (T 1) b i then 0 else 1) (bcnt (T 1) b).toNat (fun x i hi => by
    have vb := bval_bnd hw (i := i) h1 h2 (by omega) (by omega)
    have cl := cla_bnd (bval (T 1) b i + d)
    unfold f_X8_shade_l26
    dsimp only
    rw [M_valuesOf h1 (by omega), Option.bind_some, if_pos (ltb_t (by omega) (by omega) (by omega)), M_valueAt h1 (by omega) (by omega) (by omega), Option.bind_some, M_held (by omega), Option.bind_some, Option.bind_some]
    by_cases hq : cla (bval (T 1) b i + d) = bval (T 1) b i
    · rw [if_pos (eqb_t hq), if_pos hq, Int.add_zero]
      rfl
    · rw [if_neg (nq hq (by omega) (by omega) (by omega) (by omega)), if_neg hq]
      rfl) (fun x => by
    unfold f_X8_shade_l26
    dsimp only
    rw [M_valuesOf h1 (by omega), Option.bind_some, if_neg (nl (by omega) (by omega) (by omega))]) (by omega)]
  rfl
theorem Q_shade {S T : Mem} {a d : Int} (h : Rel S T) (ha : R32 a) (hd : R32 d) : ∃ r S' T', f_X7_shade S a d = some (r, S') ∧ f_X8_shade T a d = some (r, T') ∧ Rel S' T' := by
  have n1 := h.1.2.2.2.2.2.1
  unfold f_X7_shade f_X8_shade
  rw [(Q_has h ha).1, (Q_has h ha).2, Option.bind_some, Option.bind_some, M_inL hd (by decide) (by decide), Option.bind_some]
  by_cases hh : 0 ≤ a ∧ a < T 1 2
  · have cb := bcnt_bnd h.1 hh.1 hh.2
    rw [if_pos hh, if_neg e10, if_neg e10]
    by_cases h1 : 99 < d
    · rw [if_pos (ltb_t h1 (by omega) hd.2), if_neg (show ¬ (-99 ≤ d ∧ d ≤ 99) by omega), if_pos e00]
      exact ⟨_, _, _, rfl, rfl, h⟩
    · rw [if_neg (nl (x := 99) (y := d) (by omega) hd.1 (by omega))]
      by_cases h2 : d < -99
      · rw [if_pos (ltb_t h2 hd.1 (by omega)), if_neg (show ¬ (-99 ≤ d ∧ d ≤ 99) by omega), if_pos e00]
        exact ⟨_, _, _, rfl, rfl, h⟩
      · have hd2 : -1000 ≤ d ∧ d ≤ 1000 := by omega
        rw [if_neg (nl (x := d) (y := -99) (by omega) (by omega) hd.2), if_pos (show -99 ≤ d ∧ d ≤ 99 by omega), if_neg e10, C_changedBy h.1 h.2.1 hh.1 hh.2 hd2, M_changedBy h.1 hh.1 hh.2 hd2, Option.bind_some, Option.bind_some]
        have gb := chg_bnd (B := T 1) (b := a) (d := d) (bcnt (T 1) a).toNat
        by_cases h3 : chg (T 1) a d (bcnt (T 1) a).toNat = 0
        · rw [if_pos (eqb_t h3), if_pos (eqb_t h3)]
          exact ⟨_, _, _, rfl, rfl, h⟩
        · have q := nq h3 (by omega) (by omega) (by omega) (by omega)
          rw [if_neg q, if_neg q]
          obtain ⟨S1, T1, a1, a2, a3, a4, a5, a6, a7⟩ := Q_remember h
          have t1 : T1 1 = T 1 := a6 1 (by decide) (by decide)
          obtain ⟨S2, b1, b2, b3⟩ := C_shift (q := 5) (d := d) (by decide) a3.1 a3.2.1 hh.1 (by rw [t1]; exact hh.2) hd2
          obtain ⟨T2, c1, c2, c3⟩ := M_shades (T := T1) (b := a) (d := d) (by decide) a3.1 hh.1 (by rw [t1]; exact hh.2) hd2
          rw [a1, Option.bind_some, b1, Option.bind_some, a2, Option.bind_some, c1, Option.bind_some, t1]
          refine ⟨_, S2, T2, rfl, rfl, a3.act a4 b3 c3 (by rw [c2]; exact movR_WF a3.1 hh.1 (by rw [t1]; exact hh.2)) (by rw [c2]; exact b2) (fun j hj => ?_)⟩
          rw [c2]
          have ct : bcnt (T1 1) a = bcnt (T 1) a := by rw [t1]
          unfold movR
          rw [if_neg (by omega)]
  · rw [if_neg hh]
    exact ⟨_, _, _, rfl, rfl, h⟩
