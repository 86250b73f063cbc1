/-! ===== the acts ===== -/
theorem Rel.act {S T S2 T2 : Mem} (h : Rel S T) (st : S 0 9 = 1) (f : FrB S S2 5) (g : Fr1 T T2) (w : WF 8 (T2 1)) (r : RB S2 5 (T2 1)) (k : ∀ j, 93 ≤ j → T2 1 j = T 1 j) : Rel S2 T2 := by
  obtain ⟨a1, a2, a3, a4, a5, a6, a7⟩ := h
  have fc : ∀ k : Nat, (k = 0 ∨ k = 2 ∨ k = 3 ∨ 32 ≤ k) → S2 k = S k := fun k hk => f k (by omega) (by omega) (by omega) (by omega)
  refine ⟨w, r, Or.inr (by rw [fc 0 (by omega)]; exact st), ?_, ?_, ?_, ?_⟩
  · rw [fc 33 (by omega), fc 32 (by omega)]
    obtain ⟨l0, l1, l2, l3⟩ := a4
    refine ⟨by rw [k 93 (by decide)]; exact l0, l1, l2, fun x j x0 x1 j0 j1 => ?_⟩
    rw [k _ (by omega)]
    exact l3 x j x0 x1 j0 j1
  · unfold RH
    rw [fc 34 (by omega), fc 35 (by omega), g 0 (by decide), g 4 (by decide)]
    exact a5
  · unfold RT
    rw [fc 2 (by omega), fc 3 (by omega), g 0 (by decide), g 12 (by decide)]
    exact a6
  · unfold RW
    rw [g 13 (by decide)]
    exact a7
theorem WF.le {N M : Int} {B : Int → Int} (h : WF N B) (hm : B 2 ≤ M) : WF M B := ⟨h.1, h.2.1, h.2.2.1, h.2.2.2.1, h.2.2.2.2.1, hm, h.2.2.2.2.2.2⟩
theorem C_addBidder {B : Int → Int} {S : Mem} {q : Nat} (hw : WF 8 B) (hR : RB S q B) : ∃ S', f_X1_addBidder S q = some (B 2, S') ∧ RB S' q (addR B 8) ∧ FrB S S' q := by
  have n1 := hw.2.2.2.2.2.1
  have n0 := hw.2.2.2.2.1
  obtain ⟨z0, z1, z2, z3, z4, z5, z6⟩ := addR_eq (B := B) (cap := 8) n0
  refine ⟨wr (wr (wr S (q + 1) (B 2) 0) (q + 2) (B 2) 8) q 2 (B 2 + 1), ?_, ⟨?_, ?_, ?_, fun c x y => ?_, fun c x y => ?_, fun c i x y z u => ?_⟩, fun k k0 k1 k2 k3 => by rw [wr_ne k0, wr_ne k2, wr_ne k1]⟩
  · unfold f_X1_addBidder
    rw [hR.2.2.1, if_pos (by omega)]
    dsimp only [wrk]
    rw [wr_cell (k := q) (by omega), wr_cell (k := q) (by omega), hR.2.2.1]
  · rw [wr_idx (by decide), wr_cell (by omega), wr_cell (by omega), z0]; exact hR.1
  · rw [wr_idx (by decide), wr_cell (by omega), wr_cell (by omega), z1]; exact hR.2.1
  · rw [wr_eq, z2]
  · rw [wr_cell (by omega), wr_at]
    by_cases hn : c = B 2
    · rw [if_pos hn, hn, z3]
    · rw [if_neg hn, wr_cell (by omega), (z5 c x (by omega)).1]
      exact hR.2.2.2.1 c x (by omega)
  · rw [wr_cell (by omega), wr_cell (by omega), wr_at]
    by_cases hn : c = B 2
    · rw [if_pos hn, hn, z4]
    · rw [if_neg hn, (z5 c x (by omega)).2.1]
      exact hR.2.2.2.2.1 c x (by omega)
  · by_cases hn : c = B 2
    · subst hn; omega
    · have k := bcnt_bnd hw x (show c < B 2 by omega)
      rw [(z5 c x (by omega)).2.1] at u
      rw [wr_cell (by omega), wr_cell (by omega), wr_cell (by omega), (z5 c x (by omega)).2.2 i z (by omega)]
      exact hR.2.2.2.2.2 c i x (by omega) z u
theorem Q_join {S T : Mem} (h : Rel S T) : ∃ r S' T', f_X7_join S = some (r, S') ∧ f_X8_join T = some (r, T') ∧ Rel S' T' := by
  have n1 := h.1.2.2.2.2.2.1
  have n0 := h.1.2.2.2.2.1
  unfold f_X7_join f_X8_join
  rw [M_many, Option.bind_some, show S 5 2 = T 1 2 from h.2.1.2.2.1]
  by_cases h8 : T 1 2 = 8
  · rw [if_neg (nl (x := T 1 2) (y := 8) (by omega) (by omega) (by omega)), if_pos (eqb_t h8)]
    exact ⟨_, _, _, rfl, rfl, h⟩
  · rw [if_pos (ltb_t (show T 1 2 < 8 by omega) (by omega) (by omega)), if_neg (nq h8 (by omega) (by omega) (by omega) (by omega))]
    obtain ⟨S1, T1, a1, a2, a3, a4, a5, a6, a7⟩ := Q_remember h
    have t1 : T1 1 = T 1 := a6 1 (by decide) (by decide)
    obtain ⟨S2, b1, b2, b3⟩ := C_addBidder a3.1 a3.2.1
    obtain ⟨T2, c1, c2, c3⟩ := M_addsOne (T := T1) (cap := 8) a3.1.2.2.2.2.1 a3.1.2.2.2.2.2.1
    rw [t1] at b1 c1
    obtain ⟨z0, z1, z2, z3, z4, z5, z6⟩ := addR_eq (B := T1 1) (cap := 8) a3.1.2.2.2.2.1
    rw [a1, Option.bind_some, b1, Option.bind_some, a2, Option.bind_some, c1, Option.bind_some]
    refine ⟨_, S2, T2, rfl, rfl, a3.act a4 b3 c3 ?_ (by rw [c2]; exact b2) (fun j hj => ?_)⟩
    · rw [c2]
      exact (addR_WF a3.1 (by decide)).le (by rw [z2, t1]; omega)
    · rw [c2]
      exact z6 j (by rw [t1]; omega)
theorem Q_leave {S T : Mem} {a : Int} (h : Rel S T) (ha : R32 a) : ∃ r S' T', f_X7_leave S a = some (r, S') ∧ f_X8_leave T a = some (r, T') ∧ Rel S' T' := by
  have n1 := h.1.2.2.2.2.2.1
  unfold f_X7_leave f_X8_leave
  rw [(Q_has h ha).1, (Q_has h ha).2, Option.bind_some, Option.bind_some]
  by_cases hh : 0 ≤ a ∧ a < T 1 2
  · rw [if_pos hh, if_neg e10, if_neg e10]
    obtain ⟨S1, T1, a1, a2, a3, a4, a5, a6, a7⟩ := Q_remember h
    have t1 : T1 1 = T 1 := a6 1 (by decide) (by decide)
    obtain ⟨S2, b1, b2, b3⟩ := C_removeBidder (q := 5) (by decide) a3.1 a3.2.1 hh.1 (by rw [t1]; exact hh.2)
    obtain ⟨T2, c1, c2, c3⟩ := M_goes (T := T1) (a := a) (by rw [t1]; omega) hh.1 (by rw [t1]; exact hh.2)
    rw [a1, Option.bind_some, b1, Option.bind_some, a2, Option.bind_some, c1, Option.bind_some]
    refine ⟨_, S2, T2, rfl, rfl, a3.act a4 b3 c3 ?_ (by rw [c2]; exact b2) (fun j hj => ?_)⟩
    · rw [c2]
      exact goes_WF a3.1 hh.1 (by rw [t1]; exact hh.2)
    · rw [c2, t1]
      unfold goesR
      rw [if_neg (by omega), if_neg (by omega)]
  · rw [if_neg hh]
    exact ⟨_, _, _, rfl, rfl, h⟩
theorem Q_value {S T : Mem} {a v : Int} (h : Rel S T) (ha : R32 a) (hv : R32 v) : ∃ r S' T', f_X7_value S a v = some (r, S') ∧ f_X8_value T a v = some (r, T') ∧ Rel S' T' := by
  have n1 := h.1.2.2.2.2.2.1
  unfold f_X7_value f_X8_value
  rw [(Q_has h ha).1, (Q_has h ha).2, Option.bind_some, Option.bind_some, C_isPrice hv, M_isPrice hv, Option.bind_some, Option.bind_some]
  by_cases hh : 0 ≤ a ∧ a < T 1 2
  · have cb := bcnt_bnd h.1 hh.1 hh.2
    rw [if_pos hh, if_neg e10, if_neg e10]
    by_cases h3 : 0 ≤ v ∧ v ≤ 99
    · rw [if_pos h3, if_neg e10, if_neg e10, M_valuesOf hh.1 (by omega), Option.bind_some, if_pos (show 0 ≤ a ∧ a < 9 by omega), show S 6 a = bcnt (T 1) a from h.2.1.2.2.2.2.1 a hh.1 hh.2]
      by_cases h8 : bcnt (T 1) a = 8
      · rw [if_neg (nl (x := bcnt (T 1) a) (y := 8) (by omega) (by omega) (by omega)), if_pos (eqb_t h8)]
        exact ⟨_, _, _, rfl, rfl, h⟩
      · rw [if_pos (ltb_t (show bcnt (T 1) a < 8 by omega) (by omega) (by omega)), if_neg (nq h8 (by omega) (by omega) (by omega) (by omega))]
        obtain ⟨S1, T1, a1, a2, a3, a4, a5, a6, a7⟩ := Q_remember h
        have t1 : T1 1 = T 1 := a6 1 (by decide) (by decide)
        obtain ⟨S2, b1, b2, b3⟩ := C_insertValue (q := 5) (by decide) a3.1 a3.2.1 hh.1 (by rw [t1]; exact hh.2) (by rw [t1]; omega) h3
        obtain ⟨T2, c1, c2, c3⟩ := M_comes (T := T1) (b := a) (v := v) (by decide) a3.1 hh.1 (by rw [t1]; exact hh.2) (by rw [t1]; omega) h3
        have w2 := comes_WF a3.1 hh.1 (by rw [t1]; exact hh.2) (by rw [t1]; omega) h3
        have z2 := (comes_0 (B := T1 1) (v := v) hh.1 (by rw [t1]; omega)).2.2
        rw [a1, Option.bind_some, b1, Option.bind_some, a2, Option.bind_some, c1, Option.bind_some, M_valuesOf hh.1 (by omega), Option.bind_some, c2, show S2 6 a = bcnt (comesR (T1 1) a v) a from b2.2.2.2.2.1 a hh.1 (by rw [z2, t1]; exact hh.2)]
        refine ⟨_, S2, T2, rfl, rfl, a3.act a4 b3 c3 (by rw [c2]; exact w2) (by rw [c2]; exact b2) (fun j hj => ?_)⟩
        rw [c2]
        have pb := pos_bnd (B := T1 1) (b := a) (v := v) (by rw [t1]; omega)
        have ct : bcnt (T1 1) a = bcnt (T 1) a := by rw [t1]
        unfold comesR
        rw [if_neg (by omega), if_neg (by omega), if_neg (by omega)]
    · rw [if_neg h3]
      exact ⟨_, _, _, rfl, rfl, h⟩
  · rw [if_neg hh]
    exact ⟨_, _, _, rfl, rfl, h⟩
theorem Q_hasValue {S T : Mem} {a i : Int} (h : Rel S T) (ha : R32 a) (hi : R32 i) : f_X1_hasValue S 5 a i = some (if (0 ≤ a ∧ a < T 1 2) ∧ 0 ≤ i ∧ i < bcnt (T 1) a then 1 else 0) ∧ f_X8_isValue T a i = some (if (0 ≤ a ∧ a < T 1 2) ∧ 0 ≤ i ∧ i < bcnt (T 1) a then 1 else 0) := by
  have n1 := h.1.2.2.2.2.2.1
  unfold f_X1_hasValue f_X8_isValue
  rw [(Q_has h ha).1, (Q_has h ha).2, Option.bind_some, Option.bind_some]
  by_cases hh : 0 ≤ a ∧ a < T 1 2
  · have cb := bcnt_bnd h.1 hh.1 hh.2
    have c6 : S (5 + 1) a = bcnt (T 1) a := h.2.1.2.2.2.2.1 a hh.1 hh.2
    rw [if_pos hh, if_neg e10, if_neg e10, if_pos (show 0 ≤ a ∧ a < 9 by omega), c6, M_valuesOf hh.1 (by omega), Option.bind_some, M_inL hi (by decide) (by omega), Option.bind_some]
    by_cases h1 : i < 0
    · rw [if_pos (ltb_t h1 hi.1 (by omega)), if_neg (show ¬ ((0 ≤ a ∧ a < T 1 2) ∧ 0 ≤ i ∧ i < bcnt (T 1) a) by omega), if_neg (show ¬ (0 ≤ i ∧ i ≤ bcnt (T 1) a - 1) by omega), if_pos e00]
      exact ⟨rfl, rfl⟩
    · rw [if_neg (nl (x := i) (y := 0) (by omega) (by omega) hi.2)]
      by_cases h2 : i < bcnt (T 1) a
      · rw [if_pos (ltb_t h2 hi.1 (by omega)), if_pos (show (0 ≤ a ∧ a < T 1 2) ∧ 0 ≤ i ∧ i < bcnt (T 1) a by omega), if_pos (show 0 ≤ i ∧ i ≤ bcnt (T 1) a - 1 by omega), if_neg e10]
        exact ⟨rfl, rfl⟩
      · rw [if_neg (nl (x := i) (y := bcnt (T 1) a) (by omega) (by omega) hi.2), if_neg (show ¬ ((0 ≤ a ∧ a < T 1 2) ∧ 0 ≤ i ∧ i < bcnt (T 1) a) by omega), if_neg (show ¬ (0 ≤ i ∧ i ≤ bcnt (T 1) a - 1) by omega), if_pos e00]
        exact ⟨rfl, rfl⟩
  · rw [if_neg hh, if_pos e00, if_neg (show ¬ ((0 ≤ a ∧ a < T 1 2) ∧ 0 ≤ i ∧ i < bcnt (T 1) a) from fun z => hh z.1), if_pos e00]
    exact ⟨rfl, rfl⟩
theorem Q_without {S T : Mem} {a i : Int} (h : Rel S T) (ha : R32 a) (hi : R32 i) : ∃ r S' T', f_X7_without S a i = some (r, S') ∧ f_X8_without T a i = some (r, T') ∧ Rel S' T' := by
  have n1 := h.1.2.2.2.2.2.1
  unfold f_X7_without f_X8_without
  rw [(Q_hasValue h ha hi).1, (Q_hasValue h ha hi).2, Option.bind_some, Option.bind_some]
  by_cases hh : (0 ≤ a ∧ a < T 1 2) ∧ 0 ≤ i ∧ i < bcnt (T 1) a
  · rw [if_pos hh, if_neg e10, if_neg e10]
    obtain ⟨⟨h1, h2⟩, h3, h4⟩ := hh
    have cb := bcnt_bnd h.1 h1 h2
    obtain ⟨S1, T1, a1, a2, a3, a4, a5, a6, a7⟩ := Q_remember h
    have t1 : T1 1 = T 1 := a6 1 (by decide) (by decide)
    obtain ⟨S2, b1, b2, b3⟩ := C_dropValues (q := 5) (m := 1) (by decide) a3.1 a3.2.1 h1 (by rw [t1]; exact h2) h3 (by decide) (by rw [t1]; omega)
    obtain ⟨T2, c1, c2, c3⟩ := M_drops (T := T1) (b := a) (i := i) h1 (by omega) h3 (by rw [t1]; exact h4) (by rw [t1]; omega)
    rw [← cut_one] at c2
    have z2 := (cut_0 (B := T1 1) (b := a) (i := i) (m := 1) h1 h3).2.2
    unfold f_X1_removeValue
    rw [a1, Option.bind_some, b1, Option.bind_some, Option.bind_some, if_pos (show 0 ≤ a ∧ a < 9 by omega), a2, Option.bind_some, c1, Option.bind_some, M_valuesOf h1 (by omega), Option.bind_some, c2, show S2 6 a = bcnt (cutR (T1 1) a i 1) a from b2.2.2.2.2.1 a h1 (by rw [z2, t1]; exact h2)]
    refine ⟨_, S2, T2, rfl, rfl, a3.act a4 (fun k _ k1 _ k3 => b3 k k1 k3) c3 (by rw [c2]; exact cut_WF a3.1 h1 (by rw [t1]; exact h2) h3 (by decide) (by rw [t1]; omega)) (by rw [c2]; exact b2) (fun j hj => ?_)⟩
    rw [c2]
    have ct : bcnt (T1 1) a = bcnt (T 1) a := by rw [t1]
    unfold cutR
    rw [if_neg (by omega), if_neg (by omega)]
  · rw [if_neg hh]
    exact ⟨_, _, _, rfl, rfl, h⟩
theorem Q_cap {S T : Mem} {a x : Int} (h : Rel S T) (ha : R32 a) (hx : R32 x) : ∃ r S' T', f_X7_cap S a x = some (r, S') ∧ f_X8_cap T a x = some (r, T') ∧ Rel S' T' := by
  have n1 := h.1.2.2.2.2.2.1
  unfold f_X7_cap f_X8_cap
  rw [(Q_has h ha).1, (Q_has h ha).2, Option.bind_some, Option.bind_some, M_inL hx (by decide) (by decide), Option.bind_some]
  by_cases hh : 0 ≤ a ∧ a < T 1 2
  · have cb := bcnt_bnd h.1 hh.1 hh.2
    rw [if_pos hh, if_neg e10, if_neg e10, if_pos (show 0 ≤ a ∧ a < 9 by omega), show S 7 a = bcap (T 1) a from h.2.1.2.2.2.1 a hh.1 hh.2, M_capOf hh.1 (by omega), Option.bind_some]
    by_cases h1 : x < 0
    · rw [if_pos (ltb_t h1 hx.1 (by omega)), if_neg (show ¬ (0 ≤ x ∧ x ≤ 8) by omega), if_pos e00]
      exact ⟨_, _, _, rfl, rfl, h⟩
    · rw [if_neg (nl (x := x) (y := 0) (by omega) (by omega) hx.2)]
      by_cases h2 : 8 < x
      · rw [if_pos (ltb_t h2 (by omega) hx.2), if_neg (show ¬ (0 ≤ x ∧ x ≤ 8) by omega), if_pos e00]
        exact ⟨_, _, _, rfl, rfl, h⟩
      · rw [if_neg (nl (x := 8) (y := x) (by omega) (by omega) (by omega)), if_pos (show 0 ≤ x ∧ x ≤ 8 by omega), if_neg e10]
        by_cases h3 : x = bcap (T 1) a
        · rw [if_pos (eqb_t h3), if_pos (eqb_t h3.symm)]
          exact ⟨_, _, _, rfl, rfl, h⟩
        · rw [if_neg (nq h3 (by omega) (by omega) (by omega) (by omega)), if_neg (nq (fun z => h3 z.symm) (by omega) (by omega) (by omega) (by omega))]
          obtain ⟨S1, T1, a1, a2, a3, a4, a5, a6, a7⟩ := Q_remember h
          have t1 : T1 1 = T 1 := a6 1 (by decide) (by decide)
          unfold f_X8_becomes
          rw [a1, Option.bind_some, a2, Option.bind_some, if_pos (by omega), show S1 7 a = bcap (T1 1) a from a3.2.1.2.2.2.1 a hh.1 (by rw [t1]; exact hh.2)]
          dsimp only [wrk]
          refine ⟨_, wr S1 7 a x, wr T1 1 (3 + 10 * a) x, rfl, rfl, a3.act a4 (FrB.wr (Or.inr (Or.inr (Or.inl rfl)))) (fun k hk => wr_ne hk) ?_ ?_ (fun j hj => wr_idx (by omega) 1)⟩
          · rw [wr_row]; exact capR_WF a3.1 hh.1 (by omega)
          · rw [wr_row]; exact capR_RB a3.1 a3.2.1 hh.1
  · rw [if_neg hh]
    exact ⟨_, _, _, rfl, rfl, h⟩
theorem Q_clear {S T : Mem} {a : Int} (h : Rel S T) (ha : R32 a) : ∃ r S' T', f_X7_clear S a = some (r, S') ∧ f_X8_clear T a = some (r, T') ∧ Rel S' T' := by
  have n1 := h.1.2.2.2.2.2.1
  unfold f_X7_clear f_X8_clear
  rw [(Q_has h ha).1, (Q_has h ha).2, Option.bind_some, Option.bind_some]
  by_cases hh : 0 ≤ a ∧ a < T 1 2
  · have cb := bcnt_bnd h.1 hh.1 hh.2
    rw [if_pos hh, if_neg e10, if_neg e10, if_pos (show 0 ≤ a ∧ a < 9 by omega), show S 6 a = bcnt (T 1) a from h.2.1.2.2.2.2.1 a hh.1 hh.2, M_valuesOf hh.1 (by omega), Option.bind_some]
    by_cases h3 : bcnt (T 1) a = 0
    · rw [if_pos (eqb_t h3), if_pos (eqb_t h3)]
      exact ⟨_, _, _, rfl, rfl, h⟩
    · have q := nq h3 (by omega) (by omega) (by omega) (by omega)
      rw [if_neg q, if_neg q]
      obtain ⟨S1, T1, a1, a2, a3, a4, a5, a6, a7⟩ := Q_remember h
      have t1 : T1 1 = T 1 := a6 1 (by decide) (by decide)
      have h2 : a < T1 1 2 := by rw [t1]; exact hh.2
      have hz : (0 : Int) ≤ 0 ∧ 0 ≤ bcnt (T1 1) a := ⟨by decide, by rw [t1]; omega⟩
      unfold f_X8_becomes
      rw [a1, Option.bind_some, a2, Option.bind_some, if_pos (by omega), show S1 6 a = bcnt (T1 1) a from a3.2.1.2.2.2.2.1 a hh.1 h2]
      dsimp only [wrk]
      refine ⟨_, wr S1 6 a 0, wr T1 1 (3 + 10 * a + 1) 0, rfl, rfl, a3.act a4 (FrB.wr (Or.inr (Or.inl rfl))) (fun k hk => wr_ne hk) ?_ ?_ (fun j hj => wr_idx (by omega) 1)⟩
      · rw [wr_row]; exact tel_WF a3.1 hh.1 h2 hz
      · rw [wr_row]; exact tel_RB a3.1 a3.2.1 hh.1 h2 hz
  · rw [if_neg hh]
    exact ⟨_, _, _, rfl, rfl, h⟩
theorem Q_supply {S T : Mem} {a : Int} (h : Rel S T) (ha : R32 a) : ∃ r S' T', f_X7_supply S a = some (r, S') ∧ f_X8_supply T a = some (r, T') ∧ Rel S' T' := by
  have r0 := h.1.1
  have r1 := h.1.2.1
  unfold f_X7_supply f_X8_supply
  rw [C_isSupply ha, M_inL ha (by decide) (by decide), Option.bind_some, Option.bind_some, show S 5 0 = T 1 0 from h.2.1.1, if_pos (show (0 : Int) ≤ 0 ∧ (0 : Int) < 126 by decide)]
  by_cases h3 : 1 ≤ a ∧ a ≤ 30
  · rw [if_pos h3, if_neg e10, if_neg e10]
    by_cases h4 : a = T 1 0
    · rw [if_pos (eqb_t h4), if_pos (eqb_t h4)]
      exact ⟨_, _, _, rfl, rfl, h⟩
    · have q := nq h4 (by omega) (by omega) (by omega) (by omega)
      rw [if_neg q, if_neg q]
      obtain ⟨S1, T1, a1, a2, a3, a4, a5, a6, a7⟩ := Q_remember h
      unfold f_X8_becomes
      rw [a1, Option.bind_some, a2, Option.bind_some, if_pos (by omega), show S1 5 0 = T1 1 0 from a3.2.1.1]
      dsimp only [wrk]
      refine ⟨_, wr S1 5 0 a, wr T1 1 0 a, rfl, rfl, a3.act a4 (FrB.wr (Or.inl rfl)) (fun k hk => wr_ne hk) ?_ ?_ (fun j hj => wr_idx (by omega) 1)⟩
      · rw [wr_row]; exact wrR_WF a3.1 (Or.inl ⟨rfl, h3⟩)
      · rw [wr_row]; exact wrR_RB a3.2.1 (Or.inl rfl)
  · rw [if_neg h3]
    exact ⟨_, _, _, rfl, rfl, h⟩
theorem Q_reserve {S T : Mem} {a : Int} (h : Rel S T) (ha : R32 a) : ∃ r S' T', f_X7_reserve S a = some (r, S') ∧ f_X8_reserve T a = some (r, T') ∧ Rel S' T' := by
  have r0 := h.1.2.2.1
  have r1 := h.1.2.2.2.1
  unfold f_X7_reserve f_X8_reserve
  rw [C_isPrice ha, M_isPrice ha, Option.bind_some, Option.bind_some, show S 5 1 = T 1 1 from h.2.1.2.1, if_pos (show (0 : Int) ≤ 1 ∧ (1 : Int) < 126 by decide)]
  by_cases h3 : 0 ≤ a ∧ a ≤ 99
  · rw [if_pos h3, if_neg e10, if_neg e10]
    by_cases h4 : a = T 1 1
    · rw [if_pos (eqb_t h4), if_pos (eqb_t h4)]
      exact ⟨_, _, _, rfl, rfl, h⟩
    · have q := nq h4 (by omega) (by omega) (by omega) (by omega)
      rw [if_neg q, if_neg q]
      obtain ⟨S1, T1, a1, a2, a3, a4, a5, a6, a7⟩ := Q_remember h
      unfold f_X8_becomes
      rw [a1, Option.bind_some, a2, Option.bind_some, if_pos (by omega), show S1 5 1 = T1 1 1 from a3.2.1.2.1]
      dsimp only [wrk]
      refine ⟨_, wr S1 5 1 a, wr T1 1 1 a, rfl, rfl, a3.act a4 (FrB.wr (Or.inl rfl)) (fun k hk => wr_ne hk) ?_ ?_ (fun j hj => wr_idx (by omega) 1)⟩
      · rw [wr_row]; exact wrR_WF a3.1 (Or.inr ⟨rfl, h3⟩)
      · rw [wr_row]; exact wrR_RB a3.2.1 (Or.inr rfl)
  · rw [if_neg h3]
    exact ⟨_, _, _, rfl, rfl, h⟩
