/-! ===== a whole text ===== -/
def cS (S : Mem) : Option Mem := (f_X6_isWord S 0).bind fun r14 => if eqb r14 0 = true then ((f_X6_isWord S 1).bind fun r22 => if eqb r22 0 = true then ((f_X6_isWord S 2).bind fun r25 => if eqb r25 0 = true then ((f_X6_fail S).bind fun S28 => some S28) else (if ltb (S 19 2) 8 = true then ((f_X6_advance S).bind fun S33 => (f_X1_addBidder S33 19).bind fun u35 => (f_X6_readBidder u35.2 u35.1).bind fun S37 => some S37) else ((f_X6_fail S).bind fun S31 => some S31))) else ((f_X6_advance S).bind fun S39 => (f_X6_readNumber S39 0 99).bind fun u41 => wrk u41.2 19 1 u41.1 fun S43 => some S43)) else ((f_X6_advance S).bind fun S45 => (f_X6_readNumber S45 1 30).bind fun u47 => wrk u47.2 19 0 u47.1 fun S49 => some S49)
def mS (T : Mem) : Option Mem := (f_X8_takesWord T 0).bind fun u1 => if eqb u1.1 0 = true then ((f_X8_takesWord u1.2 1).bind fun u13 => if eqb u13.1 0 = true then ((f_X8_takesWord u13.2 2).bind fun u16 => if eqb u16.1 0 = true then (wrk u16.2 0 23 1 fun S19 => some S19) else ((f_X8_readsBidder u16.2 (T 0 21)).bind fun S21 => some S21)) else ((f_X8_needsNumber u13.2 0 99).bind fun u23 => if (0 : Int) ≤ 1 ∧ (1 : Int) < 126 then (wrk u23.2 2 1 u23.1 fun S26 => some S26) else none)) else ((f_X8_needsNumber u1.2 1 30).bind fun u28 => if (0 : Int) ≤ 0 ∧ (0 : Int) < 126 then (wrk u28.2 2 0 u28.1 fun S31 => some S31) else none)
def mE (T : Mem) : Option Mem := if eqb (T 0 23) 0 = true then (if eqb (T 0 20) 3 = true then ((f_X8_goesOn T).bind fun S10 => some S10) else (wrk T 0 23 1 fun S8 => some S8)) else (some T)
theorem cS_eq {S : Mem} {p : Int} (h0 : ltb p 500 = true) (h1 : S 1 4 = -1) (h2 : ¬ eqb (S 1 1) 0 = true) : f_X6_read_l25 (p, S) = (cS S).bind fun j => (f_X6_readSemicolon j).bind fun S19 => some (.inl (p + 1, S19)) := by
  unfold f_X6_read_l25 cS
  dsimp only
  rw [if_pos h0, if_pos (eqb_t h1), if_neg h2]
  generalize f_X6_isWord S 0 = x
  cases x <;> rfl
theorem mS_eq {T : Mem} : f_X8_readsOne T = (mS T).bind mE := by
  unfold f_X8_readsOne mS
  generalize f_X8_takesWord T 0 = x
  cases x <;> rfl
theorem num_both {S T : Mem} {i lo hi : Int} (hr : RT S T) (h : RD S T) (ok1 : S 1 4 = -1) (ok2 : T 0 23 = 0) (hw : WF 8 (T 2)) (hb : RB S 19 (T 2)) (h93 : T 2 93 = 0) (hq : (i = 0 ∧ lo = 1 ∧ hi = 30) ∨ (i = 1 ∧ lo = 0 ∧ hi = 99)) : ∃ x S1 T1, f_X6_readNumber S lo hi = some (x, S1) ∧ f_X8_needsNumber T lo hi = some (x, T1) ∧ FtC S (wr S1 19 i x) ∧ FtM T (wr T1 2 i x) ∧ ((GD (wr S1 19 i x) (wr T1 2 i x) ∧ T 0 21 ≤ wr T1 2 i x 0 21) ∨ ND (wr S1 19 i x) (wr T1 2 i x)) := by
  have l := h.lim hr
  have s0 : ∀ (X : Mem) (x j : Int), wr X 19 i x 1 j = X 1 j := fun X x j => wr_cell (by decide)
  have t0 : ∀ (X : Mem) (x j : Int), wr X 2 i x 0 j = X 0 j := fun X x j => wr_cell (by decide)
  rcases N_both hr h ok1 ok2 (lo := lo) (hi := hi) (by omega) (by omega) with ⟨v, S1, T1, b1, b2, b3, b4, b5, b6, b7, b8, b9⟩ | ⟨b1, b2⟩
  · have e2 : T1 2 = T 2 := b8.1 2 (by decide)
    refine ⟨v, S1, T1, b1, b2, (FtC.one b6).tr (FtC.wr (Or.inr (by decide))), (FtM.zero b8).tr FtM.wr2, Or.inl ⟨⟨b5.fr (s0 _ _ _) (s0 _ _ _) (s0 _ _ _) (wr_ne (by decide)) (t0 _ _ _) (t0 _ _ _) (t0 _ _ _) (t0 _ _ _) (t0 _ _ _), by rw [s0]; exact b7, by rw [t0, b8.2 23 (by decide) (by decide) (by decide) (by decide)]; exact ok2, ?_, ?_, ?_⟩, by rw [t0]; exact b9⟩⟩
    · rw [wr_row, e2]
      exact wrR_WF hw (by omega)
    · rw [wr_row, e2]
      exact wrR_RB (hb.fr (b6 _ (by decide)) (b6 _ (by decide)) (b6 _ (by decide)) (b6 _ (by decide))) (by omega)
    · rw [wr_row, e2, wrR_ne (by omega)]
      exact h93
  · refine ⟨lo, _, _, b1, b2, (FtC.wr (Or.inl rfl)).tr (FtC.wr (Or.inr (by decide))), (FtM.wr0 (by decide)).tr FtM.wr2, Or.inr ?_⟩
    unfold ND
    rw [t0, t0, s0, wr_idx (show (21 : Int) ≠ 23 by decide), wr_eq, wr_eq]
    exact ⟨l.1, l.2.1, Or.inl ⟨rfl, Or.inl l.2.2.1⟩⟩
theorem stmt_both {S T : Mem} (hr : RT S T) (hw : RW T) (h : GD S T) : ∃ S' T', cS S = some S' ∧ mS T = some T' ∧ FtC S S' ∧ FtM T T' ∧ ((GD S' T' ∧ T 0 21 < T' 0 21) ∨ ND S' T') := by
  obtain ⟨h1, h2, h3, h4, h5, h6⟩ := h
  have l := h1.lim hr
  have n0 := h4.2.2.2.2.1
  have n1 := h4.2.2.2.2.2.1
  have go : T 0 20 = 1 → ∃ S1 T1, f_X6_advance S = some S1 ∧ f_X8_goesOn T = some T1 ∧ FtC S S1 ∧ FtM T T1 ∧ RT S1 T1 ∧ RW T1 ∧ RD S1 T1 ∧ S1 1 4 = -1 ∧ T1 0 23 = 0 ∧ T1 2 = T 2 ∧ RB S1 19 (T 2) ∧ T 0 21 < T1 0 21 := fun q => by
    obtain ⟨S1, T1, a1, a2, a3, a4, a5, a6, a7⟩ := h1.goes hr (by omega)
    have lt := h1.2.2.2.2.2.1 (by omega)
    exact ⟨S1, T1, a1, a2, FtC.one a4, FtM.zero a6, hr.ft (FtC.one a4) (FtM.zero a6), hw.ft (FtM.zero a6), a3, by rw [a5]; exact h2, by rw [a6.2 23 (by decide) (by decide) (by decide) (by decide)]; exact h3, a6.1 2 (by decide), h5.fr (a4 _ (by decide)) (a4 _ (by decide)) (a4 _ (by decide)) (a4 _ (by decide)), by omega⟩
  have w0 := W_both hr hw h1 h3 0 (by decide)
  have w1 := W_both hr hw h1 h3 1 (by decide)
  have w2 := W_both hr hw h1 h3 2 (by decide)
  rw [show ((0 : Nat) : Int) = 0 from rfl] at w0
  rw [show ((1 : Nat) : Int) = 1 from rfl] at w1
  rw [show ((2 : Nat) : Int) = 2 from rfl] at w2
  unfold cS mS
  rcases w0 with ⟨c, m⟩ | ⟨c, t, m⟩
  · rw [c, m, Option.bind_some, Option.bind_some, if_pos e00, if_pos e00]
    rcases w1 with ⟨c, m⟩ | ⟨c, t, m⟩
    · rw [c, m, Option.bind_some, Option.bind_some, if_pos e00, if_pos e00]
      rcases w2 with ⟨c, m⟩ | ⟨c, t, m⟩
      · rw [c, m, Option.bind_some, Option.bind_some, if_pos e00, if_pos e00, C_fail h2, Option.bind_some]
        dsimp only [wrk]
        refine ⟨_, _, rfl, rfl, FtC.wr (Or.inl rfl), FtM.wr0 (by decide), Or.inr ?_⟩
        unfold ND
        rw [wr_idx (show (21 : Int) ≠ 23 by decide), wr_eq, wr_eq]
        exact ⟨l.1, l.2.1, Or.inl ⟨rfl, Or.inl l.2.2.1⟩⟩
      · obtain ⟨S1, T1, a1, a2, a3, a4, a5, a6, a7, a8, a9, a10, a11, a12⟩ := go t
        have l1 := a7.lim a5
        rw [c, m, a2, Option.bind_some, Option.bind_some, Option.bind_some, if_neg e10, if_neg e10]
        dsimp only
        by_cases q : T 2 2 < 8
        · obtain ⟨S2, b1, b2, b3⟩ := C_addBidder h4 a11
          have s1 : ∀ j, S2 1 j = S1 1 j := fun j => by rw [b3 1 (by decide) (by decide) (by decide) (by decide)]
          have sm := opn_add n0 h4
          have hw8 : WF 8 (opn (T 2) 0 8) := ((addR_WF h4 (by decide)).sm sm).le (by rw [(opn_eq (B := T 2) (n := 0) (cap := 8) n0).2.2.1]; omega)
          have hJ : BJ S2 T1 0 99 := ⟨a5.ft (FtC.bk b3) FtM.rf, a6, a7.fr (s1 _) (s1 _) (s1 _) rfl rfl rfl rfl rfl rfl, by rw [s1]; exact a8, a9, by rw [a10]; exact n0, by rw [a10]; exact q, by decide, by decide, by decide, by decide, fun i i0 i1 => by omega, by rw [a10]; exact hw8, by rw [a10]; exact b2.sm sm⟩
          obtain ⟨S', T', g1, g2, g3, g4, g5⟩ := bidder_both (aq := T 0 21) hJ (by rw [a10]; exact h6)
          rw [a10] at g1
          rw [h5.2.2.1, if_pos (ltb_t q (by omega) (by omega)), a1, Option.bind_some, b1, Option.bind_some]
          dsimp only
          rw [g1, g2, Option.bind_some, Option.bind_some]
          refine ⟨S', T', rfl, rfl, a3.tr ((FtC.bk b3).tr g3), a4.tr g4, ?_⟩
          rcases g5 with ⟨x, y⟩ | x
          · exact Or.inl ⟨x, by omega⟩
          · exact Or.inr x
        · have q8 : T1 2 2 = 8 := by rw [a10]; omega
          rw [h5.2.2.1, if_neg (nl (by omega) (by omega) (by omega)), C_fail h2, Option.bind_some]
          unfold f_X8_readsBidder
          rw [if_pos (by decide), if_pos (eqb_t q8)]
          dsimp only [wrk]
          rw [Option.bind_some]
          refine ⟨_, _, rfl, rfl, FtC.wr (Or.inl rfl), a4.tr ((FtM.wr0 (by decide)).tr (FtM.wr0 (by decide))), Or.inr ?_⟩
          unfold ND
          rw [wr_idx (show (21 : Int) ≠ 23 by decide), wr_eq, wr_eq, wr_eq]
          exact ⟨l.1, l.2.1, Or.inl ⟨rfl, Or.inl l.2.2.1⟩⟩
    · obtain ⟨S1, T1, a1, a2, a3, a4, a5, a6, a7, a8, a9, a10, a11, a12⟩ := go t
      obtain ⟨x, S2, T2, g1, g2, g3, g4, g5⟩ := num_both (i := 1) (lo := 0) (hi := 99) a5 a7 a8 a9 (by rw [a10]; exact h4) (by rw [a10]; exact a11) (by rw [a10]; exact h6) (Or.inr ⟨rfl, rfl, rfl⟩)
      rw [c, Option.bind_some, if_neg e10, a1, Option.bind_some, m, a2, Option.bind_some, Option.bind_some, if_neg e10]
      dsimp only
      rw [g1, g2, Option.bind_some, Option.bind_some, if_pos (by decide)]
      dsimp only [wrk]
      refine ⟨_, _, rfl, rfl, a3.tr g3, a4.tr g4, ?_⟩
      rcases g5 with ⟨x, y⟩ | x
      · exact Or.inl ⟨x, by omega⟩
      · exact Or.inr x
  · obtain ⟨S1, T1, a1, a2, a3, a4, a5, a6, a7, a8, a9, a10, a11, a12⟩ := go t
    obtain ⟨x, S2, T2, g1, g2, g3, g4, g5⟩ := num_both (i := 0) (lo := 1) (hi := 30) a5 a7 a8 a9 (by rw [a10]; exact h4) (by rw [a10]; exact a11) (by rw [a10]; exact h6) (Or.inl ⟨rfl, rfl, rfl⟩)
    rw [c, Option.bind_some, if_neg e10, a1, Option.bind_some, m, a2, Option.bind_some, Option.bind_some, if_neg e10]
    dsimp only
    rw [g1, g2, Option.bind_some, Option.bind_some, if_pos (by decide)]
    dsimp only [wrk]
    refine ⟨_, _, rfl, rfl, a3.tr g3, a4.tr g4, ?_⟩
    rcases g5 with ⟨x, y⟩ | x
    · exact Or.inl ⟨x, by omega⟩
    · exact Or.inr x
theorem semi_good {S T : Mem} (hr : RT S T) (h : GD S T) : ∃ S' T', f_X6_readSemicolon S = some S' ∧ mE T = some T' ∧ FtC S S' ∧ FtM T T' ∧ ((GD S' T' ∧ T 0 21 ≤ T' 0 21) ∨ BD S' T') := by
  obtain ⟨h1, h2, h3, h4, h5, h6⟩ := h
  have l := h1.lim hr
  unfold f_X6_readSemicolon mE
  rw [if_pos (eqb_t h2), if_pos (eqb_t h3)]
  by_cases q : T 0 20 = 3
  · obtain ⟨S1, T1, a1, a2, a3, a4, a5, a6, a7⟩ := h1.goes hr (by omega)
    have t2 : T1 2 = T 2 := a6.1 2 (by decide)
    have lt := h1.2.2.2.1
    rw [if_pos (eqb_t q), if_pos (eqb_t (show S 1 1 = 3 by omega)), a1, a2]
    exact ⟨S1, T1, rfl, rfl, FtC.one a4, FtM.zero a6, Or.inl ⟨⟨a3, by rw [a5]; exact h2, by rw [a6.2 23 (by decide) (by decide) (by decide) (by decide)]; exact h3, by rw [t2]; exact h4, by rw [t2]; exact h5.fr (a4 _ (by decide)) (a4 _ (by decide)) (a4 _ (by decide)) (a4 _ (by decide)), by rw [t2]; exact h6⟩, by omega⟩⟩
  · rw [if_neg (nq q (by omega) (by omega) (by omega) (by omega)), if_neg (nq (show S 1 1 ≠ 3 by omega) (by omega) (by omega) (by omega) (by omega)), C_fail h2]
    refine ⟨_, _, rfl, rfl, FtC.wr (Or.inl rfl), FtM.wr0 (i := 23) (by decide), Or.inr ?_⟩
    unfold BD
    rw [wr_eq, wr_eq, wr_idx (by decide)]
    exact ⟨rfl, l.2.2.1, l.1, l.2.1⟩
theorem semi_bad {S T : Mem} (h : ND S T) : ∃ S' T', f_X6_readSemicolon S = some S' ∧ mE T = some T' ∧ FtC S S' ∧ FtM T T' ∧ BD S' T' := by
  obtain ⟨h1, h2, h3⟩ := h
  have cf : S 1 4 = T 0 21 → f_X6_readSemicolon S = some S := fun q => by
    have nn : ¬ eqb (S 1 4) (-1) = true := nq (by omega) (by omega) (by omega) (by omega) (by omega)
    unfold f_X6_readSemicolon f_X6_fail
    rw [if_neg nn, if_neg nn]
    rfl
  unfold mE
  rcases h3 with ⟨a, b | ⟨b1, b2, b3⟩⟩ | ⟨a, b, c⟩
  · rw [cf b, if_neg (show ¬ eqb (T 0 23) 0 = true by rw [a]; decide)]
    exact ⟨_, _, rfl, rfl, FtC.rf, FtM.rf, a, b, h1, h2⟩
  · rw [if_neg (show ¬ eqb (T 0 23) 0 = true by rw [a]; decide)]
    refine ⟨_, _, ?_, rfl, FtC.wr (q := 1) (i := 4) (v := S 1 2) (Or.inl rfl), FtM.rf, a, by rw [wr_eq]; exact b3, h1, h2⟩
    unfold f_X6_readSemicolon
    rw [if_pos (eqb_t b1), if_neg (show ¬ eqb (S 1 1) 3 = true by rw [b2]; decide), C_fail b1]
    rfl
  · rw [cf c, if_pos (eqb_t a), if_neg (show ¬ eqb (T 0 20) 3 = true by rw [b]; decide)]
    refine ⟨_, _, rfl, rfl, FtC.rf, FtM.wr0 (i := 23) (by decide), ?_⟩
    unfold BD
    rw [wr_eq, wr_idx (by decide)]
    exact ⟨rfl, c, h1, h2⟩
theorem one_both {S T : Mem} {p : Int} (hr : RT S T) (hw : RW T) (h : GD S T) (ht : T 0 20 ≠ 0) (hp : 0 ≤ p ∧ p < 500) : ∃ S' T', f_X6_read_l25 (p, S) = some (.inl (p + 1, S')) ∧ f_X8_readsOne T = some T' ∧ FtC S S' ∧ FtM T T' ∧ ((GD S' T' ∧ T 0 21 < T' 0 21) ∨ BD S' T') := by
  have l := h.1.lim hr
  obtain ⟨S1, T1, a1, a2, a3, a4, a5⟩ := stmt_both hr hw h
  rw [cS_eq (ltb_t hp.2 (by omega) (by omega)) h.2.1 (nq (show S 1 1 ≠ 0 by omega) (by omega) (by omega) (by omega) (by omega)), mS_eq, a1, a2, Option.bind_some, Option.bind_some]
  rcases a5 with ⟨x, y⟩ | x
  · obtain ⟨S2, T2, b1, b2, b3, b4, b5⟩ := semi_good (hr.ft a3 a4) x
    rw [b1, b2]
    refine ⟨S2, T2, rfl, rfl, a3.tr b3, a4.tr b4, ?_⟩
    rcases b5 with ⟨u, v⟩ | u
    · exact Or.inl ⟨u, by omega⟩
    · exact Or.inr u
  · obtain ⟨S2, T2, b1, b2, b3, b4, b5⟩ := semi_bad x
    rw [b1, b2]
    exact ⟨S2, T2, rfl, rfl, a3.tr b3, a4.tr b4, Or.inr b5⟩
