/-! ===== a whole bidder ===== -/
def GD (S T : Mem) : Prop := RD S T ∧ S 1 4 = -1 ∧ T 0 23 = 0 ∧ WF 8 (T 2) ∧ RB S 19 (T 2) ∧ T 2 93 = 0
def BD (S T : Mem) : Prop := T 0 23 = 1 ∧ S 1 4 = T 0 21 ∧ 0 ≤ T 0 21 ∧ T 0 21 ≤ 500
def ND (S T : Mem) : Prop := 0 ≤ T 0 21 ∧ T 0 21 ≤ 500 ∧ ((T 0 23 = 1 ∧ (S 1 4 = T 0 21 ∨ (S 1 4 = -1 ∧ S 1 1 = 2 ∧ S 1 2 = T 0 21))) ∨ (T 0 23 = 0 ∧ T 0 20 = 4 ∧ S 1 4 = T 0 21))
theorem opn_cap {B : Int → Int} {n v : Int} : opn B n v = wrR (opn B n 8) (3 + 10 * B 2) v := by
  funext j
  unfold opn wrR
  dsimp only
  by_cases h : j = 3 + 10 * B 2
  · by_cases h2 : j = 2
    · exfalso; omega
    · rw [if_neg h2, if_pos h, if_pos h]
  · by_cases h2 : j = 2
    · rw [if_pos h2, if_neg h, if_pos h2]
    · rw [if_neg h2, if_neg h, if_neg h, if_neg h2, if_neg h]
theorem opn_row {B X : Int → Int} {n v : Int} (h0 : 0 ≤ B 2) (hx : X = wrR B (3 + 10 * B 2 + 1) n) : wrR (wrR X (3 + 10 * B 2) v) 2 (B 2 + 1) = opn B n v := by
  subst hx
  funext j
  unfold opn wrR
  by_cases h2 : j = 2
  · rw [if_pos h2]
  · rw [if_neg h2]
theorem bidder_both {S T : Mem} {aq : Int} (h : BJ S T 0 99) (h93 : T 2 93 = 0) : ∃ S' T', f_X6_readBidder S (T 2 2) = some S' ∧ f_X8_readsBidder T aq = some T' ∧ FtC S S' ∧ FtM T T' ∧ ((GD S' T' ∧ T 0 21 ≤ T' 0 21) ∨ ND S' T') := by
  have c0 := h.2.2.2.2.2.1
  have c1 := h.2.2.2.2.2.2.1
  have hlim := h.2.2.1.lim h.1
  obtain ⟨S1, r, g1, g2, g3, g4⟩ := bid_loop 8 0 99 S T FU FU h (by omega) (by rw [FU_eq]; omega) (by rw [FU_eq]; omega)
  have mr : f_X8_readsBidder T aq = lct r (fun r31 => if (0 : Int) ≤ (3 + (10 * (T 2 2))) + 1 ∧ ((3 + (10 * (T 2 2))) + 1) < 126 then (wrk r31.2 2 ((3 + (10 * (T 2 2))) + 1) r31.1 fun S34 => (f_X8_takesWord S34 3).bind fun u36 => Option.bind (α := (Int × Mem)) (if eqb u36.1 0 = true then (some (8, u36.2)) else ((f_X8_needsNumber u36.2 0 8).bind fun u48 => some (u48.1, u48.2))) fun j38 => if (0 : Int) ≤ 3 + (10 * (T 2 2)) ∧ (3 + (10 * (T 2 2))) < 126 then (wrk j38.2 2 (3 + (10 * (T 2 2))) j38.1 fun S42 => if (0 : Int) ≤ 2 ∧ (2 : Int) < 126 then (wrk S42 2 2 ((S42 2 2) + 1) fun S45 => some S45) else none) else none) else none) (fun u32 => some u32) := by
    unfold f_X8_readsBidder
    rw [if_pos (by decide), if_neg (nq (by omega) (by omega) (by omega) (by omega) (by omega)), g2, Option.bind_some]
  have cr : f_X6_readBidder S (T 2 2) = if eqb (S1 1 4) (-1) = true then ((f_X6_isWord S1 3).bind fun r24 => if eqb r24 0 = true then (some S1) else ((f_X6_advance S1).bind fun S27 => (f_X6_readNumber S27 0 8).bind fun u29 => if (0 : Int) ≤ T 2 2 ∧ T 2 2 < 9 then (wrk u29.2 21 (T 2 2) u29.1 fun S32 => some S32) else none)) else (some S1) := by
    unfold f_X6_readBidder
    rw [g1, Option.bind_some]
  rw [mr, cr]
  rcases g4 with ⟨n, T1, e1, e2, e3, e4, e5, e6, e7⟩ | ⟨T1, e1, e2, e3, e4, e5, e6, e7, e8⟩
  · subst e1
    dsimp only [lct, wrk]
    rw [if_pos (show (0 : Int) ≤ 3 + 10 * T 2 2 + 1 ∧ 3 + 10 * T 2 2 + 1 < 126 by omega)]
    have w0 : ∀ j, wr T1 2 (3 + 10 * T 2 2 + 1) n 0 j = T1 0 j := fun j => wr_cell (by decide)
    have fM : FtM T (wr T1 2 (3 + 10 * T 2 2 + 1) n) := e2.tr FtM.wr2
    have w2 : wr T1 2 (3 + 10 * T 2 2 + 1) n 2 = wrR (T1 2) (3 + 10 * T 2 2 + 1) n := wr_row _ _ _ _
    rcases e7 with ⟨last, k⟩ | ⟨k1, k2⟩
    · obtain ⟨k1, k2, k3, k4, k5, k6, k7, k8, k9, k10, k11, k12, k13, k14⟩ := k
      have q1 : RT S1 (wr T1 2 (3 + 10 * T 2 2 + 1) n) := k1.ft FtC.rf FtM.wr2
      have q2 : RW (wr T1 2 (3 + 10 * T 2 2 + 1) n) := k2.ft FtM.wr2
      have q3 : RD S1 (wr T1 2 (3 + 10 * T 2 2 + 1) n) := k3.fr rfl rfl rfl (wr_ne (by decide)) (w0 _) (w0 _) (w0 _) (w0 _) (w0 _)
      have q5 : wr T1 2 (3 + 10 * T 2 2 + 1) n 0 23 = 0 := by rw [w0]; exact k5
      have q21 := w0 21
      have q19 := w0 19
      generalize wr T1 2 (3 + 10 * T 2 2 + 1) n = T2 at fM w2 q1 q2 q3 q5 q21 q19 w0 ⊢
      have x22 : T2 2 2 = T 2 2 := by rw [w2, wrR_ne (by omega)]; exact e3
      rw [if_pos (eqb_t k4)]
      -- the row in the end
      have rowv : ∀ (X : Mem) (v : Int), X 2 = T2 2 → wr (wr X 2 (3 + 10 * T 2 2) v) 2 2 (T 2 2 + 1) 2 = opn (T1 2) n v := fun X v hx => by
        rw [wr_row, wr_row, hx, w2, ← e3]
        exact opn_row (by omega) rfl
      have ov : ∀ v, 0 ≤ v → v ≤ 8 → WF 8 (opn (T1 2) n v) := fun v v0 v1 => by
        rw [opn_cap]
        exact capR_WF k13 k6 ⟨v0, v1⟩
      have o93 : ∀ v, opn (T1 2) n v 93 = 0 := fun v => by
        rw [(opn_eq (B := T1 2) (n := n) (cap := v) k6).2.2.2.2.2.2.2 93 (by omega), e4, h93]
      rcases W_both q1 q2 q3 q5 3 (by decide) with ⟨c, m⟩ | ⟨c, t, m⟩
      · rw [show ((3 : Nat) : Int) = 3 from rfl] at m
        rw [c, m, Option.bind_some, Option.bind_some, if_pos e00, if_pos e00, Option.bind_some, if_pos (by omega), if_pos (by decide)]
        dsimp only
        rw [wr_idx (show (2 : Int) ≠ 3 + 10 * T 2 2 by omega), x22]
        have rv := rowv T2 8 rfl
        have v0 : ∀ j, wr (wr T2 2 (3 + 10 * T 2 2) 8) 2 2 (T 2 2 + 1) 0 j = T2 0 j := fun j => by rw [wr_cell (by decide), wr_cell (by decide)]
        refine ⟨S1, _, rfl, rfl, g3, fM.tr (FtM.wr2.tr FtM.wr2), Or.inl ⟨⟨q3.fr rfl rfl rfl (by rw [wr_ne (by decide), wr_ne (by decide)]) (v0 _) (v0 _) (v0 _) (v0 _) (v0 _), k4, by rw [v0]; exact q5, by rw [rv]; exact ov 8 (by decide) (by decide), by rw [rv]; exact k14, by rw [rv]; exact o93 8⟩, by rw [v0]; omega⟩⟩
      · rw [show ((3 : Nat) : Int) = 3 from rfl] at m
        obtain ⟨S3, T3, a1, a2, a3, a4, a5, a6, a7⟩ := q3.goes q1 (by omega)
        have f3 : FtC S S3 := g3.tr (FtC.one a4)
        have m3 : FtM T T3 := fM.tr (FtM.zero a6)
        have r3 : RT S3 T3 := q1.ft (FtC.one a4) (FtM.zero a6)
        have ok3 : T3 0 23 = 0 := by rw [a6.2 23 (by decide) (by decide) (by decide) (by decide)]; exact q5
        have l3 := a3.lim r3
        have lt2 : T2 0 21 ≤ T2 0 19 := q3.2.2.2.1
        have t32 : T3 2 = T2 2 := a6.1 2 (by decide)
        rw [c, m, a1, a2, Option.bind_some, Option.bind_some, Option.bind_some, if_neg e10, Option.bind_some, if_neg e10]
        rcases N_both r3 a3 (by rw [a5]; exact k4) ok3 (lo := 0) (hi := 8) (by decide) (by decide) with ⟨v, S4, T4, b1, b2, b3, b4, b5, b6, b7, b8, b9⟩ | ⟨b1, b2⟩
        · have t42 : T4 2 = T2 2 := by rw [b8.1 2 (by decide), t32]
          rw [b1, b2, Option.bind_some, Option.bind_some, Option.bind_some, if_pos (by omega), if_pos (by omega), if_pos (by decide)]
          dsimp only
          rw [wr_idx (show (2 : Int) ≠ 3 + 10 * T 2 2 by omega), t42, x22]
          have rv := rowv T4 v t42
          have v0 : ∀ j, wr (wr T4 2 (3 + 10 * T 2 2) v) 2 2 (T 2 2 + 1) 0 j = T4 0 j := fun j => by rw [wr_cell (by decide), wr_cell (by decide)]
          have s0 : ∀ j, wr S4 21 (T 2 2) v 1 j = S4 1 j := fun j => wr_cell (by decide)
          have rb4 : RB S4 19 (opn (T1 2) n 8) := k14.fr (by rw [b6 _ (by decide), a4 _ (by decide)]) (by rw [b6 _ (by decide), a4 _ (by decide)]) (by rw [b6 _ (by decide), a4 _ (by decide)]) (by rw [b6 _ (by decide), a4 _ (by decide)])
          refine ⟨_, _, rfl, rfl, f3.tr ((FtC.one b6).tr (FtC.wr (Or.inr (by decide)))), m3.tr ((FtM.zero b8).tr (FtM.wr2.tr FtM.wr2)), Or.inl ⟨⟨b5.fr (s0 _) (s0 _) (s0 _) (by rw [wr_ne (by decide), wr_ne (by decide)]) (v0 _) (v0 _) (v0 _) (v0 _) (v0 _), by rw [s0]; exact b7, by rw [v0, b8.2 23 (by decide) (by decide) (by decide) (by decide)]; exact ok3, by rw [rv]; exact ov v b3 b4, ?_, by rw [rv]; exact o93 v⟩, by rw [v0]; omega⟩⟩
          rw [rv, opn_cap, e3]
          exact capR_RB k13 rb4 c0
        · rw [b1, b2, Option.bind_some, Option.bind_some, Option.bind_some, if_pos (by omega), if_pos (by omega), if_pos (by decide)]
          dsimp only
          refine ⟨_, _, rfl, rfl, f3.tr ((FtC.wr (Or.inl rfl)).tr (FtC.wr (Or.inr (by decide)))), m3.tr ((FtM.wr0 (by decide)).tr (FtM.wr2.tr FtM.wr2)), Or.inr ?_⟩
          unfold ND
          rw [wr_cell (k := 0) (by decide), wr_cell (k := 0) (by decide), wr_idx (show (21 : Int) ≠ 23 by decide), wr_cell (k := 0) (by decide), wr_cell (k := 0) (by decide), wr_eq, wr_cell (k := 1) (by decide), wr_eq]
          exact ⟨l3.1, l3.2.1, Or.inl ⟨rfl, Or.inl l3.2.2.1⟩⟩
    · have tw : f_X8_takesWord (wr T1 2 (3 + 10 * T 2 2 + 1) n) 3 = some (0, wr T1 2 (3 + 10 * T 2 2 + 1) n) := by
        unfold f_X8_takesWord
        rw [w0, w0]
        rcases k2 with z | ⟨z, y⟩
        · rw [if_neg (show ¬ eqb (T1 0 23) 0 = true by rw [z]; decide)]
        · rw [if_pos (eqb_t z), if_neg (show ¬ eqb (T1 0 20) 1 = true by rw [y]; decide)]
      rw [if_neg (nq (show S1 1 4 ≠ -1 by omega) (by omega) (by omega) (by omega) (by omega)), tw, Option.bind_some, if_pos e00, Option.bind_some, if_pos (by omega), if_pos (by decide)]
      dsimp only
      refine ⟨_, _, rfl, rfl, g3, fM.tr (FtM.wr2.tr FtM.wr2), Or.inr ?_⟩
      unfold ND
      rw [wr_cell (k := 0) (by decide), wr_cell (k := 0) (by decide), wr_cell (k := 0) (by decide), wr_cell (k := 0) (by decide), wr_cell (k := 0) (by decide), wr_cell (k := 0) (by decide), wr_cell (k := 0) (by decide), wr_cell (k := 0) (by decide), wr_cell (k := 0) (by decide)]
      refine ⟨by omega, by omega, ?_⟩
      rcases k2 with z | ⟨z, y⟩
      · exact Or.inl ⟨z, Or.inl k1⟩
      · exact Or.inr ⟨z, y, k1⟩
  · subst e1
    dsimp only [lct]
    have iw : f_X6_isWord S1 3 = some 0 := by
      unfold f_X6_isWord
      rw [if_neg (show ¬ eqb (S1 1 1) 1 = true by rw [e7]; decide)]
    rw [if_pos (eqb_t e6), iw, Option.bind_some, if_pos e00]
    exact ⟨_, _, rfl, rfl, g3, e2, Or.inr ⟨by omega, e4, Or.inl ⟨e5, Or.inr ⟨e6, e7, e8⟩⟩⟩⟩
