/-! ===== a bidder that is being read ===== -/
def FtC (S S' : Mem) : Prop := ∀ k, k ≠ 1 → k ≠ 19 → k ≠ 20 → k ≠ 21 → k ≠ 22 → S' k = S k
def FtM (T T' : Mem) : Prop := (∀ k, k ≠ 0 → k ≠ 2 → T' k = T k) ∧ ∀ j, j < 19 → T' 0 j = T 0 j
theorem FtC.tr {S S1 S2 : Mem} (h : FtC S S1) (g : FtC S1 S2) : FtC S S2 := fun k a b c d e => (g k a b c d e).trans (h k a b c d e)
theorem FtM.tr {T T1 T2 : Mem} (h : FtM T T1) (g : FtM T1 T2) : FtM T T2 := ⟨fun k a b => (g.1 k a b).trans (h.1 k a b), fun j a => (g.2 j a).trans (h.2 j a)⟩
theorem FtC.rf {S : Mem} : FtC S S := fun _ _ _ _ _ _ => rfl
theorem FtM.rf {T : Mem} : FtM T T := ⟨fun _ _ _ => rfl, fun _ _ => rfl⟩
theorem FtC.one {S S' : Mem} (h : ∀ k, k ≠ 1 → S' k = S k) : FtC S S' := fun k a _ _ _ _ => h k a
theorem FtC.bk {S S' : Mem} (h : FrB S S' 19) : FtC S S' := fun k _ b c d e => h k b c d e
theorem FtC.wr {S : Mem} {q : Nat} {i v : Int} (h : q = 1 ∨ (19 ≤ q ∧ q ≤ 22)) : FtC S (wr S q i v) := fun k a b c d e => wr_ne (by omega)
theorem FtM.zero {T T' : Mem} (h : Fr0 T T') : FtM T T' := ⟨fun k a _ => h.1 k a, fun j a => h.2 j (by omega) (by omega) (by omega) (by omega)⟩
theorem FtM.wr2 {T : Mem} {i v : Int} : FtM T (wr T 2 i v) := ⟨fun k _ b => wr_ne b, fun j _ => by rw [wr_cell (by decide)]⟩
theorem FtM.wr0 {T : Mem} {i v : Int} (h : 19 ≤ i) : FtM T (wr T 0 i v) := ⟨fun k a _ => wr_ne a, fun j a => by rw [wr_idx (by omega)]⟩
theorem RT.ft {S S' T T' : Mem} (h : RT S T) (f : FtC S S') (g : FtM T T') : RT S' T' := by
  unfold RT
  rw [f 2 (by decide) (by decide) (by decide) (by decide) (by decide), f 3 (by decide) (by decide) (by decide) (by decide) (by decide), g.2 17 (by decide), g.1 12 (by decide) (by decide)]
  exact h
theorem RW.ft {T T' : Mem} (h : RW T) (g : FtM T T') : RW T' := by
  unfold RW
  rw [g.1 13 (by decide) (by decide)]
  exact h
def opn (B : Int → Int) (n cap : Int) : Int → Int := fun j => if j = 2 then B 2 + 1 else if j = 3 + 10 * B 2 then cap else if j = 3 + 10 * B 2 + 1 then n else B j
theorem opn_eq {B : Int → Int} {n cap : Int} (h0 : 0 ≤ B 2) : opn B n cap 0 = B 0 ∧ opn B n cap 1 = B 1 ∧ opn B n cap 2 = B 2 + 1 ∧ bcap (opn B n cap) (B 2) = cap ∧ bcnt (opn B n cap) (B 2) = n ∧ (∀ c, 0 ≤ c → c < B 2 → bcap (opn B n cap) c = bcap B c ∧ bcnt (opn B n cap) c = bcnt B c) ∧ (∀ c i, 0 ≤ c → c ≤ B 2 → 0 ≤ i → i < 8 → bval (opn B n cap) c i = bval B c i) ∧ ∀ j, 3 + 10 * B 2 + 2 ≤ j → opn B n cap j = B j := by
  unfold bcap bcnt bval opn
  refine ⟨?_, ?_, ?_, ?_, ?_, fun c c0 c1 => ⟨?_, ?_⟩, fun c i c0 c1 i0 i1 => ?_, fun j hj => ?_⟩
  · rw [if_neg (by decide), if_neg (by omega), if_neg (by omega)]
  · rw [if_neg (by decide), if_neg (by omega), if_neg (by omega)]
  · rw [if_pos rfl]
  · rw [if_neg (by omega), if_pos rfl]
  · rw [if_neg (by omega), if_neg (by omega), if_pos rfl]
  · rw [if_neg (by omega), if_neg (by omega), if_neg (by omega)]
  · rw [if_neg (by omega), if_neg (by omega), if_neg (by omega)]
  · rw [if_neg (by omega), if_neg (by omega), if_neg (by omega)]
  · rw [if_neg (by omega), if_neg (by omega), if_neg (by omega)]
theorem opn_add {B : Int → Int} (h0 : 0 ≤ B 2) (hw : WF 8 B) : Sm (addR B 8) (opn B 0 8) := by
  obtain ⟨a0, a1, a2, a3, a4, a5, a6⟩ := addR_eq (B := B) (cap := 8) h0
  obtain ⟨o0, o1, o2, o3, o4, o5, o6, o7⟩ := opn_eq (B := B) (n := 0) (cap := 8) h0
  refine ⟨by omega, by omega, by omega, fun b b0 b1 => ?_⟩
  by_cases hb : b = B 2
  · subst hb
    exact ⟨by omega, by omega, fun i i0 i1 => by omega⟩
  · have x := a5 b b0 (by omega)
    have y := o5 b b0 (by omega)
    have c := bcnt_bnd hw b0 (show b < B 2 by omega)
    refine ⟨by omega, by omega, fun i i0 i1 => ?_⟩
    rw [o6 b i b0 (by omega) i0 (by omega), x.2.2 i i0 (by omega)]
theorem opn_step {B : Int → Int} {n v : Int} (h0 : 0 ≤ B 2) (hw : WF 8 (opn B n 8)) (hn : 0 ≤ n ∧ n < 8) (hv : ∀ i, 0 ≤ i → i < n → v ≤ bval B (B 2) i) : Sm (comesR (opn B n 8) (B 2) v) (opn (wrR B (3 + 10 * B 2 + 2 + n) v) (n + 1) 8) := by
  obtain ⟨o0, o1, o2, o3, o4, o5, o6, o7⟩ := opn_eq (B := B) (n := n) (cap := 8) h0
  have w2 : wrR B (3 + 10 * B 2 + 2 + n) v 2 = B 2 := by unfold wrR; rw [if_neg (by omega)]
  have w0 : wrR B (3 + 10 * B 2 + 2 + n) v 0 = B 0 := by unfold wrR; rw [if_neg (by omega)]
  have w1 : wrR B (3 + 10 * B 2 + 2 + n) v 1 = B 1 := by unfold wrR; rw [if_neg (by omega)]
  obtain ⟨p0, p1, p2, p3, p4, p5, p6, p7⟩ := opn_eq (B := wrR B (3 + 10 * B 2 + 2 + n) v) (n := n + 1) (cap := 8) (by omega)
  rw [w2] at p2 p3 p4 p5 p6
  have hc : 0 ≤ bcnt (opn B n 8) (B 2) ∧ bcnt (opn B n 8) (B 2) < 8 := by omega
  obtain ⟨z0, z1, z2⟩ := comes_0 (B := opn B n 8) (v := v) h0 hc.1
  have pe : pos (opn B n 8) (B 2) v = n := by
    rw [pos_end hc.1 (fun i i0 i1 => by rw [o6 (B 2) i h0 (by omega) i0 (by omega)]; exact hv i i0 (by omega)), o4]
  refine ⟨by omega, by omega, by omega, fun b b0 b1 => ?_⟩
  obtain ⟨k1, k2, k3⟩ := comes_cap (B := opn B n 8) (v := v) h0 hc b0
  have wv : ∀ i, 0 ≤ i → i < 8 → bval (wrR B (3 + 10 * B 2 + 2 + n) v) b i = if b = B 2 ∧ i = n then v else bval B b i := fun i i0 i1 => by
    unfold bval wrR
    by_cases q : b = B 2 ∧ i = n
    · rw [if_pos (by omega), if_pos q]
    · rw [if_neg (by omega), if_neg q]
  by_cases hb : b = B 2
  · subst hb
    rw [if_pos rfl, o4] at k2
    refine ⟨by omega, by omega, fun i i0 i1 => ?_⟩
    rw [p6 _ i b0 (by omega) i0 (by omega), wv i i0 (by omega), k3 i i0 (by omega), if_pos (show B 2 = B 2 ∧ i ≤ bcnt (opn B n 8) (B 2) from ⟨rfl, by omega⟩), pe]
    by_cases q : i < n
    · rw [if_neg (show ¬ (B 2 = B 2 ∧ i = n) by omega), if_pos q, o6 _ i b0 (by omega) i0 (by omega)]
    · rw [if_pos (show B 2 = B 2 ∧ i = n from ⟨rfl, by omega⟩), if_neg q, if_pos (show i = n by omega)]
  · have x := p5 b b0 (by omega)
    have y := o5 b b0 (by omega)
    have c := bcnt_bnd hw b0 (show b < opn B n 8 2 by omega)
    rw [if_neg hb] at k2
    have e1 : bcap (wrR B (3 + 10 * B 2 + 2 + n) v) b = bcap B b := by unfold bcap wrR; rw [if_neg (by omega)]
    have e2 : bcnt (wrR B (3 + 10 * B 2 + 2 + n) v) b = bcnt B b := by unfold bcnt wrR; rw [if_neg (by omega)]
    refine ⟨by omega, by omega, fun i i0 i1 => ?_⟩
    rw [p6 b i b0 (by omega) i0 (by omega), wv i i0 (by omega), if_neg (fun z => hb z.1), k3 i i0 (by omega), if_neg (fun z => hb z.1), o6 b i b0 (by omega) i0 (by omega)]
def BJ (S T : Mem) (n last : Int) : Prop := RT S T ∧ RW T ∧ RD S T ∧ S 1 4 = -1 ∧ T 0 23 = 0 ∧ 0 ≤ T 2 2 ∧ T 2 2 < 8 ∧ 0 ≤ n ∧ n ≤ 8 ∧ 0 ≤ last ∧ last ≤ 99 ∧ (∀ i, 0 ≤ i → i < n → last ≤ bval (T 2) (T 2 2) i) ∧ WF 8 (opn (T 2) n 8) ∧ RB S 19 (opn (T 2) n 8)
def BO (S T S' : Mem) (r : (Int × Mem) ⊕ Mem) : Prop := FtC S S' ∧ ((∃ n T', r = .inl (n, T') ∧ FtM T T' ∧ T' 2 2 = T 2 2 ∧ T' 2 93 = T 2 93 ∧ T 0 21 ≤ T' 0 21 ∧ T' 0 21 ≤ 500 ∧ ((∃ last, BJ S' T' n last) ∨ (S' 1 4 = T' 0 21 ∧ (T' 0 23 = 1 ∨ (T' 0 23 = 0 ∧ T' 0 20 = 4))))) ∨ (∃ T', r = .inr T' ∧ FtM T T' ∧ T 0 21 ≤ T' 0 21 ∧ T' 0 21 ≤ 500 ∧ T' 0 23 = 1 ∧ S' 1 4 = -1 ∧ S' 1 1 = 2 ∧ S' 1 2 = T' 0 21))
theorem RD.lim {S T : Mem} (hr : RT S T) (h : RD S T) : 0 ≤ T 0 21 ∧ T 0 21 ≤ 500 ∧ S 1 2 = T 0 21 ∧ 0 ≤ S 1 1 ∧ S 1 1 ≤ 4 ∧ 0 ≤ T 0 20 ∧ T 0 20 ≤ 4 ∧ (S 1 1 = T 0 20 ∨ (S 1 1 = 2 ∧ T 0 20 = 4)) := by
  obtain ⟨a1, a2, a3, a4, a5, a6, a7⟩ := h
  have l5 := hr.2.2.1
  rcases a7 with ⟨b1, b2, b3⟩ | ⟨b1, b2, b3, b4, b5⟩ <;> refine ⟨by omega, by omega, a1, by omega, by omega, by omega, by omega, by omega⟩
theorem bid_loop : ∀ (m : Nat) (n last : Int) (S T : Mem) (f1 f2 : Nat), BJ S T n last → (m : Int) = 8 - n → m + 1 < f1 → m + 1 < f2 → ∃ S' r, lp (f_X6_readBidder_l6 (T 2 2)) f1 (last, n, S) = some S' ∧ lp (f_X8_readsBidder_l40 (3 + 10 * T 2 2)) f2 (n, last, T) = some r ∧ BO S T S' r := by
  intro m
  induction m with
  | zero =>
    intro n last S T f1 f2 h hm h1 h2
    obtain ⟨f1, rfl⟩ : ∃ x, f1 = x + 1 := ⟨f1 - 1, by omega⟩
    obtain ⟨f2, rfl⟩ : ∃ x, f2 = x + 1 := ⟨f2 - 1, by omega⟩
    have hJ := h
    obtain ⟨j1, j2, j3, j4, j5, j6, j7, j8, j9, j10, j11, j12, j13, j14⟩ := h
    have hl := j3.lim j1
    have hn : n = 8 := by omega
    subst hn
    have cstep : f_X6_readBidder_l6 (T 2 2) (last, 8, S) = some (.inr S) := by
      unfold f_X6_readBidder_l6
      dsimp only
      rw [if_neg (nl (by omega) (by omega) (by omega))]
    by_cases q : T 0 20 = 2
    · have c2 : S 1 1 = 2 := (C_number j1 j3 q).1
      refine ⟨S, .inr (wr T 0 23 1), ?_, ?_, FtC.rf, Or.inr ⟨_, rfl, FtM.wr0 (by decide), ?_, ?_, wr_eq _ _ _ _, j4, c2, ?_⟩⟩
      · unfold lp; rw [cstep]
      · unfold lp f_X8_readsBidder_l40
        dsimp only
        rw [if_pos (eqb_t j5), if_pos (eqb_t q), if_pos (eqb_t rfl)]
        rfl
      · rw [wr_idx (by decide)]; omega
      · rw [wr_idx (by decide)]; omega
      · rw [wr_idx (by decide)]; omega
    · have mstep : f_X8_readsBidder_l40 (3 + 10 * T 2 2) (8, last, T) = some (.inr (.inl (8, T))) := by
        unfold f_X8_readsBidder_l40
        dsimp only
        rw [if_pos (eqb_t j5), if_neg (nq q (by omega) (by omega) (by omega) (by omega))]
      exact ⟨S, .inl (8, T), by unfold lp; rw [cstep], by unfold lp; rw [mstep], FtC.rf, Or.inl ⟨8, T, rfl, FtM.rf, rfl, rfl, by omega, by omega, Or.inl ⟨last, hJ⟩⟩⟩
  | succ m ih =>
    intro n last S T f1 f2 h hm h1 h2
    obtain ⟨f1, rfl⟩ : ∃ x, f1 = x + 1 := ⟨f1 - 1, by omega⟩
    obtain ⟨f2, rfl⟩ : ∃ x, f2 = x + 1 := ⟨f2 - 1, by omega⟩
    have hJ := h
    obtain ⟨j1, j2, j3, j4, j5, j6, j7, j8, j9, j10, j11, j12, j13, j14⟩ := h
    have hl := j3.lim j1
    obtain ⟨o0, o1, o2, o3, o4, o5, o6, o7⟩ := opn_eq (B := T 2) (n := n) (cap := 8) j6
    -- what a failed number does to the system
    have cbad : f_X6_readNumber S 0 last = some (0, wr S 1 4 (S 1 2)) → S 1 1 = 2 → ∃ S', lp (f_X6_readBidder_l6 (T 2 2)) (f1 + 1) (last, n, S) = some S' ∧ FtC S S' ∧ S' 1 4 = T 0 21 := by
      intro hb hc
      have rb : RB (wr S 1 4 (S 1 2)) 19 (opn (T 2) n 8) := j14.fr (wr_ne (by decide)) (wr_ne (by decide)) (wr_ne (by decide)) (wr_ne (by decide))
      obtain ⟨S2, i1, i2, i3⟩ := C_insertValue (v := 0) (by decide) j13 rb j6 (by omega) (by omega) (by omega)
      have e4 : S2 1 4 = T 0 21 := by rw [i3 1 (by decide) (by decide) (by decide) (by decide), wr_eq]; exact hl.2.2.1
      have e1 : S2 1 1 = 2 := by rw [i3 1 (by decide) (by decide) (by decide) (by decide), wr_idx (by decide)]; exact hc
      refine ⟨S2, ?_, (FtC.wr (Or.inl rfl)).tr (FtC.bk i3), e4⟩
      have s1 : f_X6_readBidder_l6 (T 2 2) (last, n, S) = some (.inl (0, n + 1, S2)) := by
        unfold f_X6_readBidder_l6
        dsimp only
        rw [if_pos (ltb_t (by omega) (by omega) (by omega)), if_pos (eqb_t hc), if_pos (eqb_t j4), hb, Option.bind_some]
        dsimp only
        rw [i1, Option.bind_some]
      have s2 : f_X6_readBidder_l6 (T 2 2) (0, n + 1, S2) = some (.inr S2) := by
        unfold f_X6_readBidder_l6
        dsimp only
        by_cases q8 : n + 1 < 8
        · rw [if_pos (ltb_t q8 (by omega) (by omega)), if_pos (eqb_t e1), if_neg (nq (show S2 1 4 ≠ -1 by omega) (by omega) (by omega) (by omega) (by omega))]
        · rw [if_neg (nl (by omega) (by omega) (by omega))]
      obtain ⟨f1, rfl⟩ : ∃ x, f1 = x + 1 := ⟨f1 - 1, by omega⟩
      unfold lp
      rw [s1]
      dsimp only
      unfold lp
      rw [s2]
    by_cases q : T 0 20 = 2
    · obtain ⟨c2, n2, n3, n4⟩ := C_number j1 j3 q
      rcases N_both j1 j3 j4 j5 (lo := 0) (hi := last) (by decide) ⟨j10, j11⟩ with ⟨v, S1, T1, a1, a2, a3, a4, a5, a6, a7, a8, a9⟩ | ⟨a1, a2⟩
      · have t2 : T1 2 = T 2 := a8.1 2 (by decide)
        have rb : RB S1 19 (opn (T 2) n 8) := j14.fr (a6 _ (by decide)) (a6 _ (by decide)) (a6 _ (by decide)) (a6 _ (by decide))
        obtain ⟨S2, i1, i2, i3⟩ := C_insertValue (v := v) (by decide) j13 rb j6 (by omega) (by omega) (by omega)
        have sm := opn_step (B := T 2) (n := n) (v := v) j6 j13 ⟨j8, by omega⟩ (fun i i0 i1 => by have := j12 i i0 i1; omega)
        have s1 : f_X6_readBidder_l6 (T 2 2) (last, n, S) = some (.inl (v, n + 1, S2)) := by
          unfold f_X6_readBidder_l6
          dsimp only
          rw [if_pos (ltb_t (by omega) (by omega) (by omega)), if_pos (eqb_t c2), if_pos (eqb_t j4), a1, Option.bind_some]
          dsimp only
          rw [i1, Option.bind_some]
        have s2 : f_X8_readsBidder_l40 (3 + 10 * T 2 2) (n, last, T) = some (.inl (n + 1, v, wr T1 2 (3 + 10 * T 2 2 + 2 + n) v)) := by
          unfold f_X8_readsBidder_l40
          dsimp only
          rw [if_pos (eqb_t j5), if_pos (eqb_t q), if_neg (nq (by omega) (by omega) (by omega) (by omega) (by omega)), a2, Option.bind_some]
          dsimp only
          rw [if_pos (by omega)]
          rfl
        have r2 : wr T1 2 (3 + 10 * T 2 2 + 2 + n) v 2 = wrR (T 2) (3 + 10 * T 2 2 + 2 + n) v := by rw [wr_row, t2]
        have c22 : wr T1 2 (3 + 10 * T 2 2 + 2 + n) v 2 2 = T 2 2 := by rw [wr_idx (by omega), t2]
        have fC : FtC S S2 := (FtC.one a6).tr (FtC.bk i3)
        have fM : FtM T (wr T1 2 (3 + 10 * T 2 2 + 2 + n) v) := (FtM.zero a8).tr FtM.wr2
        have cw : ∀ j, wr T1 2 (3 + 10 * T 2 2 + 2 + n) v 0 j = T1 0 j := fun j => wr_cell (by decide)
        have hJ2 : BJ S2 (wr T1 2 (3 + 10 * T 2 2 + 2 + n) v) (n + 1) v := by
          have s11 : ∀ j, S2 1 j = S1 1 j := fun j => by rw [i3 1 (by decide) (by decide) (by decide) (by decide)]
          refine ⟨j1.ft fC fM, j2.ft fM, a5.fr (s11 1) (s11 2) (s11 3) (wr_ne (by decide)) (cw _) (cw _) (cw _) (cw _) (cw _), by rw [s11]; exact a7, by rw [cw, a8.2 23 (by decide) (by decide) (by decide) (by decide)]; exact j5, by omega, by omega, by omega, by omega, by omega, by omega, fun i i0 i1 => ?_, ?_, ?_⟩
          · rw [c22, r2]
            unfold bval wrR
            by_cases z : i = n
            · rw [if_pos (by omega)]; omega
            · rw [if_neg (by omega)]
              have := j12 i i0 (by omega)
              unfold bval at this
              omega
          · rw [r2]
            exact (comes_WF j13 j6 (by omega) (by omega) (by omega)).sm sm
          · rw [r2]
            exact i2.sm sm
        obtain ⟨S', r, g1, g2, g3, g4⟩ := ih (n + 1) v S2 (wr T1 2 (3 + 10 * T 2 2 + 2 + n) v) f1 f2 hJ2 (by omega) (by omega) (by omega)
        rw [c22] at g1 g2
        refine ⟨S', r, ?_, ?_, fC.tr g3, ?_⟩
        · unfold lp; rw [s1]; exact g1
        · unfold lp; rw [s2]; exact g2
        · rw [cw] at g4
          rcases g4 with ⟨n', T', b1, b2, b3, b4, b5, b6, b7⟩ | ⟨T', b1, b2, b3, b4, b5⟩
          · exact Or.inl ⟨n', T', b1, fM.tr b2, by rw [b3, c22], by rw [b4, wr_idx (by omega), t2], by omega, b6, b7⟩
          · exact Or.inr ⟨T', b1, fM.tr b2, by omega, b4, b5⟩
      · obtain ⟨S', g1, g2, g3⟩ := cbad a1 c2
        have s2 : f_X8_readsBidder_l40 (3 + 10 * T 2 2) (n, last, T) = some (.inl (n + 1, 0, wr (wr T 0 23 1) 2 (3 + 10 * T 2 2 + 2 + n) 0)) := by
          unfold f_X8_readsBidder_l40
          dsimp only
          rw [if_pos (eqb_t j5), if_pos (eqb_t q), if_neg (nq (by omega) (by omega) (by omega) (by omega) (by omega)), a2, Option.bind_some]
          dsimp only
          rw [if_pos (by omega)]
          rfl
        have w23 : wr (wr T 0 23 1) 2 (3 + 10 * T 2 2 + 2 + n) 0 0 23 = 1 := by rw [wr_cell (by decide), wr_eq]
        have w21 : wr (wr T 0 23 1) 2 (3 + 10 * T 2 2 + 2 + n) 0 0 21 = T 0 21 := by rw [wr_cell (by decide), wr_idx (by decide)]
        have s3 : f_X8_readsBidder_l40 (3 + 10 * T 2 2) (n + 1, 0, wr (wr T 0 23 1) 2 (3 + 10 * T 2 2 + 2 + n) 0) = some (.inr (.inl (n + 1, wr (wr T 0 23 1) 2 (3 + 10 * T 2 2 + 2 + n) 0))) := by
          unfold f_X8_readsBidder_l40
          dsimp only
          rw [if_neg (show ¬ eqb (wr (wr T 0 23 1) 2 (3 + 10 * T 2 2 + 2 + n) 0 0 23) 0 = true by rw [w23]; decide)]
        obtain ⟨f2, rfl⟩ : ∃ x, f2 = x + 1 := ⟨f2 - 1, by omega⟩
        refine ⟨S', .inl (n + 1, wr (wr T 0 23 1) 2 (3 + 10 * T 2 2 + 2 + n) 0), g1, ?_, g2, Or.inl ⟨_, _, rfl, (FtM.wr0 (by decide)).tr FtM.wr2, ?_, ?_, by omega, by omega, Or.inr ⟨by omega, Or.inl w23⟩⟩⟩
        · unfold lp
          rw [s2]
          dsimp only
          unfold lp
          rw [s3]
        · rw [wr_idx (by omega), wr_ne (by decide)]
        · rw [wr_idx (by omega), wr_ne (by decide)]
    · have mstep : f_X8_readsBidder_l40 (3 + 10 * T 2 2) (n, last, T) = some (.inr (.inl (n, T))) := by
        unfold f_X8_readsBidder_l40
        dsimp only
        rw [if_pos (eqb_t j5), if_neg (nq q (by omega) (by omega) (by omega) (by omega))]
      by_cases q2 : S 1 1 = 2
      · obtain ⟨S', g1, g2, g3⟩ := cbad (N_bad j1 j3 j4 j5 (by decide) q).1 q2
        exact ⟨S', .inl (n, T), g1, by unfold lp; rw [mstep], g2, Or.inl ⟨n, T, rfl, FtM.rf, rfl, rfl, by omega, by omega, Or.inr ⟨g3, Or.inr ⟨j5, by omega⟩⟩⟩⟩
      · have cstep : f_X6_readBidder_l6 (T 2 2) (last, n, S) = some (.inr S) := by
          unfold f_X6_readBidder_l6
          dsimp only
          rw [if_pos (ltb_t (by omega) (by omega) (by omega)), if_neg (nq q2 (by omega) (by omega) (by omega) (by omega))]
        exact ⟨S, .inl (n, T), by unfold lp; rw [cstep], by unfold lp; rw [mstep], FtC.rf, Or.inl ⟨n, T, rfl, FtM.rf, rfl, rfl, by omega, by omega, Or.inl ⟨last, hJ⟩⟩⟩
