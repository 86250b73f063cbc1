/-! ===== hold ===== -/
/-- the record of the reference with one line more -/
def RecR (B B' : Int → Int) (e s p k : Int) : Prop := (∀ j, j < 93 → B' j = B j) ∧ (∀ j, 126 ≤ j → B' j = B j) ∧ B' 93 = min (B 93 + 1) 8 ∧ (B' (94 + 4 * (B' 93 - 1)) = e ∧ B' (94 + 4 * (B' 93 - 1) + 1) = s ∧ B' (94 + 4 * (B' 93 - 1) + 2) = p ∧ B' (94 + 4 * (B' 93 - 1) + 3) = k) ∧ ∀ x j, 0 ≤ x → x < B' 93 - 1 → 0 ≤ j → j < 4 → B' (94 + 4 * x + j) = B (94 + 4 * (x + (B 93 + 1 - B' 93)) + j)
theorem M_rec {U : Mem} {e s p k : Int} (h0 : 0 ≤ U 1 93) (h8 : U 1 93 < 8) : let B' := wr (wr (wr (wr (wr U 1 (94 + 4 * U 1 93) e) 1 (94 + 4 * U 1 93 + 1) s) 1 (94 + 4 * U 1 93 + 2) p) 1 (94 + 4 * U 1 93 + 3) k) 1 93 (U 1 93 + 1) 1
    B' 93 = U 1 93 + 1 ∧ (B' (94 + 4 * (U 1 93)) = e ∧ B' (94 + 4 * U 1 93 + 1) = s ∧ B' (94 + 4 * U 1 93 + 2) = p ∧ B' (94 + 4 * U 1 93 + 3) = k) ∧ ∀ j, j ≠ 93 → (j < 94 + 4 * U 1 93 ∨ 94 + 4 * U 1 93 + 4 ≤ j) → B' j = U 1 j := by
  refine ⟨wr_eq _ _ _ _, ⟨?_, ?_, ?_, ?_⟩, fun j j0 j1 => ?_⟩
  · rw [wr_idx (by omega), wr_idx (by omega), wr_idx (by omega), wr_idx (by omega), wr_eq]
  · rw [wr_idx (by omega), wr_idx (by omega), wr_idx (by omega), wr_eq]
  · rw [wr_idx (by omega), wr_idx (by omega), wr_eq]
  · rw [wr_idx (by omega), wr_eq]
  · rw [wr_idx j0, wr_idx (by omega), wr_idx (by omega), wr_idx (by omega), wr_idx (by omega)]
theorem C_write {S : Mem} {e s p k : Int} (h0 : 0 ≤ S 32 0) (h8 : S 32 0 ≤ 8) : ∃ S', f_X3_write S e s p k = some S' ∧ (∀ c, c ≠ 32 → c ≠ 33 → S' c = S c) ∧ S' 32 0 = min (S 32 0 + 1) 8 ∧ S' 33 0 = e ∧ S' 33 1 = s ∧ S' 33 2 = p ∧ S' 33 3 = k ∧ ∀ x, 0 ≤ x → x < 28 → S' 33 (x + 4) = S 33 x := by
  let A := wr (wr (wr (wr (cpy S 33 0 33 4 28) 33 0 e) 33 1 s) 33 2 p) 33 3 k
  have A32 : A 32 0 = S 32 0 := by show wr _ 33 3 _ 32 0 = _; rw [wr_cell (by decide), wr_cell (by decide), wr_cell (by decide), wr_cell (by decide), cpy_ne (by decide)]
  refine ⟨wr A 32 0 (min (S 32 0 + 1) 8), ?_, fun c c0 c1 => ?_, wr_eq _ _ _ _, ?_, ?_, ?_, ?_, fun x x0 x1 => ?_⟩
  · unfold f_X3_write
    rw [if_pos (by decide)]
    dsimp only [cpyk, wrk]
    rw [if_pos (by decide), if_pos (by decide), if_pos (by decide), if_pos (by decide)]
    show some (wr A 32 0 (mnb (A 32 0 + 1) 8)) = _
    rw [A32, mnb_le (by omega) (by omega) (by omega) (by omega)]
  · rw [wr_ne c0]
    show wr _ 33 3 _ c = _
    rw [wr_ne c1, wr_ne c1, wr_ne c1, wr_ne c1, cpy_ne c1]
  · rw [wr_cell (by decide)]
    show wr _ 33 3 _ 33 0 = _
    rw [wr_idx (by decide), wr_idx (by decide), wr_idx (by decide), wr_eq]
  · rw [wr_cell (by decide)]
    show wr _ 33 3 _ 33 1 = _
    rw [wr_idx (by decide), wr_idx (by decide), wr_eq]
  · rw [wr_cell (by decide)]
    show wr _ 33 3 _ 33 2 = _
    rw [wr_idx (by decide), wr_eq]
  · rw [wr_cell (by decide)]
    show wr _ 33 3 _ 33 3 = _
    rw [wr_eq]
  · rw [wr_cell (by decide)]
    show wr _ 33 3 _ 33 (x + 4) = _
    rw [wr_idx (by omega), wr_idx (by omega), wr_idx (by omega), wr_idx (by omega), cpy_at, if_pos (by omega), show 0 + (x + 4 - 4) = x by omega]
/-- the rest of the reference's hold -/
def hTail (u8 : Int × Mem) (a1 : Int) : Option (Int × Mem) := if (0 : Int) ≤ 93 ∧ (93 : Int) < 126 then (Option.bind (α := Mem) (if eqb (u8.2 1 93) 8 = true then ((lp (f_X8_hold_l37 a1 u8.1) FU (4, u8.2)).bind fun r36 => if (0 : Int) ≤ 93 ∧ (93 : Int) < 126 then (wrk r36 1 93 ((r36 1 93) - 1) fun S50 => some S50) else none) else (some u8.2)) fun j11 => if (0 : Int) ≤ 94 + (4 * (j11 1 93)) ∧ (94 + (4 * (j11 1 93))) < 126 then (wrk j11 1 (94 + (4 * (j11 1 93))) (j11 0 12) fun S15 => if (0 : Int) ≤ (94 + (4 * (j11 1 93))) + 1 ∧ ((94 + (4 * (j11 1 93))) + 1) < 126 then (wrk S15 1 ((94 + (4 * (j11 1 93))) + 1) (S15 0 11) fun S18 => if (0 : Int) ≤ (94 + (4 * (j11 1 93))) + 2 ∧ ((94 + (4 * (j11 1 93))) + 2) < 126 then (wrk S18 1 ((94 + (4 * (j11 1 93))) + 2) u8.1 fun S21 => if (0 : Int) ≤ (94 + (4 * (j11 1 93))) + 3 ∧ ((94 + (4 * (j11 1 93))) + 3) < 126 then (wrk S21 1 ((94 + (4 * (j11 1 93))) + 3) a1 fun S24 => wrk S24 1 93 ((S24 1 93) + 1) fun S26 => (f_X8_settles S26).bind fun S28 => some (S28 0 11, S28)) else none) else none) else none) else none) else none
theorem hTail_eq {U : Mem} {p k : Int} (h0 : 0 ≤ U 1 93) (h8 : U 1 93 ≤ 8) : ∃ V, hTail (p, U) k = ((f_X8_settles V).bind fun S28 => some (S28 0 11, S28)) ∧ Fr1 U V ∧ RecR (U 1) (V 1) (U 0 12) (U 0 11) p k := by
  have tail : ∀ W : Mem, 0 ≤ W 1 93 → W 1 93 < 8 → (if (0 : Int) ≤ 94 + (4 * (W 1 93)) ∧ (94 + (4 * (W 1 93))) < 126 then (wrk W 1 (94 + (4 * (W 1 93))) (W 0 12) fun S15 => if (0 : Int) ≤ (94 + (4 * (W 1 93))) + 1 ∧ ((94 + (4 * (W 1 93))) + 1) < 126 then (wrk S15 1 ((94 + (4 * (W 1 93))) + 1) (S15 0 11) fun S18 => if (0 : Int) ≤ (94 + (4 * (W 1 93))) + 2 ∧ ((94 + (4 * (W 1 93))) + 2) < 126 then (wrk S18 1 ((94 + (4 * (W 1 93))) + 2) p fun S21 => if (0 : Int) ≤ (94 + (4 * (W 1 93))) + 3 ∧ ((94 + (4 * (W 1 93))) + 3) < 126 then (wrk S21 1 ((94 + (4 * (W 1 93))) + 3) k fun S24 => wrk S24 1 93 ((S24 1 93) + 1) fun S26 => (f_X8_settles S26).bind fun S28 => some (S28 0 11, S28)) else none) else none) else none) else none) = ((f_X8_settles (wr (wr (wr (wr (wr W 1 (94 + 4 * W 1 93) (W 0 12)) 1 (94 + 4 * W 1 93 + 1) (W 0 11)) 1 (94 + 4 * W 1 93 + 2) p) 1 (94 + 4 * W 1 93 + 3) k) 1 93 (W 1 93 + 1))).bind fun S28 => some (S28 0 11, S28)) := by
    intro W w0 w1
    rw [if_pos (by omega)]
    dsimp only [wrk]
    rw [if_pos (by omega), wr_cell (k := 0) (by decide), if_pos (by omega), if_pos (by omega)]
    rw [wr_idx (show (93 : Int) ≠ 94 + 4 * W 1 93 + 3 by omega), wr_idx (show (93 : Int) ≠ 94 + 4 * W 1 93 + 2 by omega), wr_idx (show (93 : Int) ≠ 94 + 4 * W 1 93 + 1 by omega), wr_idx (show (93 : Int) ≠ 94 + 4 * W 1 93 by omega)]
  unfold hTail
  rw [if_pos (show (0 : Int) ≤ 93 ∧ (93 : Int) < 126 by decide)]
  dsimp only
  by_cases h : U 1 93 = 8
  · have g := lp_seq (step := f_X8_hold_l37 k p) (fun n => (4 + (n : Int), fl U 1 94 n (fun j => U 1 (j + 4)))) 28 (fl U 1 94 28 (fun j => U 1 (j + 4))) (fun i hi => by
      unfold f_X8_hold_l37
      dsimp only
      rw [if_pos (ltb_t (by omega) (by omega) (by omega)), if_pos (by omega), if_pos (by omega)]
      dsimp only [wrk]
      rw [fl_s (by omega) (by rw [fl_out (by omega), show 94 + (4 + (i : Int)) - 4 + 4 = 94 + (4 + (i : Int)) by omega]), show 4 + (i : Int) + 1 = 4 + ((i + 1 : Nat) : Int) by omega]) (by
      unfold f_X8_hold_l37
      dsimp only
      rw [if_neg (nl (by omega) (by omega) (by omega))]) (n := FU) (by rw [FU_eq]; omega)
    rw [fl_0, show 4 + ((0 : Nat) : Int) = 4 from rfl] at g
    have e93 : fl U 1 94 28 (fun j => U 1 (j + 4)) 1 93 = 8 := by rw [fl_out (by omega)]; exact h
    rw [if_pos (eqb_t h), g, Option.bind_some, if_pos (show (0 : Int) ≤ 93 ∧ (93 : Int) < 126 by decide)]
    dsimp only [wrk]
    rw [e93, Option.bind_some]
    let W := wr (fl U 1 94 28 (fun j => U 1 (j + 4))) 1 93 (8 - 1)
    have w93 : W 1 93 = 7 := wr_eq _ _ _ _
    have wo : ∀ j, j ≠ 93 → W 1 j = fl U 1 94 28 (fun j => U 1 (j + 4)) 1 j := fun j hj => wr_idx hj 1
    have w0 : ∀ c, c ≠ 1 → W c = U c := fun c hc => by show wr _ 1 93 _ c = _; rw [wr_ne hc, fl_ne hc]
    have t := tail W (by omega) (by omega)
    obtain ⟨r1, r2, r3⟩ := M_rec (U := W) (e := W 0 12) (s := W 0 11) (p := p) (k := k) (by omega) (by omega)
    refine ⟨_, t, fun c hc => ?_, fun j hj => ?_, fun j hj => ?_, ?_, ?_, fun x j x0 x1 j0 j1 => ?_⟩
    · rw [wr_ne hc, wr_ne hc, wr_ne hc, wr_ne hc, wr_ne hc, w0 c hc]
    · rw [r3 j (by omega) (by omega), wo j (by omega), fl_out (by omega)]
    · rw [r3 j (by omega) (by omega), wo j (by omega), fl_out (by omega)]
    · rw [r1, w93, h]; rfl
    · rw [r1, show W 1 93 + 1 - 1 = W 1 93 by omega, ← w0 0 (by decide)]
      exact r2
    · rw [r1] at x1 ⊢
      rw [r3 _ (by omega) (by omega), wo _ (by omega), fl_in (by omega) (by omega), w93, h]
      show U 1 _ = U 1 _
      rw [show 94 + 4 * x + j + 4 = 94 + 4 * (x + (8 + 1 - (7 + 1))) + j by omega]
  · rw [if_neg (nq h (by omega) (by omega) (by omega) (by omega)), Option.bind_some]
    have t := tail U h0 (by omega)
    obtain ⟨r1, r2, r3⟩ := M_rec (U := U) (e := U 0 12) (s := U 0 11) (p := p) (k := k) h0 (by omega)
    refine ⟨_, t, fun c hc => ?_, fun j hj => ?_, fun j hj => ?_, ?_, ?_, fun x j x0 x1 j0 j1 => ?_⟩
    · rw [wr_ne hc, wr_ne hc, wr_ne hc, wr_ne hc, wr_ne hc]
    · exact r3 j (by omega) (by omega)
    · exact r3 j (by omega) (by omega)
    · rw [r1]; omega
    · rw [r1, show U 1 93 + 1 - 1 = U 1 93 by omega]
      exact r2
    · rw [r1] at x1 ⊢
      rw [r3 _ (by omega) (by omega), show x + (U 1 93 + 1 - (U 1 93 + 1)) = x by omega]
theorem Q_hold {S T : Mem} {k : Int} (h : Rel S T) (hk : R32 k) : ∃ r S' T', f_X7_hold S k = some (r, S') ∧ f_X8_hold T k = some (r, T') ∧ Rel S' T' := by
  have n1 := h.1.2.2.2.2.2.1
  unfold f_X7_hold f_X8_hold
  rw [C_isKind hk, M_isKind hk, Option.bind_some, Option.bind_some]
  by_cases h3 : 0 ≤ k ∧ k ≤ 3
  · rw [if_pos h3, if_neg e10, if_neg e10]
    obtain ⟨S0, s1, s2, s3⟩ := Q_now h
    obtain ⟨S1, T1, a1, a2, a3, a4, a5, a6, a7⟩ := Q_remember s2
    have t1 : T1 1 = T 1 := a6 1 (by decide) (by decide)
    have hw := h.1
    have d1 : DC S1 4 (T 1) := by
      obtain ⟨x1, x2, x3, x4, x5⟩ := s3
      have fc : ∀ c : Nat, c ≠ 0 → c ≠ 34 → c ≠ 35 → S1 c = S0 c := a5
      exact ⟨x1.fr (fc _ (by decide) (by decide) (by decide)) (fc _ (by decide) (by decide) (by decide)) (fc _ (by decide) (by decide) (by decide)) (fc _ (by decide) (by decide) (by decide)), x2.fr (by rw [fc 4 (by decide) (by decide) (by decide)]) (fc _ (by decide) (by decide) (by decide)) (fc _ (by decide) (by decide) (by decide)) (fc _ (by decide) (by decide) (by decide)) (fc _ (by decide) (by decide) (by decide)) (fc _ (by decide) (by decide) (by decide)), by rw [fc 4 (by decide) (by decide) (by decide)]; exact x3, by rw [fc 4 (by decide) (by decide) (by decide)]; exact x4, fun b y z => by rw [fc (4 + 8) (by decide) (by decide) (by decide)]; exact x5 b y z⟩
    obtain ⟨S2, b1, b2⟩ := C_paidByAll (by decide) hw d1 h3.1 h3.2
    have d2 := d1.fp b2
    have hR2 : Rel S2 T1 := a3.ag (AgC.fp (Or.inl rfl) b2) AgM.rf
    obtain ⟨l0, l1, l2, l3⟩ := hR2.2.2.2.1
    obtain ⟨S3, c1, c2, c3, c4, c5, c6, c7, c8⟩ := C_write (S := S2) (e := S1 4 1) (s := S1 4 2) (p := bpaid (T 1) k) (k := k) l1 l2
    obtain ⟨T2, e1, e2, e3⟩ := DM.of (T := T1) (by decide) a3.1
    rw [t1] at e2
    obtain ⟨T3, f1, f2⟩ := M_paidAll (by decide) hw e2 h3.1 h3.2
    have m3 := e2.ft f2
    have e93 : T3 1 93 = S2 32 0 := by rw [m3.1, l0, t1]
    obtain ⟨V, v1, v2, v3⟩ := hTail_eq (U := T3) (p := bpaid (T 1) k) (k := k) (by omega) (by omega)
    obtain ⟨w1, w2, w3, w4, w5⟩ := v3
    rw [m3.1] at w1 w2 w3 w5
    have sm : Sm (T 1) (V 1) := by
      refine ⟨w1 0 (by decide), w1 1 (by decide), w1 2 (by decide), fun b x y => ⟨w1 _ (by omega), w1 _ (by omega), fun i i0 i1 => ?_⟩⟩
      have cb := bcnt_bnd hw x y
      exact w1 _ (by omega)
    have wV := hw.sm sm
    have hh : ∀ b, 0 ≤ b → b < V 1 2 → 0 ≤ hs (oc (T 1)) b ∧ hs (oc (T 1)) b ≤ bcap (V 1) b ∧ hs (oc (T 1)) b ≤ bcnt (V 1) b := fun b b0 b1 => by
      rw [sm.2.2.1] at b1
      have o := oc_used hw b0 b1
      have u := bused_bnd hw b0 b1
      have q := sm.2.2.2 b b0 b1
      rw [q.1, q.2.1]
      omega
    obtain ⟨T4, g1, g2, g3⟩ := M_settles (T := V) (N := 8) (h := hs (oc (T 1))) (by decide) wV (fun b b0 b1 => by rw [v2 5 (by decide)]; exact m3.units b0 (by rw [← sm.2.2.1]; exact b1)) hh
    have fc3 : ∀ c : Nat, c ≠ 32 → c ≠ 33 → S3 c = S2 c := c2
    have rb3 : RB S3 5 (V 1) := (d2.1.fr (fc3 _ (by decide) (by decide)) (fc3 _ (by decide) (by decide)) (fc3 _ (by decide) (by decide)) (fc3 _ (by decide) (by decide))).sm sm
    obtain ⟨S4, k1, k2, k3⟩ := C_handOver (q := 5) (u := 11) (h := hs (oc (T 1))) (by decide) wV rb3 (by omega) (fun b b0 b1 => by rw [fc3 11 (by decide) (by decide)]; exact d2.units b0 (by rw [← sm.2.2.1]; exact b1)) hh g3
    have es : S4 4 2 = ((oc (T 1)).length : Nat) := by
      rw [k3 4 (by decide) (by decide) (by decide) (by decide), fc3 4 (by decide) (by decide)]
      exact d2.2.1.1
    have et : T4 0 11 = ((oc (T 1)).length : Nat) := by
      rw [g2 0 (by decide), v2 0 (by decide)]
      exact m3.2.1.1
    have s41 : S1 4 1 = T3 0 12 := by rw [d1.2.2.1, m3.2.2.1]
    have s42 : S1 4 2 = T3 0 11 := by rw [show S1 4 2 = ((oc (T 1)).length : Nat) from d1.2.1.1, show T3 0 11 = ((oc (T 1)).length : Nat) from m3.2.1.1]
    have hC : ∃ x, x = some ((((oc (T 1)).length : Nat) : Int), S4) := ⟨_, rfl⟩
    rw [s1, Option.bind_some, a1, Option.bind_some, b1, Option.bind_some]
    dsimp only
    rw [c1, Option.bind_some, k1, Option.bind_some, a2, Option.bind_some, e1, Option.bind_some, f1, Option.bind_some, es]
    refine ⟨_, S4, T4, rfl, ?_, ?_⟩
    · show hTail (bpaid (T 1) k, T3) k = _
      rw [v1, g1, Option.bind_some, et]
    · have fk : ∀ c : Nat, c ≠ 5 → c ≠ 6 → c ≠ 7 → c ≠ 8 → c ≠ 32 → c ≠ 33 → c ≠ 9 → c ≠ 10 → S4 c = S1 c := fun c x5 x6 x7 x8 x32 x33 x9 x10 => by rw [k3 c x5 x6 x7 x8, fc3 c x32 x33, b2 c x9 x10]
      have gk : ∀ c : Nat, c ≠ 0 → c ≠ 1 → c ≠ 5 → c ≠ 6 → c ≠ 7 → c ≠ 8 → c ≠ 9 → c ≠ 10 → T4 c = T1 c := fun c y0 y1 y5 y6 y7 y8 y9 y10 => by rw [g2 c y1, v2 c y1, f2 c y10, e3.1 c y0 y5 y6 y7 y8 y9]
      have g0 : ∀ j, j ≠ 11 → j ≠ 12 → T4 0 j = T1 0 j := fun j x y => by rw [g2 0 (by decide), v2 0 (by decide), f2 0 (by decide), e3.2 j x y]
      refine ⟨g3.WF wV hh, k2, Or.inr (by rw [fk 0 (by decide) (by decide) (by decide) (by decide) (by decide) (by decide) (by decide) (by decide)]; exact a4), ?_, ?_, ?_, ?_⟩
      · rw [k3 33 (by decide) (by decide) (by decide) (by decide), k3 32 (by decide) (by decide) (by decide) (by decide), c3]
        have z := g3.2.2.2.2
        have z93 : T4 1 93 = min (S2 32 0 + 1) 8 := by rw [z 93 (by omega), w3, l0, t1]
        refine ⟨z93.symm, by omega, by omega, fun x j x0 x1 j0 j1 => ?_⟩
        rw [z _ (by omega)]
        by_cases hx : x = 0
        · subst hx
          rw [z 93 (by omega)] at z93
          rw [show min (S2 32 0 + 1) 8 - 1 - 0 = V 1 93 - 1 by omega]
          rcases (show j = 0 ∨ j = 1 ∨ j = 2 ∨ j = 3 by omega) with e | e | e | e <;> subst e
          · rw [show 4 * (0 : Int) + 0 = 0 by decide, c4, Int.add_zero, w4.1, s41]
          · rw [show 4 * (0 : Int) + 1 = 1 by decide, c5, w4.2.1, s42]
          · rw [show 4 * (0 : Int) + 2 = 2 by decide, c6, w4.2.2.1]
          · rw [show 4 * (0 : Int) + 3 = 3 by decide, c7, w4.2.2.2]
        · rw [z 93 (by omega)] at z93
          rw [show 4 * x + j = (4 * (x - 1) + j) + 4 by omega, c8 _ (by omega) (by omega), l3 (x - 1) j (by omega) (by omega) j0 j1, t1, show min (S2 32 0 + 1) 8 - 1 - x = V 1 93 - 1 - x by omega, w5 _ j (by omega) (by omega) j0 j1]
          have lt : T 1 93 = S2 32 0 := by rw [l0, t1]
          rw [show 94 + 4 * (S2 32 0 - 1 - (x - 1)) + j = 94 + 4 * (V 1 93 - 1 - x + (T 1 93 + 1 - V 1 93)) + j by omega]
      · unfold RH
        rw [fk 34 (by decide) (by decide) (by decide) (by decide) (by decide) (by decide) (by decide) (by decide), fk 35 (by decide) (by decide) (by decide) (by decide) (by decide) (by decide) (by decide) (by decide), g0 5 (by decide) (by decide), gk 4 (by decide) (by decide) (by decide) (by decide) (by decide) (by decide) (by decide) (by decide)]
        exact a3.2.2.2.2.1
      · unfold RT
        rw [fk 2 (by decide) (by decide) (by decide) (by decide) (by decide) (by decide) (by decide) (by decide), fk 3 (by decide) (by decide) (by decide) (by decide) (by decide) (by decide) (by decide) (by decide), g0 17 (by decide) (by decide), gk 12 (by decide) (by decide) (by decide) (by decide) (by decide) (by decide) (by decide) (by decide)]
        exact a3.2.2.2.2.2.1
      · unfold RW
        rw [gk 13 (by decide) (by decide) (by decide) (by decide) (by decide) (by decide) (by decide) (by decide)]
        exact a3.2.2.2.2.2.2
  · rw [if_neg h3]
    exact ⟨_, _, _, rfl, rfl, h⟩
