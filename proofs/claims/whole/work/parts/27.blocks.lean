/-! ===== blocks ===== -/
theorem AgC.tr17 {S S1 S2 : Mem} (h : AgC S S1) (g : ∀ k : Nat, k ≠ 9 → k ≠ 10 → k ≠ 17 → S2 k = S1 k) : AgC S S2 := fun k a => (g k (by omega) (by omega) (by omega)).trans (h k a)
def gset (B : Int → Int) (k set : Int) : Nat → Int := sumN (fun b => if eqb (andb (shrb set b) 1) 1 = true then bgain B b k else 0)
theorem gset_bnd {N : Int} {B : Int → Int} {k set : Int} (hN : N ≤ 9) (hw : WF N B) : ∀ n : Nat, (n : Int) ≤ B 2 → -300000 ≤ gset B k set n ∧ gset B k set n ≤ 300000 := by
  intro n hn
  have n1 := hw.2.2.2.2.2.1
  have := sumN_bnd (g := fun b => if eqb (andb (shrb set b) 1) 1 = true then bgain B b k else 0) (lo := -30000) (hi := 30000) n (fun i hi => by
    have := gain_bnd (b := i) (k := k) hN hw (by omega) (by omega)
    split <;> omega)
  unfold gset
  omega
theorem C_reckonGains {B : Int → Int} {S2 : Mem} {k : Int} (hw : WF 8 B) (d2 : DC S2 4 B) (h3 : 0 ≤ k ∧ k ≤ 3) : ∃ S3, f_X0_reckonGains S2 4 k = some S3 ∧ (∀ q : Nat, q ≠ 9 → q ≠ 10 → q ≠ 17 → S3 q = S2 q) ∧ ∀ b : Int, 0 ≤ b → b < B 2 → S3 17 b = bgain B b k := by
  have n0 := hw.2.2.2.2.1
  have n1 := hw.2.2.2.2.2.1
  obtain ⟨S3, c1, c2, c3⟩ := lp_rel (step := f_X0_reckonGains_l2 4 k) (fun i (t : Int × Mem) => t.1 = i ∧ (∀ q : Nat, q ≠ 9 → q ≠ 10 → q ≠ 17 → t.2 q = S2 q) ∧ ∀ b : Int, 0 ≤ b → b < (i : Int) → t.2 17 b = bgain B b k) (fun (r : Mem) => (∀ q : Nat, q ≠ 9 → q ≠ 10 → q ≠ 17 → r q = S2 q) ∧ ∀ b : Int, 0 ≤ b → b < B 2 → r 17 b = bgain B b k) (B 2).toNat (by
      intro i t hi ⟨e0, hF, e1⟩
      obtain ⟨t1, t2⟩ := t
      dsimp only at e0 hF e1 ⊢
      subst e0
      have dd : DC t2 4 B := d2.ag (fun q hq => hF q (by omega) (by omega) (by omega))
      obtain ⟨u, g1, g2⟩ := C_gainOf (b := i) (by decide) hw dd (by omega) (by omega) h3.1 h3.2
      refine ⟨((i : Int) + 1, wr u 17 i (bgain B i k)), ?_, rfl, fun q a1 a2 a3 => ?_, fun b a1 a2 => ?_⟩
      · unfold f_X0_reckonGains_l2
        dsimp only
        rw [if_pos (show ltb (i : Int) (t2 (4 + 1) 2) = true by rw [dd.1.2.2.1]; exact ltb_t (by omega) (by omega) (by omega)), g1]
        simp only [Option.bind_some]
        rw [if_pos (by omega)]
        rfl
      · dsimp only
        rw [wr_ne a3, g2 q (by omega) (by omega)]
        exact hF q a1 a2 a3
      · dsimp only
        by_cases hb : b = i
        · rw [hb, wr_eq]
        · rw [wr_idx hb, g2 17 (by omega) (by omega)]
          exact e1 b a1 (by omega)) (by
      intro t ⟨e0, hF, e1⟩
      obtain ⟨t1, t2⟩ := t
      dsimp only at e0 hF e1 ⊢
      subst e0
      refine ⟨t2, ?_, hF, fun b a1 a2 => e1 b a1 (by omega)⟩
      unfold f_X0_reckonGains_l2
      dsimp only
      rw [if_neg (show ¬ ltb (((B 2).toNat : Nat) : Int) (t2 (4 + 1) 2) = true by rw [hF (4 + 1) (by omega) (by omega) (by omega), show S2 (4 + 1) 2 = B 2 from d2.1.2.2.1]; exact nl (by omega) (by omega) (by omega))]) (n := FU) (by rw [FU_eq]; omega) (s := (0, S2)) ⟨rfl, fun _ _ _ _ => rfl, fun b a1 a2 => by omega⟩
  refine ⟨S3, ?_, c2, c3⟩
  unfold f_X0_reckonGains
  rw [c1]
  rfl
theorem C_gainOfSet {B : Int → Int} {s4 : Mem} {k i : Int} (hw : WF 8 B) (hD4 : DC s4 4 B) (h17 : ∀ b : Int, 0 ≤ b → b < B 2 → s4 17 b = bgain B b k) : f_X0_gainOfSet s4 4 i = some (gset B k i (B 2).toNat) := by
  have n0 := hw.2.2.2.2.1
  have n1 := hw.2.2.2.2.2.1
  unfold f_X0_gainOfSet
  rw [lp_sum (fun b => if eqb (andb (shrb i b) 1) 1 = true then bgain B b k else 0) (B 2).toNat (fun x j hj => by
    unfold f_X0_gainOfSet_l4
    dsimp only
    have e17 : s4 (4 + 13) j = bgain B j k := h17 j (by omega) (by omega)
    rw [show s4 (4 + 1) 2 = B 2 from hD4.1.2.2.1, if_pos (ltb_t (by omega) (by omega) (by omega)), if_pos (show (0 : Int) ≤ (j : Int) ∧ (j : Int) < 9 by omega), e17]
    split
    · rfl
    · rw [Int.add_zero]; rfl) (fun x => by
    unfold f_X0_gainOfSet_l4
    dsimp only
    rw [show s4 (4 + 1) 2 = B 2 from hD4.1.2.2.1, if_neg (nl (by omega) (by omega) (by omega))]) (by omega)]
  rfl
theorem M_gainOfSet {B : Int → Int} {T' t : Mem} {k i y : Int} (hw : WF 8 B) (t2 : DM T' B) (hG : FrT T' t) (h3 : 0 ≤ k ∧ k ≤ 3) : ∃ rm, lp (f_X8_blocks_l47 k y i) FU (y, 0, t) = some rm ∧ rm.1 = y + gset B k i (B 2).toNat ∧ FrT T' rm.2 := by
  have n0 := hw.2.2.2.2.1
  have n1 := hw.2.2.2.2.2.1
  exact lp_rel (step := f_X8_blocks_l47 k y i) (fun j (x : Int × Int × Mem) => x.1 = y + gset B k i j ∧ x.2.1 = j ∧ FrT T' x.2.2) (fun (x : Int × Mem) => x.1 = y + gset B k i (B 2).toNat ∧ FrT T' x.2) (B 2).toNat (by
          intro j x hj ⟨y0, y1, hX⟩
          obtain ⟨x1, x2, x3⟩ := x
          dsimp only at y0 y1 hX ⊢
          subst y0 y1
          have hY := t2.ft hX
          unfold f_X8_blocks_l47
          dsimp only
          rw [M_many]
          simp only [Option.bind_some]
          rw [if_pos (show ltb (j : Int) (x3 1 2) = true by rw [hY.1]; exact ltb_t (by omega) (by omega) (by omega))]
          by_cases hin : eqb (andb (shrb i j) 1) 1 = true
          · obtain ⟨x4, b1, b2⟩ := M_gainOf (b := j) (by decide) hw hY (by omega) (by omega) h3.1 h3.2
            rw [if_pos hin, b1]
            refine ⟨_, rfl, ?_, rfl, hX.tr b2⟩
            show _ = _ + (gset B k i j + if eqb (andb (shrb i j) 1) 1 = true then bgain B j k else 0)
            rw [if_pos hin]
            dsimp only
            omega
          · rw [if_neg hin]
            refine ⟨_, rfl, ?_, rfl, hX⟩
            show _ = _ + (gset B k i j + if eqb (andb (shrb i j) 1) 1 = true then bgain B j k else 0)
            rw [if_neg hin]
            dsimp only
            omega) (by
          intro x ⟨y0, y1, hX⟩
          obtain ⟨x1, x2, x3⟩ := x
          dsimp only at y0 y1 hX ⊢
          subst y1
          have hY := t2.ft hX
          refine ⟨(x1, x3), ?_, y0, hX⟩
          unfold f_X8_blocks_l47
          dsimp only
          rw [M_many]
          simp only [Option.bind_some]
          rw [if_neg (show ¬ ltb (((B 2).toNat : Nat) : Int) (x3 1 2) = true by rw [hY.1]; exact nl (by omega) (by omega) (by omega))]) (n := FU) (by rw [FU_eq]; omega) (s := (y, 0, t)) ⟨(Int.add_zero y).symm, rfl, hG⟩
theorem res_bnd {N : Int} {B : Int → Int} (hw : WF N B) : 0 ≤ B 1 * bun B ∧ B 1 * bun B ≤ 2970 := by
  have l := oc_len hw
  have r0 := hw.1
  have r1 := hw.2.1
  have r2 := hw.2.2.1
  have r3 := hw.2.2.2.1
  have m2 := mul_bnd (x := B 1) (y := bun B) (a := 99) (b := 30) (by omega) (by omega) (by unfold bun; omega) (by unfold bun; omega)
  omega
theorem Q_blocks {S T : Mem} {k : Int} (h : Rel S T) (hk : R32 k) : ∃ r S' T', f_X7_blocks S k = some (r, S') ∧ f_X8_blocks T k = some (r, T') ∧ Rel S' T' := by
  have n0 := h.1.2.2.2.2.1
  have n1 := h.1.2.2.2.2.2.1
  have r0 := h.1.1
  have r1 := h.1.2.1
  unfold f_X7_blocks f_X8_blocks
  generalize hfu : FU = fu
  rw [C_isKind hk, M_isKind hk]
  simp only [Option.bind_some]
  by_cases h3 : 0 ≤ k ∧ k ≤ 3
  · rw [if_pos h3, if_neg e10, if_neg e10]
    obtain ⟨S', s1, s2, s3⟩ := Q_now h
    obtain ⟨T', t1, t2, t3⟩ := Q_runs s2
    obtain ⟨S2, u1, u2⟩ := C_paidByAll (by decide) h.1 s3 h3.1 h3.2
    obtain ⟨T2, v1, v2⟩ := M_paidAll (by decide) h.1 t2 h3.1 h3.2
    have d2 := s3.fp u2
    have m2 := t2.ft v2
    have bb : 0 ≤ bset (T 1) ∧ bset (T 1) ≤ 511 := bset_bnd n0 (by omega)
    have hp : -180000 ≤ bpaid (T 1) k ∧ bpaid (T 1) k ≤ 180000 := by
      have := sumN_bnd (g := fun b => pay (T 1) b k) (lo := -20000) (hi := 20000) (T 1 2).toNat (fun i hi => pay_bnd (by decide) h.1 (by omega) (by omega))
      unfold bpaid
      omega
    generalize bpaid (T 1) k = bp at u1 v1 hp
    have lo := oc_len h.1
    have hu := res_bnd h.1
    rw [s1, t1]
    simp only [Option.bind_some]
    rw [u1, Option.bind_some, v1, Option.bind_some]
    dsimp only
    have cu : f_X0_unsold S2 4 = some (bun (T 1)) := by
      unfold f_X0_unsold
      have z1 : S2 5 0 = T 1 0 := d2.1.1
      have z2 : S2 4 2 = ((oc (T 1)).length : Nat) := d2.2.1.1
      rw [show 4 + 1 = 5 from rfl, z1, z2]
      rfl
    have mu : f_X8_unsold T2 = some (bun (T 1)) := by
      unfold f_X8_unsold
      rw [if_pos (by decide), m2.1, show T2 0 11 = ((oc (T 1)).length : Nat) from m2.2.1.1]
      rfl
    have ce : f_X1_everyone S2 5 = some (bset (T 1)) := by
      unfold f_X1_everyone
      rw [show S2 5 2 = T 1 2 from d2.1.2.2.1]
      rfl
    rw [cu, Option.bind_some, mu, Option.bind_some, ce, Option.bind_some]
    rw [if_pos (show (0 : Int) ≤ 1 ∧ (1 : Int) < 126 by decide), m2.1, show S2 5 1 = T 1 1 from d2.1.2.1]
    obtain ⟨S3, cr, c2, c3⟩ := C_reckonGains h.1 d2 h3
    rw [cr, Option.bind_some]
    have dS3 : DC S3 4 (T 1) := d2.ag (fun q hq => c2 q (by omega) (by omega) (by omega))
    obtain ⟨r, r', g1, g2, g3⟩ := lp_sim (step := f_X7_blocks_l50 (bp + T 1 1 * bun (T 1)) (bset (T 1))) (step' := f_X8_blocks_l33 k (bp + T 1 1 * bun (T 1))) (fun s t => s.1 = t.1 ∧ 1 ≤ s.1 ∧ s.1 ≤ bset (T 1) + 1 ∧ FrP S3 s.2 5 ∧ FrT T' t.2) (fun s => (bset (T 1) + 1 - s.1).toNat) (fun r r' => match r with
      | .inl x => ∃ y, r' = .inl y ∧ FrP S3 x 5 ∧ FrT T' y
      | .inr x => ∃ y, r' = .inr y ∧ x.1 = y.1 ∧ FrP S3 x.2 5 ∧ FrT T' y.2) (by
      intro s t ⟨e, x0, x1, hF, hG⟩
      obtain ⟨i, s⟩ := s
      obtain ⟨i', t⟩ := t
      dsimp only at e x0 x1 hF hG ⊢
      subst e
      have hD := dS3.fp hF
      have hE := t2.ft hG
      unfold f_X7_blocks_l50 f_X8_blocks_l33
      dsimp only
      rw [M_everybody, hE.1]
      simp only [Option.bind_some]
      rw [show shlb 1 (T 1 2) - 1 = bset (T 1) from rfl]
      by_cases hi : bset (T 1) < i
      · rw [if_pos (ltb_t hi (by omega) (by omega)), if_pos (ltb_t hi (by omega) (by omega))]
        exact Or.inr ⟨_, _, rfl, rfl, _, rfl, hF, hG⟩
      · have ql := nl (x := bset (T 1)) (y := i) (by omega) (by omega) (by omega)
        obtain ⟨s4, p1, p2⟩ := C_worthTo (S := s) (q := 5) (set := i) (units := T 1 0) (by decide) h.1 hD.1 (by omega) (by omega)
        rw [if_neg ql, if_neg ql, show s 5 0 = T 1 0 from hD.1.1, p1]
        simp only [Option.bind_some]
        have hD4 := hD.fp p2
        have cg := C_gainOfSet (s4 := s4) (k := k) (i := i) h.1 hD4 (fun b a1 a2 => by
          rw [p2 17 (by omega) (by omega), hF 17 (by omega) (by omega)]
          exact c3 b a1 a2)
        rw [cg]
        simp only [Option.bind_some]
        obtain ⟨rm, a1, a2, a3⟩ := M_gainOfSet (i := i) (y := bp + T 1 1 * bun (T 1)) h.1 t2 hG h3
        have hX := t2.ft a3
        obtain ⟨t4, q1, q2⟩ := M_worthTo (N := 8) (T := rm.2) (set := i) (units := T 1 0) (by decide) (by rw [hX.1]; exact h.1) (by omega) (by omega)
        rw [a1]
        simp only [Option.bind_some]
        rw [if_pos (show (0 : Int) ≤ 0 ∧ (0 : Int) < 126 by decide), hX.1, q1, a2, hX.1]
        simp only [Option.bind_some]
        have wb := bworth_bnd (B := T 1) (set := i) (units := T 1 0) (by omega)
        have gb := gset_bnd (k := k) (set := i) (by decide) h.1 (T 1 2).toNat (by omega)
        by_cases hl : bp + T 1 1 * bun (T 1) + gset (T 1) k i (T 1 2).toNat < bworth (T 1) i (T 1 0)
        · rw [if_pos (ltb_t hl (by omega) (by omega)), if_pos (ltb_t hl (by omega) (by omega))]
          exact Or.inr ⟨_, _, rfl, rfl, _, rfl, rfl, hF.tr p2, a3.tr q2⟩
        · have ql2 := nl (x := bp + T 1 1 * bun (T 1) + gset (T 1) k i (T 1 2).toNat) (y := bworth (T 1) i (T 1 0)) (by omega) (by omega) (by omega)
          rw [if_neg ql2, if_neg ql2]
          exact Or.inl ⟨_, _, rfl, rfl, ⟨rfl, by dsimp only; omega, by dsimp only; omega, hF.tr p2, a3.tr q2⟩, by dsimp only; omega⟩) fu (1, S3) (1, T2) ⟨rfl, by dsimp only; omega, by dsimp only; omega, fun _ _ _ => rfl, v2⟩ (by dsimp only; rw [← hfu, FU_eq]; omega)
    rw [g1, g2]
    simp only [Option.bind_some]
    have ag3 : AgC S' S3 := (AgC.fp (Or.inl rfl) u2).tr17 c2
    cases r with
    | inl x =>
      obtain ⟨y, e, f1, f2⟩ := g3
      subst e
      exact ⟨_, _, _, rfl, rfl, t3.ag (ag3.tr (AgC.fp (Or.inl rfl) f1)) (AgM.ft f2)⟩
    | inr x =>
      obtain ⟨y, e, e2, f1, f2⟩ := g3
      subst e
      refine ⟨x.1, x.2, y.2, rfl, ?_, t3.ag (ag3.tr (AgC.fp (Or.inl rfl) f1)) (AgM.ft f2)⟩
      rw [e2]
      rfl
  · rw [if_neg h3]
    exact ⟨_, _, _, rfl, rfl, h⟩
