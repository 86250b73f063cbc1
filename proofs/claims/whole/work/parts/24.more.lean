/-! ===== sold, worth, dearest, per unit, alike ===== -/
theorem nl {x y : Int} (h : y ≤ x) (h1 : -2147483648 ≤ y) (h2 : x < 2147483648) : ¬ ltb x y = true := by rw [ltb_f h h1 h2]; decide
theorem nq {x y : Int} (h : x ≠ y) (h1 : -2147483648 ≤ x) (h2 : x < 2147483648) (h3 : -2147483648 ≤ y) (h4 : y < 2147483648) : ¬ eqb x y = true := by rw [eqb_f h h1 h2 h3 h4]; decide
theorem R32.ne {w : Int} (h : R32 w) {v : Int} (h1 : w ≠ v) (h2 : -1000000 ≤ v) (h3 : v ≤ 1000000) : ¬ eqb w v = true := nq h1 h.1 h.2 (by omega) (by omega)
theorem Q_sold {S T : Mem} {a w : Int} (h : Rel S T) (ha : R32 a) (hw : R32 w) : ∃ r S' T', f_X7_sold S a w = some (r, S') ∧ f_X8_sold T a w = some (r, T') ∧ Rel S' T' := by
  obtain ⟨S', s1, s2, s3⟩ := Q_now h
  obtain ⟨T', t1, t2, t3⟩ := Q_runs s2
  have l1 := oc_len h.1
  have l2 := h.1.2.1
  have c11 : S' 4 2 = ((oc (T 1)).length : Nat) := s3.2.1.1
  have m11 : T' 0 11 = ((oc (T 1)).length : Nat) := t2.2.1.1
  unfold f_X7_sold f_X8_sold
  rw [s1]
  simp only [Option.bind_some]
  by_cases h0 : a < 0
  · rw [if_pos (ltb_t h0 ha.1 (by omega)), if_pos (ltb_t h0 ha.1 (by omega))]
    exact ⟨_, _, _, rfl, rfl, s2⟩
  · have nl0 := nl (x := a) (y := 0) (by omega) (by omega) ha.2
    rw [if_neg nl0, if_neg nl0, M_inL hw (by decide) (by decide), c11]
    simp only [Option.bind_some]
    by_cases h1 : 0 ≤ w ∧ w ≤ 1
    · rw [if_pos h1, if_neg e10, t1]
      simp only [Option.bind_some]
      rw [m11]
      by_cases h2 : a < ((oc (T 1)).length : Nat)
      · have hlt := ltb_t h2 ha.1 (by omega)
        have cs := s3.2.1.2.2.2 a (by omega) h2
        have ct := t2.2.1.2.2.2 a (by omega) h2
        rw [if_pos hlt, if_pos hlt]
        rcases (show w = 0 ∨ w = 1 by omega) with e | e <;> subst e
        · rw [if_pos e00, if_pos (by omega), if_pos e00, if_pos (by omega), cs.1, ct.1]
          exact ⟨_, _, _, rfl, rfl, t3⟩
        · rw [if_neg n10, if_pos n11, if_pos (by omega), if_neg n10, if_pos (by omega), cs.2, ct.2]
          exact ⟨_, _, _, rfl, rfl, t3⟩
      · have hnl := nl (x := a) (y := (((oc (T 1)).length : Nat) : Int)) (by omega) (by omega) ha.2
        rw [if_neg hnl, if_neg hnl]
        exact ⟨_, _, _, rfl, rfl, t3⟩
    · rw [if_neg h1, if_pos e00, if_neg (hw.ne (by omega) (by decide) (by decide)), if_neg (hw.ne (by omega) (by decide) (by decide))]
      split
      · exact ⟨_, _, _, rfl, rfl, s2⟩
      · exact ⟨_, _, _, rfl, rfl, s2⟩
theorem bset_all : ∀ n : Nat, n < 10 → 0 ≤ shlb 1 ((n : Nat) : Int) - 1 ∧ shlb 1 ((n : Nat) : Int) - 1 ≤ 511 := by decide +kernel
theorem bset_bnd {n : Int} (h0 : 0 ≤ n) (h1 : n ≤ 9) : 0 ≤ shlb 1 n - 1 ∧ shlb 1 n - 1 ≤ 511 := by
  have := bset_all n.toNat (by omega)
  rw [show ((n.toNat : Nat) : Int) = n by omega] at this
  exact this
theorem M_everybody {T : Mem} : f_X8_everybody T = some (shlb 1 (T 1 2) - 1) := by
  unfold f_X8_everybody
  rw [M_many]
  rfl
theorem Q_worth {S T : Mem} {a u : Int} (h : Rel S T) (ha : R32 a) (hu : R32 u) : ∃ r S' T', f_X7_worth S a u = some (r, S') ∧ f_X8_worth T a u = some (r, T') ∧ Rel S' T' := by
  have n0 := h.1.2.2.2.2.1
  have n1 := h.1.2.2.2.2.2.1
  have bb := bset_bnd n0 (by omega)
  unfold f_X7_worth f_X8_worth f_X1_everyone
  rw [M_everybody, h.2.1.2.2.1]
  simp only [Option.bind_some]
  rw [M_inL ha (by decide) (by omega)]
  simp only [Option.bind_some]
  by_cases h0 : a < 0
  · rw [if_pos (ltb_t h0 ha.1 (by omega)), if_neg (show ¬ (0 ≤ a ∧ a ≤ shlb 1 (T 1 2) - 1) by omega), if_pos e00]
    exact ⟨_, _, _, rfl, rfl, h⟩
  · rw [if_neg (nl (x := a) (y := 0) (by omega) (by omega) ha.2)]
    by_cases h1 : shlb 1 (T 1 2) - 1 < a
    · rw [if_pos (ltb_t h1 (by omega) ha.2), if_neg (show ¬ (0 ≤ a ∧ a ≤ shlb 1 (T 1 2) - 1) by omega), if_pos e00]
      exact ⟨_, _, _, rfl, rfl, h⟩
    · rw [if_neg (nl (x := shlb 1 (T 1 2) - 1) (y := a) (by omega) (by omega) (by omega)), if_pos (show 0 ≤ a ∧ a ≤ shlb 1 (T 1 2) - 1 by omega), if_neg e10, M_inL hu (by decide) (by decide)]
      simp only [Option.bind_some]
      by_cases h2 : u < 0
      · rw [if_pos (ltb_t h2 hu.1 (by omega)), if_neg (show ¬ (0 ≤ u ∧ u ≤ 30) by omega), if_pos e00]
        exact ⟨_, _, _, rfl, rfl, h⟩
      · rw [if_neg (nl (x := u) (y := 0) (by omega) (by omega) hu.2)]
        by_cases h3 : 30 < u
        · rw [if_pos (ltb_t h3 (by omega) hu.2), if_neg (show ¬ (0 ≤ u ∧ u ≤ 30) by omega), if_pos e00]
          exact ⟨_, _, _, rfl, rfl, h⟩
        · rw [if_neg (nl (x := 30) (y := u) (by omega) (by omega) (by omega)), if_pos (show 0 ≤ u ∧ u ≤ 30 by omega), if_neg e10]
          obtain ⟨S', g1, g2⟩ := C_worthTo (set := a) (units := u) (by decide) h.1 h.2.1 (by omega) (by omega)
          obtain ⟨T', k1, k2⟩ := M_worthTo (set := a) (units := u) (by decide) h.1 (by omega) (by omega)
          rw [g1, k1]
          exact ⟨_, _, _, rfl, rfl, h.ag (AgC.fp (Or.inl rfl) g2) (AgM.ft k2)⟩
/-- what is paid stays small -/
theorem gr_bnd {t : Int → Int} (ht : ∀ v : Int, 0 ≤ t v) : ∀ (k : Nat) (left : Int), k ≤ 100 → 0 ≤ left → 0 ≤ gr t k left ∧ gr t k left ≤ 99 * left
  | 0, left, _, hl => by
    unfold gr
    omega
  | k + 1, left, hk, hl => by
    have h1 := ht k
    have ih := gr_bnd ht k (left - min left (t k)) (by omega) (by omega)
    unfold gr
    have hm : 0 ≤ min left (t k) := by omega
    have h2 : min left (t k) * (k : Int) ≤ min left (t k) * 99 := Int.mul_le_mul_of_nonneg_left (by omega) hm
    have h3 : 0 ≤ min left (t k) * (k : Int) := Int.mul_nonneg hm (by omega)
    omega
theorem tW_nn {B : Int → Int} {set units : Int} (hu : 0 ≤ units) (v : Int) : 0 ≤ tW B set units v := by
  unfold tW
  have := rem_nn B (fun _ => 0) (limS B set) v
  split <;> omega
theorem bworth_bnd {B : Int → Int} {set units : Int} (hu : 0 ≤ units) : 0 ≤ bworth B set units ∧ bworth B set units ≤ 99 * units := gr_bnd (tW_nn hu) 100 units (by omega) hu
theorem bhad_bnd {N : Int} {B : Int → Int} (hN : N ≤ 9) (hw : WF N B) : 0 ≤ bhad B ∧ bhad B ≤ 7128 := by
  have n0 := hw.2.2.2.2.1
  have n1 := hw.2.2.2.2.2.1
  have := sumN_bnd (g := fun b => bhv B b) (lo := 0) (hi := 792) (B 2).toNat (fun i hi => bhv_bnd hw (by omega) (by omega))
  unfold bhad
  omega
theorem mul_bnd {x y a b : Int} (h1 : 0 ≤ x) (h2 : x ≤ a) (h3 : 0 ≤ y) (h4 : y ≤ b) : 0 ≤ x * y ∧ x * y ≤ a * b := ⟨Int.mul_nonneg h1 h3, Int.mul_le_mul h2 h4 h3 (by omega)⟩
theorem pay_bnd {N : Int} {B : Int → Int} {b k : Int} (hN : N ≤ 9) (hw : WF N B) (h1 : 0 ≤ b) (h2 : b < B 2) : -20000 ≤ pay B b k ∧ pay B b k ≤ 20000 := by
  have o := oc_used hw h1 h2
  have c := bused_bnd hw h1 h2
  have eb := en_bnd hw
  have v := bhv_bnd hw h1 h2
  have vv := bhad_bnd hN hw
  have l := oc_len hw
  have r0 := hw.1
  have r1 := hw.2.1
  have r2 := hw.2.2.1
  have r3 := hw.2.2.2.1
  have w := bworth_bnd (B := B) (set := xorb (bset B) (shlb 1 b)) (units := B 0) (by omega)
  have m := mul_bnd (x := en B) (y := hs (oc B) b) (a := 99) (b := 8) (by omega) (by omega) (by omega) (by omega)
  have m2 := mul_bnd (x := B 1) (y := bun B) (a := 99) (b := 30) (by omega) (by omega) (by unfold bun; omega) (by unfold bun; omega)
  have s := sumN_bnd (g := fun i => prc (oc B) b i) (lo := 0) (hi := 99) (hs (oc B) b).toNat (fun i hi => by
    have := prc_bnd (b := b) (i := i) hw (by omega) (by omega)
    omega)
  unfold pay
  split
  · omega
  · split
    · omega
    · split <;> omega
/-- the dearest of the first ones -/
def dst (B : Int → Int) (k : Int) : Nat → Int
  | 0 => -2
  | n + 1 => if dst B k n < 0 then n else if pay B (dst B k n) k < pay B n k then n else dst B k n
theorem dst_bnd (B : Int → Int) (k : Int) : ∀ n : Nat, (n = 0 ∧ dst B k n = -2) ∨ (0 < n ∧ 0 ≤ dst B k n ∧ dst B k n < n)
  | 0 => Or.inl ⟨rfl, rfl⟩
  | n + 1 => by
    have ih := dst_bnd B k n
    unfold dst
    refine Or.inr ⟨by omega, ?_⟩
    split
    · omega
    · split <;> omega
theorem Q_dearest {S T : Mem} {k : Int} (h : Rel S T) (hk : R32 k) : ∃ r S' T', f_X7_dearest S k = some (r, S') ∧ f_X8_dearest T k = some (r, T') ∧ Rel S' T' := by
  have n0 := h.1.2.2.2.2.1
  have n1 := h.1.2.2.2.2.2.1
  unfold f_X7_dearest f_X8_dearest
  rw [C_isKind hk, M_isKind hk]
  simp only [Option.bind_some]
  by_cases h3 : 0 ≤ k ∧ k ≤ 3
  · rw [if_pos h3, if_neg e10, if_neg e10]
    obtain ⟨S', s1, s2, s3⟩ := Q_now h
    obtain ⟨T', t1, t2, t3⟩ := Q_runs s2
    rw [s1, t1]
    simp only [Option.bind_some]
    have hc := lp_rel (step := f_X7_dearest_l24 k) (fun i (t : Int × Int × Int × Mem) => t.1 = dst (T 1) k i ∧ t.2.1 = (if i = 0 then -1000000 else pay (T 1) (dst (T 1) k i) k) ∧ t.2.2.1 = i ∧ FrP S' t.2.2.2 5) (fun (r : Int × Mem) => r.1 = dst (T 1) k (T 1 2).toNat ∧ FrP S' r.2 5) (T 1 2).toNat (by
      intro i t hi ⟨e0, e1, e2, hF⟩
      obtain ⟨t1, t2, t3, t4⟩ := t
      dsimp only at e0 e1 e2 hF ⊢
      subst e2
      have hD' := s3.fp (α := 4) hF
      obtain ⟨t', g1, g2⟩ := C_payment (b := i) (by decide) h.1 hD' (by omega) (by omega) h3.1 h3.2
      have pb := pay_bnd (b := i) (k := k) (by decide) h.1 (by omega) (by omega)
      have db := dst_bnd (T 1) k i
      unfold f_X7_dearest_l24
      dsimp only
      rw [if_pos (show ltb (i : Int) (t4 5 2) = true by rw [hD'.1.2.2.1]; exact ltb_t (by omega) (by omega) (by omega)), g1]
      simp only [Option.bind_some]
      by_cases hi0 : i = 0
      · rw [if_pos hi0] at e1
        subst e1
        rw [if_pos (ltb_t (by omega) (by omega) (by omega))]
        refine ⟨_, rfl, ?_, ?_, rfl, hF.tr g2⟩
        · unfold dst
          rw [if_pos (by omega)]
        · rw [if_neg (by omega)]
          unfold dst
          rw [if_pos (by omega)]
      · rw [if_neg hi0] at e1
        subst e0 e1
        have pb2 := pay_bnd (b := dst (T 1) k i) (k := k) (by decide) h.1 (by omega) (by omega)
        by_cases hlt : pay (T 1) (dst (T 1) k i) k < pay (T 1) i k
        · rw [if_pos (ltb_t hlt (by omega) (by omega))]
          refine ⟨_, rfl, ?_, ?_, rfl, hF.tr g2⟩
          · unfold dst
            rw [if_neg (by omega), if_pos hlt]
          · rw [if_neg (by omega)]
            unfold dst
            rw [if_neg (by omega), if_pos hlt]
        · rw [if_neg (nl (by omega) (by omega) (by omega))]
          refine ⟨_, rfl, ?_, ?_, rfl, hF.tr g2⟩
          · rw [show dst (T 1) k (i + 1) = dst (T 1) k i by rw [dst, if_neg (by omega), if_neg hlt]]
          · rw [if_neg (by omega), show dst (T 1) k (i + 1) = dst (T 1) k i by rw [dst, if_neg (by omega), if_neg hlt]]) (by
      intro t ⟨e0, e1, e2, hF⟩
      obtain ⟨t1, t2, t3, t4⟩ := t
      dsimp only at e0 e1 e2 hF ⊢
      subst e2
      have hD' := s3.fp (α := 4) hF
      refine ⟨(t1, t4), ?_, e0, hF⟩
      unfold f_X7_dearest_l24
      dsimp only
      rw [if_neg (show ¬ ltb (((T 1 2).toNat : Nat) : Int) (t4 5 2) = true by rw [hD'.1.2.2.1]; exact nl (by omega) (by omega) (by omega))]) (n := FU) (by rw [FU_eq]; omega) (s := ((-2), (-1000000), 0, S')) ⟨rfl, rfl, rfl, fun _ _ _ => rfl⟩
    have hm := lp_rel (step := f_X8_dearest_l18 k) (fun i (t : Int × Int × Mem) => t.1 = dst (T 1) k i ∧ t.2.1 = i ∧ FrT T' t.2.2) (fun (r : Int × Mem) => r.1 = dst (T 1) k (T 1 2).toNat ∧ FrT T' r.2) (T 1 2).toNat (by
      intro i t hi ⟨e0, e2, hF⟩
      obtain ⟨t1, t3, t4⟩ := t
      dsimp only at e0 e2 hF ⊢
      subst e2 e0
      have hD' := t2.ft hF
      have db := dst_bnd (T 1) k i
      unfold f_X8_dearest_l18
      dsimp only
      rw [M_many]
      simp only [Option.bind_some]
      rw [if_pos (show ltb (i : Int) (t4 1 2) = true by rw [hD'.1]; exact ltb_t (by omega) (by omega) (by omega))]
      by_cases hi0 : i = 0
      · rw [if_pos (ltb_t (show dst (T 1) k i < 0 by omega) (by omega) (by omega))]
        refine ⟨_, rfl, ?_, rfl, hF⟩
        unfold dst
        rw [if_pos (by omega)]
      · rw [if_neg (nl (show 0 ≤ dst (T 1) k i by omega) (by omega) (by omega))]
        obtain ⟨u1, g1, g2⟩ := M_paysOf (b := i) (by decide) h.1 hD' (by omega) (by omega) h3.1 h3.2
        obtain ⟨u2, g3, g4⟩ := M_paysOf (b := dst (T 1) k i) (by decide) h.1 (hD'.ft g2) (by omega) (by omega) h3.1 h3.2
        rw [g1]
        simp only [Option.bind_some]
        rw [g3]
        simp only [Option.bind_some]
        have pb := pay_bnd (b := i) (k := k) (by decide) h.1 (by omega) (by omega)
        have pb2 := pay_bnd (b := dst (T 1) k i) (k := k) (by decide) h.1 (by omega) (by omega)
        by_cases hlt : pay (T 1) (dst (T 1) k i) k < pay (T 1) i k
        · rw [if_pos (ltb_t hlt (by omega) (by omega))]
          refine ⟨_, rfl, ?_, rfl, (hF.tr g2).tr g4⟩
          rw [dst, if_neg (by omega), if_pos hlt]
        · rw [if_neg (nl (by omega) (by omega) (by omega))]
          refine ⟨_, rfl, ?_, rfl, (hF.tr g2).tr g4⟩
          rw [dst, if_neg (by omega), if_neg hlt]) (by
      intro t ⟨e0, e2, hF⟩
      obtain ⟨t1, t3, t4⟩ := t
      dsimp only at e0 e2 hF ⊢
      subst e2
      have hD' := t2.ft hF
      refine ⟨(t1, t4), ?_, e0, hF⟩
      unfold f_X8_dearest_l18
      dsimp only
      rw [M_many]
      simp only [Option.bind_some]
      rw [if_neg (show ¬ ltb (((T 1 2).toNat : Nat) : Int) (t4 1 2) = true by rw [hD'.1]; exact nl (by omega) (by omega) (by omega))]) (n := FU) (by rw [FU_eq]; omega) (s := ((-2), 0, T')) ⟨rfl, rfl, fun _ _ => rfl⟩
    obtain ⟨r, c1, c2, c3⟩ := hc
    obtain ⟨r', m1, m2, m3⟩ := hm
    rw [c1, m1]
    refine ⟨r.1, r.2, r'.2, rfl, ?_, t3.ag (AgC.fp (Or.inl rfl) c3) (AgM.ft m3)⟩
    rw [c2, ← m2]
    rfl
  · rw [if_neg h3]
    exact ⟨_, _, _, rfl, rfl, h⟩
theorem Q_perUnit {S T : Mem} {a k : Int} (h : Rel S T) (ha : R32 a) (hk : R32 k) : ∃ r S' T', f_X7_perUnit S a k = some (r, S') ∧ f_X8_perUnit T a k = some (r, T') ∧ Rel S' T' := by
  have hb := Q_has h ha
  have n1 := h.1.2.2.2.2.2.1
  unfold f_X7_perUnit f_X8_perUnit
  rw [hb.1, hb.2]
  simp only [Option.bind_some]
  by_cases hh : 0 ≤ a ∧ a < T 1 2
  · rw [if_pos hh, if_neg e10, if_neg e10, C_isKind hk, M_isKind hk]
    simp only [Option.bind_some]
    by_cases h3 : 0 ≤ k ∧ k ≤ 3
    · rw [if_pos h3, if_neg e10, if_neg e10]
      obtain ⟨S', s1, s2, s3⟩ := Q_now h
      obtain ⟨T', t1, t2, t3⟩ := Q_runs s2
      obtain ⟨S2, u1, u2⟩ := C_payment (by decide) h.1 s3 hh.1 hh.2 h3.1 h3.2
      obtain ⟨T2, v1, v2⟩ := M_paysOf (by decide) h.1 t2 hh.1 hh.2 h3.1 h3.2
      have o := oc_used h.1 hh.1 hh.2
      have c := bused_bnd h.1 hh.1 hh.2
      have h9 : 0 ≤ a ∧ a < 9 := by omega
      have su : S' 11 a = hs (oc (T 1)) a := s3.units hh.1 hh.2
      have tu : T' 5 a = hs (oc (T 1)) a := t2.units hh.1 hh.2
      have tu2 : T2 5 a = hs (oc (T 1)) a := by rw [v2 5 (by decide)]; exact tu
      rw [s1, t1]
      simp only [Option.bind_some]
      rw [if_pos h9, if_pos h9, su, tu]
      by_cases hz : hs (oc (T 1)) a = 0
      · rw [if_neg (nl (x := 0) (y := hs (oc (T 1)) a) (by omega) (by omega) (by omega)), if_pos (eqb_t hz)]
        exact ⟨_, _, _, rfl, rfl, t3⟩
      · have q : eqb (hs (oc (T 1)) a) 0 = false := eqb_f hz (by omega) (by omega) (by omega) (by omega)
        rw [if_pos (ltb_t (show 0 < hs (oc (T 1)) a by omega) (by omega) (by omega)), if_neg (show ¬ eqb (hs (oc (T 1)) a) 0 = true by rw [q]; decide), u1, v1]
        simp only [Option.bind_some]
        rw [tu2, if_pos q, if_pos q]
        exact ⟨_, _, _, rfl, rfl, t3.ag (AgC.fp (Or.inl rfl) u2) (AgM.ft v2)⟩
    · rw [if_neg h3]
      exact ⟨_, _, _, rfl, rfl, h⟩
  · rw [if_neg hh]
    exact ⟨_, _, _, rfl, rfl, h⟩
