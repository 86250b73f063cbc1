/-! ===== price for, steps, envy, blocks, the record ===== -/
/-- two loops in step -/
theorem lp_sim {σ ρ σ' ρ' : Type} {step : σ → Option (σ ⊕ ρ)} {step' : σ' → Option (σ' ⊕ ρ')} (R : σ → σ' → Prop) (μ : σ → Nat) (Q : ρ → ρ' → Prop) (h : ∀ s t, R s t → (∃ s' t', step s = some (.inl s') ∧ step' t = some (.inl t') ∧ R s' t' ∧ μ s' < μ s) ∨ (∃ r r', step s = some (.inr r) ∧ step' t = some (.inr r') ∧ Q r r')) : ∀ (n : Nat) (s : σ) (t : σ'), R s t → μ s < n → ∃ r r', lp step n s = some r ∧ lp step' n t = some r' ∧ Q r r' := by
  intro n
  induction n with
  | zero => intro s t _ h; omega
  | succ n ih =>
    intro s t hI hm
    rcases h s t hI with ⟨s', t', h1, h2, h3, h4⟩ | ⟨r, r', h1, h2, h3⟩
    · obtain ⟨r, r', a, b, c⟩ := ih s' t' h3 (by omega)
      refine ⟨r, r', ?_, ?_, c⟩
      · unfold lp
        rw [h1]
        exact a
      · unfold lp
        rw [h2]
        exact b
    · refine ⟨r, r', ?_, ?_, h3⟩
      · unfold lp
        rw [h1]
      · unfold lp
        rw [h2]
theorem Q_priceFor {S T : Mem} {n : Int} (h : Rel S T) (hn : R32 n) : ∃ r, f_X7_priceFor S n = some r ∧ f_X8_priceFor T n = some r := by
  unfold f_X7_priceFor f_X8_priceFor
  by_cases h0 : n < 0
  · rw [if_pos (ltb_t h0 hn.1 (by omega)), if_pos (ltb_t h0 hn.1 (by omega))]
    exact ⟨_, rfl, rfl⟩
  · have q := nl (x := n) (y := 0) (by omega) (by omega) hn.2
    rw [if_neg q, if_neg q]
    obtain ⟨r, r', g1, g2, g3⟩ := lp_sim (step := f_X7_priceFor_l8 S n) (step' := f_X8_priceFor_l8 T n) (fun s t => s = t ∧ 0 ≤ s ∧ s ≤ 99) (fun s => (99 - s).toNat) (fun r r' => match r with
      | .inl _ => r' = 99
      | .inr x => r' = x) (by
      intro s t ⟨e, s0, s1⟩
      subst e
      have hb := bW_bnd (by decide) h.1 s
      unfold f_X7_priceFor_l8 f_X8_priceFor_l8
      rw [M_wantedAt (by decide) h.1 (by omega) s1]
      simp only [Option.bind_some]
      by_cases h9 : s < 99
      · rw [if_pos (ltb_t h9 (by omega) (by omega)), C_wantsOfAll (by decide) h.1 h.2.1 (by omega) s1]
        simp only [Option.bind_some]
        by_cases hl : n < bW (T 1) s
        · rw [if_pos (ltb_t hl hn.1 (by omega)), if_pos (ltb_t hl hn.1 (by omega))]
          exact Or.inl ⟨_, _, rfl, rfl, ⟨rfl, by omega, by omega⟩, by omega⟩
        · have q2 := nl (x := n) (y := bW (T 1) s) (by omega) (by omega) hn.2
          rw [if_neg q2, if_neg q2]
          exact Or.inr ⟨_, _, rfl, rfl, rfl⟩
      · have e99 : bW (T 1) s = 0 := bW_99 h.1 (by omega)
        rw [if_neg (nl (by omega) (by omega) (by omega)), e99, if_neg q]
        exact Or.inr ⟨_, _, rfl, rfl, show s = 99 by omega⟩) FU 0 0 ⟨rfl, by omega, by omega⟩ (by rw [FU_eq]; omega)
    rw [g1, g2]
    simp only [Option.bind_some]
    cases r with
    | inl _ => exact ⟨r', by dsimp only at g3; rw [g3]; rfl, rfl⟩
    | inr x => exact ⟨r', by dsimp only at g3; rw [g3]; rfl, rfl⟩
theorem C_usable {N : Int} {B : Int → Int} {S : Mem} {q : Nat} {b : Int} (hN : N ≤ 9) (hw : WF N B) (hR : RB S q B) (h1 : 0 ≤ b) (h2 : b < B 2) : f_X1_usable S q b = some (bused B b) := by
  have n1 := hw.2.2.2.2.2.1
  have a := bcnt_bnd hw h1 h2
  unfold f_X1_usable
  rw [if_pos (by omega), hR.2.2.2.2.1 b h1 h2, hR.2.2.2.1 b h1 h2, mnb_le (by omega) (by omega) (by omega) (by omega)]
  unfold bused
  congr 1
  omega
theorem abv_m1 {N : Int} {B : Int → Int} {b : Int} (hw : WF N B) (h1 : 0 ≤ b) (h2 : b < B 2) : abv B b (-1) = bused B b := by
  have c := bused_bnd hw h1 h2
  unfold abv
  rw [ledN_uniq (k := (bused B b).toNat) (Nat.le_refl _) (fun i hi => by
    have := bval_bnd hw (i := i) h1 h2 (by omega) (by omega)
    simp only [decide_eq_true_eq]
    omega) (Or.inl rfl)]
  omega
theorem C_usableByAll {N : Int} {B : Int → Int} {S : Mem} {q : Nat} (hN : N ≤ 9) (hw : WF N B) (hR : RB S q B) : f_X1_usableByAll S q = some (bW B (-1)) := by
  have n0 := hw.2.2.2.2.1
  have n1 := hw.2.2.2.2.2.1
  unfold f_X1_usableByAll
  rw [lp_sum (fun b => abv B b (-1)) (B 2).toNat (fun x i hi => by
    unfold f_X1_usableByAll_l4
    dsimp only
    rw [hR.2.2.1, if_pos (ltb_t (by omega) (by omega) (by omega)), C_usable hN hw hR (by omega) (by omega), abv_m1 hw (by omega) (by omega)]
    rfl) (fun x => by
    unfold f_X1_usableByAll_l4
    dsimp only
    rw [hR.2.2.1, if_neg (nl (by omega) (by omega) (by omega))]) (by omega)]
  rfl
def nW (B : Int → Int) (p : Int) : Int := sumN (fun b => if 0 < abv B b p then 1 else 0) (B 2).toNat
theorem C_wantingAt {N : Int} {B : Int → Int} {S : Mem} {q : Nat} {p : Int} (hN : N ≤ 9) (hw : WF N B) (hR : RB S q B) (hp1 : -1 ≤ p) (hp2 : p ≤ 99) : f_X1_wantingAt S q p = some (nW B p) := by
  have n0 := hw.2.2.2.2.1
  have n1 := hw.2.2.2.2.2.1
  unfold f_X1_wantingAt
  rw [lp_sum (fun b => if 0 < abv B b p then 1 else 0) (B 2).toNat (fun x i hi => by
    have a9 := abv_9 hw (b := i) (by omega) (by omega) p
    unfold f_X1_wantingAt_l4
    dsimp only
    rw [hR.2.2.1, if_pos (ltb_t (by omega) (by omega) (by omega)), C_wantsOf hN hw hR (by omega) (by omega) hp1 hp2]
    simp only [Option.bind_some]
    by_cases h : 0 < abv B i p
    · rw [if_pos (ltb_t h (by omega) (by omega)), if_pos h]
      rfl
    · rw [if_neg (nl (x := 0) (y := abv B i p) (by omega) (by omega) (by omega)), if_neg h, Int.add_zero]
      rfl) (fun x => by
    unfold f_X1_wantingAt_l4
    dsimp only
    rw [hR.2.2.1, if_neg (nl (by omega) (by omega) (by omega))]) (by omega)]
  rfl
theorem M_wanting {N : Int} {T : Mem} {p y2 : Int} (hN : N ≤ 9) (hw : WF N (T 1)) (hp1 : -1 ≤ p) (hp2 : p ≤ 99) : lp (f_X8_step_l63 T y2 p) FU (0, 0) = some (nW (T 1) p) := by
  have n0 := hw.2.2.2.2.1
  have n1 := hw.2.2.2.2.2.1
  rw [lp_sum (fun b => if 0 < abv (T 1) b p then 1 else 0) (T 1 2).toNat (fun x i hi => by
    have a9 := abv_9 hw (b := i) (by omega) (by omega) p
    unfold f_X8_step_l63
    dsimp only
    rw [M_many]
    simp only [Option.bind_some]
    rw [if_pos (ltb_t (by omega) (by omega) (by omega)), M_aboveOf hN hw (by omega) (by omega) hp1 hp2]
    simp only [Option.bind_some]
    by_cases h : 0 < abv (T 1) i p
    · rw [if_pos (ltb_t h (by omega) (by omega)), if_pos h]
      rfl
    · rw [if_neg (nl (x := 0) (y := abv (T 1) i p) (by omega) (by omega) (by omega)), if_neg h, Int.add_zero]
      rfl) (fun x => by
    unfold f_X8_step_l63
    dsimp only
    rw [M_many]
    simp only [Option.bind_some]
    rw [if_neg (nl (by omega) (by omega) (by omega))]) (by omega)]
  rfl
theorem Q_step {S T : Mem} {n w : Int} (h : Rel S T) (hn : R32 n) (hw : R32 w) : ∃ r, f_X7_step S n w = some r ∧ f_X8_step T n w = some r := by
  unfold f_X7_step f_X8_step
  by_cases h0 : n < 0
  · rw [if_pos (ltb_t h0 hn.1 (by omega)), if_pos (ltb_t h0 hn.1 (by omega))]
    exact ⟨_, rfl, rfl⟩
  · have q := nl (x := n) (y := 0) (by omega) (by omega) hn.2
    rw [if_neg q, if_neg q, M_inL hw (by decide) (by decide)]
    simp only [Option.bind_some]
    unfold f_X1_stepPrice
    rw [C_usableByAll (by decide) h.1 h.2.1]
    simp only [Option.bind_some]
    obtain ⟨r, r', g1, g2, g3⟩ := lp_sim (step := f_X1_stepPrice_l10 S 5) (step' := f_X8_step_l20 T w) (fun s t => t = (s.1, s.2.2) ∧ s.2.1 = bW (T 1) (s.2.2 - 1) ∧ 0 ≤ s.2.2 ∧ s.2.2 ≤ 100 ∧ 0 ≤ s.1 ∧ s.1 ≤ n) (fun s => (100 - s.2.2).toNat) (fun r r' => match r with
      | .inl _ => r' = .inl ()
      | .inr x => 0 ≤ x ∧ x ≤ 99 ∧ r' = .inr (if eqb w 0 = true then x else if eqb w 1 = true then bW (T 1) x else nW (T 1) x)) (by
      intro s t ⟨e, e1, s0, s1, s2, s3⟩
      obtain ⟨sl, sb, sp⟩ := s
      dsimp only at e e1 s0 s1 s2 s3 ⊢
      subst e e1
      have hb := bW_bnd (by decide) h.1 sp
      have hb1 := bW_bnd (by decide) h.1 (sp - 1)
      have hmo := bW_mono (B := T 1) (show sp - 1 ≤ sp by omega)
      unfold f_X1_stepPrice_l10 f_X8_step_l20
      dsimp only
      by_cases h9 : 99 < sp
      · rw [if_pos (ltb_t h9 (by omega) (by omega)), if_pos (ltb_t h9 (by omega) (by omega))]
        exact Or.inr ⟨_, _, rfl, rfl, rfl⟩
      · have q9 := nl (x := 99) (y := sp) (by omega) (by omega) (by omega)
        rw [if_neg q9, if_neg q9, C_wantsOfAll (by decide) h.1 h.2.1 (by omega) (by omega), M_wantedAt (by decide) h.1 (by omega) (by omega), M_wantedAt (by decide) h.1 (by omega) (by omega)]
        simp only [Option.bind_some]
        by_cases hl : bW (T 1) sp < bW (T 1) (sp - 1)
        · rw [if_pos (ltb_t hl (by omega) (by omega)), if_pos (ltb_t hl (by omega) (by omega)), if_neg (nq (show bW (T 1) sp ≠ bW (T 1) (sp - 1) by omega) (by omega) (by omega) (by omega) (by omega))]
          by_cases hz : sl = 0
          · subst hz
            rw [if_pos e00, if_neg (nl (by omega) (by omega) (by omega)), M_wanting (by decide) h.1 (by omega) (by omega)]
            simp only [Option.bind_some]
            refine Or.inr ⟨_, .inr (if eqb w 0 = true then sp else if eqb w 1 = true then bW (T 1) sp else nW (T 1) sp), rfl, ?_, s0, by omega, rfl⟩
            split
            · rfl
            · split <;> rfl
          · rw [if_neg (nq hz (by omega) (by have := hn.2; omega) (by omega) (by omega)), if_pos (ltb_t (show 0 < sl by omega) (by omega) (by have := hn.2; omega))]
            refine Or.inl ⟨_, _, rfl, rfl, ⟨rfl, ?_, by dsimp only; omega, by dsimp only; omega, by dsimp only; omega, by dsimp only; omega⟩, by dsimp only; omega⟩
            rw [show sp + 1 - 1 = sp by omega]
        · have ql := nl (x := bW (T 1) sp) (y := bW (T 1) (sp - 1)) (by omega) (by omega) (by omega)
          rw [if_neg ql, if_neg ql, if_pos (eqb_t (show bW (T 1) sp = bW (T 1) (sp - 1) by omega))]
          refine Or.inl ⟨_, _, rfl, rfl, ⟨rfl, ?_, by dsimp only; omega, by dsimp only; omega, s2, s3⟩, by dsimp only; omega⟩
          rw [show sp + 1 - 1 = sp by omega]) FU (n, bW (T 1) (-1), 0) (n, 0) ⟨rfl, rfl, by dsimp only; omega, by dsimp only; omega, by dsimp only; omega, by dsimp only; omega⟩ (by dsimp only; rw [FU_eq]; omega)
    rw [g1, g2]
    simp only [Option.bind_some]
    cases r with
    | inl _ =>
      dsimp only at g3
      rw [g3]
      refine ⟨-1, ?_, ?_⟩
      · simp only [lct, Option.bind_some]
        rw [if_pos (show eqb (-1) (-1) = true by decide)]
      · by_cases h2 : 0 ≤ w ∧ w ≤ 2
        · rw [if_pos h2, if_neg e10]
          rfl
        · rw [if_neg h2, if_pos e00]
    | inr x =>
      dsimp only at g3
      obtain ⟨x0, x1, g3⟩ := g3
      rw [g3]
      show ∃ r, (if eqb x (-1) = true then _ else _) = some r ∧ _
      rw [if_neg (nq (show x ≠ -1 by omega) (by omega) (by omega) (by omega) (by omega))]
      by_cases h2 : 0 ≤ w ∧ w ≤ 2
      · rw [if_pos h2, if_neg e10]
        rcases (show w = 0 ∨ w = 1 ∨ w = 2 by omega) with e | e | e <;> subst e
        · rw [if_pos e00]
          exact ⟨_, rfl, rfl⟩
        · rw [if_neg n10, if_pos n11, C_wantsOfAll (by decide) h.1 h.2.1 (by omega) x1]
          exact ⟨_, rfl, rfl⟩
        · rw [if_neg n20, if_neg n21, if_pos n22, C_wantingAt (by decide) h.1 h.2.1 (by omega) x1]
          exact ⟨_, rfl, rfl⟩
      · rw [if_neg h2, if_pos e00, if_neg (hw.ne (by omega) (by decide) (by decide)), if_neg (hw.ne (by omega) (by decide) (by decide)), if_neg (hw.ne (by omega) (by decide) (by decide))]
        exact ⟨_, rfl, rfl⟩
theorem Q_record {S T : Mem} {a j : Int} (h : Rel S T) (ha : R32 a) (hj : R32 j) : ∃ r, f_X7_record S a j = some r ∧ f_X8_record T a j = some r := by
  obtain ⟨l0, l1, l2, l3⟩ := h.2.2.2.1
  unfold f_X7_record f_X8_record f_X3_read
  rw [if_pos (show (0 : Int) ≤ 93 ∧ (93 : Int) < 126 by decide), ← l0, M_inL ha (by decide) (by omega), M_inL hj (by decide) (by decide)]
  simp only [Option.bind_some]
  by_cases h0 : a < 0
  · rw [if_pos (ltb_t h0 ha.1 (by omega)), if_neg (show ¬ (0 ≤ a ∧ a ≤ S 32 0 - 1) by omega), if_pos e00]
    exact ⟨_, rfl, rfl⟩
  · rw [if_neg (nl (x := a) (y := 0) (by omega) (by omega) ha.2)]
    by_cases h1 : a < S 32 0
    · rw [if_pos (ltb_t h1 ha.1 (by omega)), if_pos (show 0 ≤ a ∧ a ≤ S 32 0 - 1 by omega), if_neg e10]
      by_cases h2 : j < 0
      · rw [if_pos (ltb_t h2 hj.1 (by omega)), if_neg (show ¬ (0 ≤ j ∧ j ≤ 3) by omega), if_pos e00]
        exact ⟨_, rfl, rfl⟩
      · rw [if_neg (nl (x := j) (y := 0) (by omega) (by omega) hj.2)]
        by_cases h3 : j < 4
        · have e := l3 a j (by omega) h1 (by omega) h3
          rw [if_pos (ltb_t h3 hj.1 (by omega)), if_pos (show 0 ≤ j ∧ j ≤ 3 by omega), if_neg e10, if_pos (by omega), if_pos (by omega), show a * 4 + j = 4 * a + j by omega, e]
          exact ⟨_, rfl, rfl⟩
        · rw [if_neg (nl (x := j) (y := 4) (by omega) (by omega) hj.2), if_neg (show ¬ (0 ≤ j ∧ j ≤ 3) by omega), if_pos e00]
          exact ⟨_, rfl, rfl⟩
    · rw [if_neg (nl (x := a) (y := S 32 0) (by omega) (by omega) ha.2), if_neg (show ¬ (0 ≤ a ∧ a ≤ S 32 0 - 1) by omega), if_pos e00]
      exact ⟨_, rfl, rfl⟩
theorem gain_bnd {N : Int} {B : Int → Int} {b k : Int} (hN : N ≤ 9) (hw : WF N B) (h1 : 0 ≤ b) (h2 : b < B 2) : -30000 ≤ bgain B b k ∧ bgain B b k ≤ 30000 := by
  have a := pay_bnd (k := k) hN hw h1 h2
  have c := bhv_bnd hw h1 h2
  unfold bgain
  omega
theorem Q_envies {S T : Mem} {a k : Int} (h : Rel S T) (ha : R32 a) (hk : R32 k) : ∃ r S' T', f_X7_envies S a k = some (r, S') ∧ f_X8_envies T a k = some (r, T') ∧ Rel S' T' := by
  have hb := Q_has h ha
  have n0 := h.1.2.2.2.2.1
  have n1 := h.1.2.2.2.2.2.1
  unfold f_X7_envies f_X8_envies
  rw [hb.1, hb.2]
  simp only [Option.bind_some]
  by_cases hh : 0 ≤ a ∧ a < T 1 2
  · rw [if_pos hh, if_neg e10, if_neg e10, C_isKind hk, M_isKind hk]
    simp only [Option.bind_some]
    by_cases h3 : 0 ≤ k ∧ k ≤ 3
    · rw [if_pos h3, if_neg e10, if_neg e10]
      obtain ⟨S', s1, s2, s3⟩ := Q_now h
      obtain ⟨T', t1, t2, t3⟩ := Q_runs s2
      obtain ⟨S2, u1, u2⟩ := C_gainOf (by decide) h.1 s3 hh.1 hh.2 h3.1 h3.2
      obtain ⟨T2, v1, v2⟩ := M_gainOf (by decide) h.1 t2 hh.1 hh.2 h3.1 h3.2
      have o := oc_used h.1 hh.1 hh.2
      have c := bused_bnd h.1 hh.1 hh.2
      have gb := gain_bnd (k := k) (by decide) h.1 hh.1 hh.2
      rw [s1, t1]
      simp only [Option.bind_some]
      rw [u1, v1]
      simp only [Option.bind_some]
      obtain ⟨r, r', g1, g2, g3⟩ := lp_sim (step := f_X7_envies_l36 a k (bgain (T 1) a k)) (step' := f_X8_envies_l31 a k (bgain (T 1) a k)) (fun s t => s.1 = t.1 ∧ 0 ≤ s.1 ∧ s.1 ≤ T 1 2 ∧ FrP S' s.2 5 ∧ FrT T' t.2) (fun s => (T 1 2 - s.1).toNat) (fun r r' => match r with
        | .inl x => ∃ y, r' = .inl y ∧ FrP S' x 5 ∧ FrT T' y
        | .inr x => ∃ y, r' = .inr y ∧ x.1 = y.1 ∧ FrP S' x.2 5 ∧ FrT T' y.2) (by
        intro s t ⟨e, x0, x1, hF, hG⟩
        obtain ⟨i, s⟩ := s
        obtain ⟨i', t⟩ := t
        dsimp only at e x0 x1 hF hG ⊢
        subst e
        have hD := s3.fp (α := 4) hF
        have hE := t2.ft hG
        unfold f_X7_envies_l36 f_X8_envies_l31
        dsimp only
        rw [M_many, hE.1]
        simp only [Option.bind_some]
        have sn : s 5 2 = T 1 2 := hD.1.2.2.1
        by_cases hi : i < T 1 2
        · have oi := oc_used h.1 x0 hi
          have ci := bused_bnd h.1 x0 hi
          have su : s 11 i = hs (oc (T 1)) i := hD.units x0 hi
          have tu : t 5 i = hs (oc (T 1)) i := hE.units x0 hi
          have wt : WF 8 (t 1) := by rw [hE.1]; exact h.1
          have l9 : 0 ≤ i ∧ i < 9 := by omega
          rw [if_pos (show ltb i (s 5 2) = true by rw [sn]; exact ltb_t hi (by omega) (by omega)), if_pos (ltb_t hi (by omega) (by omega)), if_pos l9, if_pos l9, C_usable (q := 5) (by decide) h.1 hD.1 hh.1 hh.2, M_usedOf (by decide) wt hh.1 (by rw [hE.1]; exact hh.2), su, tu, hE.1]
          simp only [Option.bind_some]
          rw [mnb_le (by omega) (by omega) (by omega) (by omega), M_less (by omega) (by omega) (by omega) (by omega), C_sumOfFirst (q := 5) (by decide) h.1 hD.1 hh.1 hh.2 (by omega) (by omega)]
          simp only [Option.bind_some]
          obtain ⟨S3, p1, p2⟩ := C_payment (by decide) h.1 hD x0 hi h3.1 h3.2
          rw [p1]
          simp only [Option.bind_some]
          have pb := pay_bnd (k := k) (by decide) h.1 x0 hi
          have bb := bsum_bnd (n := min (hs (oc (T 1)) i) (bused (T 1) a)) h.1 hh.1 hh.2 (by omega) (by omega)
          by_cases hia : i = a
          · subst hia
            have eo : bsum (T 1) i (min (hs (oc (T 1)) i) (bused (T 1) i)) - pay (T 1) i k = bgain (T 1) i k := by
              unfold bgain bhv
              rw [show min (hs (oc (T 1)) i) (bused (T 1) i) = hs (oc (T 1)) i by omega]
            rw [if_pos (eqb_t rfl), eo, if_neg (nl (Int.le_refl _) (by omega) (by omega))]
            exact Or.inl ⟨_, _, rfl, rfl, ⟨rfl, by dsimp only; omega, by dsimp only; omega, hF.tr p2, hG⟩, by dsimp only; omega⟩
          · obtain ⟨T3, q1, q2⟩ := M_paysOf (by decide) h.1 hE x0 hi h3.1 h3.2
            have ef := M_firstOf (n := min (hs (oc (T 1)) i) (bused (T 1) a)) (by decide) wt hh.1 (by rw [hE.1]; exact hh.2) (by omega) (by rw [hE.1]; omega)
            rw [hE.1] at ef
            rw [if_neg (nq hia (by omega) (by omega) (by omega) (by omega)), ef]
            simp only [Option.bind_some]
            rw [q1]
            simp only [Option.bind_some]
            by_cases hl : bgain (T 1) a k < bsum (T 1) a (min (hs (oc (T 1)) i) (bused (T 1) a)) - pay (T 1) i k
            · rw [if_pos (ltb_t hl (by omega) (by omega)), if_pos (ltb_t hl (by omega) (by omega))]
              exact Or.inr ⟨_, _, rfl, rfl, _, rfl, rfl, hF.tr p2, hG.tr q2⟩
            · have ql := nl (x := bgain (T 1) a k) (y := bsum (T 1) a (min (hs (oc (T 1)) i) (bused (T 1) a)) - pay (T 1) i k) (by omega) (by omega) (by omega)
              rw [if_neg ql, if_neg ql]
              exact Or.inl ⟨_, _, rfl, rfl, ⟨rfl, by dsimp only; omega, by dsimp only; omega, hF.tr p2, hG.tr q2⟩, by dsimp only; omega⟩
        · have ql := nl (x := i) (y := T 1 2) (by omega) (by omega) (by omega)
          rw [if_neg (show ¬ ltb i (s 5 2) = true by rw [sn]; exact ql), if_neg ql]
          exact Or.inr ⟨_, _, rfl, rfl, _, rfl, hF, hG⟩) FU (0, S2) (0, T2) ⟨rfl, Int.le_refl _, n0, u2, v2⟩ (by dsimp only; rw [FU_eq]; omega)
      rw [g1, g2]
      simp only [Option.bind_some]
      cases r with
      | inl x =>
        obtain ⟨y, e, f1, f2⟩ := g3
        subst e
        exact ⟨_, _, _, rfl, rfl, t3.ag (AgC.fp (Or.inl rfl) f1) (AgM.ft f2)⟩
      | inr x =>
        obtain ⟨y, e, e2, f1, f2⟩ := g3
        subst e
        refine ⟨x.1, x.2, y.2, rfl, ?_, t3.ag (AgC.fp (Or.inl rfl) f1) (AgM.ft f2)⟩
        rw [e2]
        rfl
    · rw [if_neg h3]
      exact ⟨_, _, _, rfl, rfl, h⟩
  · rw [if_neg hh]
    exact ⟨_, _, _, rfl, rfl, h⟩
