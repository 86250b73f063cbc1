/-! ===== nobody is paid for coming: what is greedy is no less than any choice ===== -/
theorem gr_lip {t : Int → Int} (ht : ∀ v : Int, 0 ≤ t v) : ∀ (k : Nat) (x d : Int), 0 ≤ x → 0 ≤ d → gr t k (x + d) ≤ gr t k x + d * k
  | 0, x, d, hx, hd => by
    unfold gr
    have : d * ((0 : Nat) : Int) = 0 := by rw [show ((0 : Nat) : Int) = 0 from rfl, Int.mul_zero]
    omega
  | k + 1, x, d, hx, hd => by
    have h0 := ht k
    have e : x + d - min (x + d) (t k) = (x - min x (t k)) + (d - (min (x + d) (t k) - min x (t k))) := by omega
    have ih := gr_lip ht k (x - min x (t k)) (d - (min (x + d) (t k) - min x (t k))) (by omega) (by omega)
    unfold gr
    rw [e]
    have m1 : min (x + d) (t k) * (k : Int) = min x (t k) * (k : Int) + (min (x + d) (t k) - min x (t k)) * (k : Int) := by
      rw [← Int.add_mul]
      congr 1
      omega
    have m2 : (d - (min (x + d) (t k) - min x (t k))) * (k : Int) + (min (x + d) (t k) - min x (t k)) * (k : Int) = d * k := by
      rw [← Int.add_mul]
      congr 1
      omega
    have m3 : d * ((k + 1 : Nat) : Int) = d * k + d := by
      rw [show ((k + 1 : Nat) : Int) = (k : Int) + 1 by omega, Int.mul_add, Int.mul_one]
    omega
theorem gr_opt {t s : Int → Int} (ht : ∀ v : Int, 0 ≤ t v) : ∀ (k : Nat) (left : Int), (∀ v : Int, 0 ≤ v → v < k → 0 ≤ s v ∧ s v ≤ t v) → sumN s k ≤ left → sumN (fun v => s v * v) k ≤ gr t k left
  | 0, left, _, _ => by
    unfold gr sumN
    omega
  | k + 1, left, h, hl => by
    rw [sumN_s] at hl
    have hk := h k (by omega) (by omega)
    have hn := sumN_nn (g := s) k (fun i hi => (h i (by omega) (by omega)).1)
    have ih := gr_opt (s := s) ht k (left - s k) (fun v a b => h v a (by omega)) (by omega)
    have lp := gr_lip ht k (left - min left (t k)) (min left (t k) - s k) (by omega) (by omega)
    rw [show left - min left (t k) + (min left (t k) - s k) = left - s k by omega] at lp
    rw [sumN_s]
    unfold gr
    have m : (min left (t k) - s k) * (k : Int) + s k * (k : Int) = min left (t k) * k := by
      rw [← Int.add_mul]
      congr 1
      omega
    omega
theorem sumN_mul (g : Int → Int) (c : Int) : ∀ n : Nat, sumN (fun i => g i * c) n = sumN g n * c
  | 0 => by unfold sumN; omega
  | n + 1 => by
    rw [sumN_s, sumN_s, sumN_mul g c n, Int.add_mul]
theorem sumN_pick {n : Nat} {x y : Int} (h1 : 0 ≤ x) (h2 : x < n) : sumN (fun v => if v = x then y else 0) n = y := by
  have : sumN (fun v => if v = x then y else 0) n = sumN (fun v => (if v = x then 1 else 0) * y) n := sumN_congr n (fun i _ => by
    by_cases h : (i : Int) = x
    · rw [if_pos h, if_pos h, Int.one_mul]
    · rw [if_neg h, if_neg h, Int.zero_mul])
  rw [this, sumN_mul, sumN_ind, if_pos ⟨h1, h2⟩, Int.one_mul]
/-- sums over what occurs -/
theorem cF_sum {f : Int → Int} {m : Nat} (h : ∀ i : Nat, i < m → 0 ≤ f i ∧ f i ≤ 99) : sumN (fun v => cF f 0 m v) 100 = m ∧ sumN (fun v => cF f 0 m v * v) 100 = sumN f m := by
  induction m with
  | zero =>
    refine ⟨sumN_zero 100, ?_⟩
    rw [sumN_congr (h := fun _ => 0) 100 (fun i _ => by show 0 * (i : Int) = 0; omega)]
    exact sumN_zero 100
  | succ m ih =>
    obtain ⟨i1, i2⟩ := ih (fun i hi => h i (by omega))
    have b := h m (by omega)
    constructor
    · rw [sumN_congr (h := fun v => cF f 0 m v + if v = f m then 1 else 0) 100 (fun v _ => by
        rw [cF_add1]
        by_cases hv : f m = (v : Int)
        · rw [if_pos hv, if_pos hv.symm]
        · rw [if_neg hv, if_neg (fun z => hv z.symm)]), sumN_add, i1, sumN_pick b.1 (by omega)]
      omega
    · rw [sumN_congr (h := fun v => cF f 0 m v * v + if v = f m then f m else 0) 100 (fun v _ => by
        rw [cF_add1, Int.add_mul]
        by_cases hv : f m = (v : Int)
        · rw [if_pos hv, if_pos hv.symm, Int.one_mul, hv]
        · rw [if_neg hv, if_neg (fun z => hv z.symm), Int.zero_mul]), sumN_add, i2, sumN_pick b.1 (by omega), sumN_s]
theorem bits_in_all : ∀ n, n < 10 → ∀ b, b < 10 → ∀ c, c < 10 → (b < n ∧ c < n ∧ c ≠ b) → eqb (andb (shrb (xorb (shlb 1 ((n : Nat) : Int) - 1) (shlb 1 ((b : Nat) : Int))) ((c : Nat) : Int)) 1) 1 = true := by decide +kernel
theorem limS_other {N : Int} {B : Int → Int} (hN : N ≤ 9) (hw : WF N B) {b c : Int} (h1 : 0 ≤ b) (h2 : b < B 2) (h3 : 0 ≤ c) (h4 : c < B 2) (h5 : c ≠ b) : limS B (xorb (bset B) (shlb 1 b)) c = bused B c := by
  have n1 := hw.2.2.2.2.2.1
  have := bits_in_all (B 2).toNat (by omega) b.toNat (by omega) c.toNat (by omega) (by omega)
  rw [show (((B 2).toNat : Nat) : Int) = B 2 by omega, show ((b.toNat : Nat) : Int) = b by omega, show ((c.toNat : Nat) : Int) = c by omega] at this
  unfold limS bset
  rw [if_pos this]
theorem pay_nn {N : Int} {B : Int → Int} {b k : Int} (hN : N ≤ 9) (hw : WF N B) (h1 : 0 ≤ b) (h2 : b < B 2) : 0 ≤ pay B b k := by
  have n0 := hw.2.2.2.2.1
  have n1 := hw.2.2.2.2.2.1
  have o := oc_used hw h1 h2
  have eb := en_bnd hw
  have v := bhv_bnd hw h1 h2
  have r0 := hw.1
  have r2 := hw.2.2.1
  have r3 := hw.2.2.2.1
  have bu := bun_bnd hw
  unfold pay
  by_cases k0 : k = 0
  · rw [if_pos k0]
    exact sumN_nn _ (fun i hi => by
      have := prc_bnd (b := b) (i := i) hw (by omega) (by omega)
      omega)
  · rw [if_neg k0]
    by_cases k1 : k = 1
    · rw [if_pos k1]
      exact Int.mul_nonneg (by omega) (by omega)
    · rw [if_neg k1]
      by_cases k2 : k = 2
      · rw [if_pos k2]; omega
      · rw [if_neg k2]
        -- the others as they came out, and the rest at the reserve
        let sc : Int → Int → Int := fun c v => if c = b then 0 else cF (bval B c) 0 (hs (oc B) c).toNat v
        let s : Int → Int := fun v => sumN (fun c => sc c v) (B 2).toNat + if v = B 1 then bun B else 0
        have hval : ∀ c : Nat, (c : Int) < B 2 → ∀ i : Nat, i < (hs (oc B) c).toNat → 0 ≤ bval B c i ∧ bval B c i ≤ 99 := fun c hc i hi => by
          have o := oc_used hw (b := c) (by omega) hc
          have u := bused_bnd hw (b := c) (by omega) hc
          exact bval_bnd hw (by omega) hc (by omega) (by omega)
        have hle : ∀ x : Int, 0 ≤ x → x < (100 : Nat) → 0 ≤ s x ∧ s x ≤ tW B (xorb (bset B) (shlb 1 b)) (B 0) x := by
          intro x x0 x1
          have hh : ∀ c : Nat, c < (B 2).toNat → 0 ≤ sc c x ∧ sc c x ≤ cF (bval B c) 0 (limS B (xorb (bset B) (shlb 1 b)) c - 0).toNat x := by
            intro c hc
            show 0 ≤ (if (c : Int) = b then 0 else _) ∧ (if (c : Int) = b then 0 else _) ≤ _
            by_cases hcb : (c : Int) = b
            · rw [if_pos hcb]
              exact ⟨Int.le_refl _, cF_nn _ _ _ _⟩
            · rw [if_neg hcb, limS_other hN hw h1 h2 (by omega) (by omega) hcb]
              have o := oc_used hw (b := c) (by omega) (by omega)
              refine ⟨cF_nn _ _ _ _, ?_⟩
              have mono : ∀ m d : Nat, cF (bval B c) 0 m x ≤ cF (bval B c) 0 (m + d) x := by
                intro m d
                induction d with
                | zero => exact Int.le_refl _
                | succ d ih =>
                  rw [show m + (d + 1) = (m + d) + 1 by omega, cF_add1]
                  split <;> omega
              have := mono (hs (oc B) c).toNat ((bused B c - 0).toNat - (hs (oc B) c).toNat)
              rw [show (hs (oc B) c).toNat + ((bused B c - 0).toNat - (hs (oc B) c).toNat) = (bused B c - 0).toNat by omega] at this
              exact this
          have g1 := sumN_nn (g := fun c => sc c x) (B 2).toNat (fun i hi => (hh i hi).1)
          have g2 := sumN_le (g := fun c => sc c x) (h := fun c => cF (bval B c) 0 (limS B (xorb (bset B) (shlb 1 b)) c - 0).toNat x) (B 2).toNat (fun i hi => (hh i hi).2)
          show 0 ≤ sumN (fun c => sc c x) (B 2).toNat + (if x = B 1 then bun B else 0) ∧ sumN (fun c => sc c x) (B 2).toNat + (if x = B 1 then bun B else 0) ≤ sumN (fun c => cF (bval B c) 0 (limS B (xorb (bset B) (shlb 1 b)) c - 0).toNat x) (B 2).toNat + if x = B 1 then B 0 else 0
          by_cases hx : x = B 1
          · rw [if_pos hx, if_pos hx]
            have := oc_len hw
            unfold bun
            unfold bun at bu
            omega
          · rw [if_neg hx, if_neg hx]
            omega
        have hsum : sumN s 100 = (((oc B).length : Nat) : Int) - hs (oc B) b + bun B := by
          show sumN (fun v => sumN (fun c => sc c v) (B 2).toNat + if v = B 1 then bun B else 0) 100 = _
          rw [sumN_add, sumN_pick r2 (by omega), sumN_swap (fun v c => sc c v)]
          have e1 : sumN (fun c => sumN (fun v => sc c v) 100) (B 2).toNat = sumN (fun c => if c = b then 0 else hs (oc B) c) (B 2).toNat := sumN_congr _ (fun c hc => by
            show sumN (fun v => if (c : Int) = b then 0 else cF (bval B c) 0 (hs (oc B) c).toNat v) 100 = if (c : Int) = b then 0 else hs (oc B) c
            by_cases hcb : (c : Int) = b
            · rw [if_pos hcb]
              rw [sumN_congr (g := fun v => if (c : Int) = b then 0 else cF (bval B c) 0 (hs (oc B) c).toNat v) (h := fun _ => 0) 100 (fun v _ => if_pos hcb)]
              exact sumN_zero 100
            · rw [if_neg hcb]
              rw [sumN_congr (g := fun v => if (c : Int) = b then 0 else cF (bval B c) 0 (hs (oc B) c).toNat v) (h := fun v => cF (bval B c) 0 (hs (oc B) c).toNat v) 100 (fun v _ => if_neg hcb), (cF_sum (hval c (by omega))).1]
              have := hs_nn (oc B) c
              omega)
          have e2 := sumN_upd (g := fun c => hs (oc B) c) (g' := fun c => if c = b then 0 else hs (oc B) c) (c := b.toNat) (B 2).toNat (by omega) (fun i _ hi => if_neg (by omega))
          rw [show ((b.toNat : Nat) : Int) = b by omega, if_pos rfl] at e2
          have e3 := len_sum (n := (B 2).toNat) (oc B) (by rw [show (((B 2).toNat : Nat) : Int) = B 2 by omega]; exact oc_owd hw)
          omega
        have hsumv : sumN (fun v => s v * v) 100 = (bhad B - bhv B b) + B 1 * bun B := by
          have : sumN (fun v => s v * v) 100 = sumN (fun v => sumN (fun c => sc c v * v) (B 2).toNat + if v = B 1 then bun B * B 1 else 0) 100 := sumN_congr 100 (fun v _ => by
            show (sumN (fun c => sc c v) (B 2).toNat + if (v : Int) = B 1 then bun B else 0) * (v : Int) = _
            rw [Int.add_mul, sumN_mul]
            by_cases hv : (v : Int) = B 1
            · rw [if_pos hv, if_pos hv, hv]
            · rw [if_neg hv, if_neg hv, Int.zero_mul])
          rw [this, sumN_add, sumN_pick r2 (by omega), sumN_swap (fun v c => sc c v * v)]
          have e1 : sumN (fun c => sumN (fun v => sc c v * v) 100) (B 2).toNat = sumN (fun c => if c = b then 0 else bhv B c) (B 2).toNat := sumN_congr _ (fun c hc => by
            show sumN (fun v => (if (c : Int) = b then 0 else cF (bval B c) 0 (hs (oc B) c).toNat v) * v) 100 = if (c : Int) = b then 0 else bhv B c
            by_cases hcb : (c : Int) = b
            · rw [if_pos hcb]
              rw [sumN_congr (h := fun _ => 0) 100 (fun v _ => by rw [if_pos hcb, Int.zero_mul])]
              exact sumN_zero 100
            · rw [if_neg hcb]
              rw [sumN_congr (h := fun v => cF (bval B c) 0 (hs (oc B) c).toNat v * v) 100 (fun v _ => by rw [if_neg hcb]), (cF_sum (hval c (by omega))).2]
              rfl)
          have e2 := hadBut_eq (B := B) h1 h2
          have e4 : bun B * B 1 = B 1 * bun B := Int.mul_comm _ _
          omega
        have g := gr_opt (t := tW B (xorb (bset B) (shlb 1 b)) (B 0)) (s := s) (tW_nn (by omega)) 100 (B 0) hle (by
          have := hs_nn (oc B) b
          rw [hsum]
          unfold bun
          omega)
        rw [hsumv] at g
        have e : bworth B (xorb (bset B) (shlb 1 b)) (B 0) = gr (tW B (xorb (bset B) (shlb 1 b)) (B 0)) 100 (B 0) := rfl
        omega
theorem bpaid_bnd {N : Int} {B : Int → Int} {k : Int} (hN : N ≤ 9) (hw : WF N B) : 0 ≤ bpaid B k ∧ bpaid B k ≤ 180000 := by
  have n0 := hw.2.2.2.2.1
  have n1 := hw.2.2.2.2.2.1
  have a := sumN_nn (g := fun b => pay B b k) (B 2).toNat (fun i hi => pay_nn hN hw (by omega) (by omega))
  have c := sumN_bnd (g := fun b => pay B b k) (lo := -20000) (hi := 20000) (B 2).toNat (fun i hi => pay_bnd hN hw (by omega) (by omega))
  unfold bpaid
  omega
theorem Q_bestReserve {S T : Mem} {k : Int} (h : Rel S T) (hk : R32 k) : ∃ r S' T', f_X7_bestReserve S k = some (r, S') ∧ f_X8_bestReserve T k = some (r, T') ∧ Rel S' T' := by
  unfold f_X7_bestReserve f_X8_bestReserve
  rw [C_isKind hk, M_isKind hk]
  simp only [Option.bind_some]
  by_cases h3 : 0 ≤ k ∧ k ≤ 3
  · rw [if_pos h3, if_neg e10, if_neg e10, if_pos (show (0 : Int) ≤ 1 ∧ (1 : Int) < 126 by decide)]
    generalize hfu : FU = fu
    obtain ⟨r, r', g1, g2, g3⟩ := lp_sim (step := f_X7_bestReserve_l17 k) (step' := f_X8_bestReserve_l24 k (T 1 1)) (fun s t => s.2.2.1 = t.2.2.1 ∧ 0 ≤ s.2.2.1 ∧ s.2.2.1 ≤ 100 ∧ s.1 = t.1 ∧ ((s.2.2.1 = 0 ∧ s.1 = 0 ∧ s.2.1 = -1000000 ∧ t.2.1 = -1) ∨ (0 < s.2.2.1 ∧ s.2.1 = t.2.1 ∧ 0 ≤ s.2.1 ∧ s.2.1 ≤ 180000)) ∧ Rel s.2.2.2 T ∧ wrR (t.2.2.2 1) 1 (T 1 1) = T 1 ∧ AgM T (wr t.2.2.2 1 1 (T 1 1))) (fun s => (100 - s.2.2.1).toNat) (fun r r' => r.1 = r'.1 ∧ Rel r.2 T ∧ AgM T (wr r'.2 1 1 (T 1 1))) (by
      intro s t ⟨e, x0, x1, e2, hm, hR, hw, hA⟩
      obtain ⟨s1, s2, i, s⟩ := s
      obtain ⟨t1, t2, i', t⟩ := t
      dsimp only at e x0 x1 e2 hm hR hw hA ⊢
      subst e e2
      unfold f_X7_bestReserve_l17 f_X8_bestReserve_l24
      dsimp only
      by_cases h9 : 99 < i
      · rw [if_pos (ltb_t h9 (by omega) (by omega)), if_pos (ltb_t h9 (by omega) (by omega))]
        exact Or.inr ⟨_, _, rfl, rfl, rfl, hR, hA⟩
      · have q9 := nl (x := 99) (y := i) (by omega) (by omega) (by omega)
        have hi : 0 ≤ i ∧ i ≤ 99 := by omega
        have hw2 := wrR_WF h.1 (Or.inr ⟨rfl, hi⟩)
        have ew : wr t 1 1 i 1 = wrR (T 1) 1 i := by
          rw [wr_row, ← hw]
          funext j
          by_cases hj : j = 1
          · rw [hj, wrR_eq, wrR_eq]
          · rw [wrR_ne hj, wrR_ne hj, wrR_ne hj]
        obtain ⟨S2, c1, c2, c3⟩ := C_supposeReserve hR hi
        obtain ⟨S3, c4, c5⟩ := C_paidByAll (by decide) hw2 c2 h3.1 h3.2
        obtain ⟨T2, d1, d2, d3⟩ := DM.of (T := wr t 1 1 i) (N := 8) (by decide) (by rw [ew]; exact hw2)
        rw [ew] at d2
        obtain ⟨T3, d4, d5⟩ := M_paidAll (by decide) hw2 d2 h3.1 h3.2
        have pb := bpaid_bnd (k := k) (by decide) hw2
        have hR3 : Rel S3 T := hR.ag (c3.tr (AgC.ps c5)) AgM.rf
        have e31 : T3 1 = wrR (T 1) 1 i := by rw [d5.row]; exact d2.1
        have hw3 : wrR (T3 1) 1 (T 1 1) = T 1 := by rw [e31, wrR_back]
        have hA3 : AgM T (wr T3 1 1 (T 1 1)) := by
          obtain ⟨g1, g4, g12, g13, g5, g17⟩ := (AgM.fr d3).tr (AgM.ft d5)
          obtain ⟨b1, b4, b12, b13, b5, b17⟩ := hA
          rw [wr_ne (by decide)] at b4 b12 b13 g4 g12 g13
          rw [wr_cell (by decide)] at b5 b17 g5 g17
          refine ⟨by rw [wr_row]; exact hw3, by rw [wr_ne (by decide), g4, b4], by rw [wr_ne (by decide), g12, b12], by rw [wr_ne (by decide), g13, b13], by rw [wr_cell (by decide), g5, b5], by rw [wr_cell (by decide), g17, b17]⟩
        rw [if_neg q9, if_neg q9, if_pos (show (0 : Int) ≤ 1 ∧ (1 : Int) < 126 by decide)]
        dsimp only [wrk]
        rw [c1, Option.bind_some, c4, Option.bind_some, d1, Option.bind_some, d4, Option.bind_some]
        dsimp only
        rcases hm with ⟨m0, m1, m2, m3⟩ | ⟨m0, m1, m2, m3⟩
        · subst m2 m3
          rw [if_pos (ltb_t (show -1000000 < bpaid (wrR (T 1) 1 i) k by omega) (by omega) (by omega)), if_pos (ltb_t (show -1 < bpaid (wrR (T 1) 1 i) k by omega) (by omega) (by omega))]
          exact Or.inl ⟨_, _, rfl, rfl, ⟨rfl, by dsimp only; omega, by dsimp only; omega, rfl, Or.inr ⟨by dsimp only; omega, rfl, pb.1, pb.2⟩, hR3, hw3, hA3⟩, by dsimp only; omega⟩
        · subst m1
          by_cases hl : s2 < bpaid (wrR (T 1) 1 i) k
          · rw [if_pos (ltb_t hl (by omega) (by omega))]
            exact Or.inl ⟨_, _, rfl, rfl, ⟨rfl, by dsimp only; omega, by dsimp only; omega, rfl, Or.inr ⟨by dsimp only; omega, rfl, pb.1, pb.2⟩, hR3, hw3, hA3⟩, by dsimp only; omega⟩
          · have ql := nl (x := s2) (y := bpaid (wrR (T 1) 1 i) k) (by omega) (by omega) (by omega)
            rw [if_neg ql]
            exact Or.inl ⟨_, _, rfl, rfl, ⟨rfl, by dsimp only; omega, by dsimp only; omega, rfl, Or.inr ⟨by dsimp only; omega, rfl, m2, m3⟩, hR3, hw3, hA3⟩, by dsimp only; omega⟩) fu (0, (-1000000), 0, S) (0, (-1), 0, T) ⟨rfl, by dsimp only; omega, by dsimp only; omega, rfl, Or.inl ⟨rfl, rfl, rfl, rfl⟩, h, by
            funext j
            by_cases hj : j = 1
            · rw [hj, wrR_eq]
            · rw [wrR_ne hj], by
            refine ⟨?_, wr_ne (by decide), wr_ne (by decide), wr_ne (by decide), wr_cell (by decide), wr_cell (by decide)⟩
            rw [wr_row]
            funext j
            by_cases hj : j = 1
            · rw [hj, wrR_eq]
            · rw [wrR_ne hj]⟩ (by dsimp only; rw [← hfu, FU_eq]; omega)
    rw [g1, g2, Option.bind_some, Option.bind_some]
    dsimp only [wrk]
    refine ⟨r.1, r.2, wr r'.2 1 1 (T 1 1), rfl, ?_, g3.2.1.ag AgC.rf g3.2.2⟩
    rw [if_pos (show (0 : Int) ≤ 1 ∧ (1 : Int) < 126 by decide), g3.1]
  · rw [if_neg h3]
    exact ⟨_, _, _, rfl, rfl, h⟩
