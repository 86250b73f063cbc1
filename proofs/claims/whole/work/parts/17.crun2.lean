/-! ===== prices passed over; the system's whole run ===== -/
theorem cab_skip {N : Int} {B : Int → Int} {b p p' v : Int} (hw : WF N B) (h1 : 0 ≤ b) (h2 : b < B 2) (hp : p ≤ p') (hv : p' < v) (hm : ∀ i, 0 ≤ i → i < cab B b p → v ≤ bval B b i) : cab B b p' = cab B b p := by
  have a := cab_bnd (p := p) hw h1 h2
  refine cab_uniq hw h1 h2 a.1 a.2 (fun i h3 h4 => ?_) (fun h => ?_)
  · have := hm i h3 h4
    omega
  · have := cab_ge (p := p) (i := cab B b p) hw h1 h2 (Int.le_refl _) h
    omega
theorem abv_skip {N : Int} {B : Int → Int} {b p p' v : Int} (hw : WF N B) (h1 : 0 ≤ b) (h2 : b < B 2) (hp : p ≤ p') (hv : p' < v) (hm : ∀ i, 0 ≤ i → i < cab B b p → v ≤ bval B b i) : abv B b p' = abv B b p := by
  rw [abv_cab hw h1 h2, abv_cab hw h1 h2, cab_skip hw h1 h2 hp hv hm]
theorem cl_none {o : Out} {b to p : Int} (h : to ≤ hs o b) : cl o b to p = o := by
  unfold cl
  rw [show (to - hs o b).toNat = 0 by omega]
  simp
theorem sh_none {B : Int → Int} {p : Int} {o : Out} (h : ∀ b, 0 ≤ b → b < B 2 → tob B b p ≤ hs o b) : sh B p o = o := by
  have key : ∀ k : Nat, (k : Int) ≤ B 2 → shN B p o k = o := by
    intro k
    induction k with
    | zero => intro _; rfl
    | succ k ih =>
      intro hk
      unfold shN
      rw [ih (by omega), cl_none (h k (by omega) (by omega))]
  unfold sh
  by_cases h0 : 0 ≤ B 2
  · exact key _ (by omega)
  · rw [show (B 2).toNat = 0 by omega]; rfl
theorem bW_skip {N : Int} {B : Int → Int} {p p' v : Int} (hw : WF N B) (hp : p ≤ p') (hv : p' < v) (hm : ∀ b i, 0 ≤ b → b < B 2 → 0 ≤ i → i < cab B b p → v ≤ bval B b i) : bW B p' = bW B p := by
  have n0 := hw.2.2.2.2.1
  exact sumN_congr _ (fun i hi => abv_skip hw (by omega) (by omega) hp hv (fun j => hm i j (by omega) (by omega)))
theorem tob_hs {B : Int → Int} {b : Int} {k : Nat} (h1 : 0 ≤ b) (h2 : b < B 2) : tob B b (B 1 + k) ≤ hs (outK B k) b := by
  cases k with
  | zero =>
    rw [hs_outK_0 h1 h2, show B 1 + ((0 : Nat) : Int) = B 1 by omega]
    omega
  | succ k =>
    rw [hs_outK_s h1 h2, show B 1 + ((k + 1 : Nat) : Int) = B 1 + ((k : Int) + 1) by omega]
    omega
theorem outK_skip {N : Int} {B : Int → Int} {k : Nat} {v : Int} (hw : WF N B) (hm : ∀ b i, 0 ≤ b → b < B 2 → 0 ≤ i → i < cab B b (B 1 + k) → v ≤ bval B b i) : ∀ j : Nat, B 1 + k + j < v → outK B (k + j) = outK B k
  | 0, _ => rfl
  | j + 1, h => by
    have ih := outK_skip hw hm j (by omega)
    show sh B (B 1 + (((k + j : Nat) : Int) + 1)) (outK B (k + j)) = _
    rw [ih]
    apply sh_none
    intro b h1 h2
    have ht := tob_hs (B := B) (k := k) h1 h2
    have e1 := abv_skip (p := B 1 + k) (p' := B 1 + (((k + j : Nat) : Int) + 1)) hw h1 h2 (by omega) (by omega) (fun i => hm b i h1 h2)
    have e2 := bW_skip (p := B 1 + k) (p' := B 1 + (((k + j : Nat) : Int) + 1)) hw (by omega) (by omega) hm
    have : tob B b (B 1 + (((k + j : Nat) : Int) + 1)) = tob B b (B 1 + k) := by
      unfold tob bfree
      rw [e1, e2]
    omega
/-- what stays over the system's run -/
def FrC (S S' : Mem) (α : Nat) : Prop := (∀ k, k ≠ α → k ≠ α + 7 → k ≠ α + 8 → k ≠ α + 9 → k ≠ α + 10 → k ≠ α + 11 → k ≠ α + 12 → S' k = S k) ∧ ∀ j, j ≠ 1 → j ≠ 2 → j ≠ 3 → S' α j = S α j
theorem FrC.rf {S : Mem} {α : Nat} : FrC S S α := ⟨fun _ _ _ _ _ _ _ _ => rfl, fun _ _ _ _ => rfl⟩
theorem FrC.tr {S S1 S2 : Mem} {α : Nat} (h : FrC S S1 α) (g : FrC S1 S2 α) : FrC S S2 α := ⟨fun k a b c d e f i => (g.1 k a b c d e f i).trans (h.1 k a b c d e f i), fun j x y z => (g.2 j x y z).trans (h.2 j x y z)⟩
theorem FrC.of {S S' : Mem} {α : Nat} (h : Frmc S S' α) : FrC S S' α := ⟨fun k a b _ d e f _ => h.1 k a b d e f, fun j _ y _ => h.2 j y⟩
theorem FrC.ofw {S S' : Mem} {α : Nat} (h : Frw S S' (α + 12)) : FrC S S' α := ⟨fun k _ _ _ _ _ _ g => h k g, fun j _ _ _ => by rw [h α (by omega)]⟩
theorem FrC.book {S S' : Mem} {α : Nat} {B : Int → Int} (h : FrC S S' α) (hR : RB S (α + 1) B) : RB S' (α + 1) B :=
  hR.fr (h.1 _ (by omega) (by omega) (by omega) (by omega) (by omega) (by omega) (by omega)) (h.1 _ (by omega) (by omega) (by omega) (by omega) (by omega) (by omega) (by omega)) (h.1 _ (by omega) (by omega) (by omega) (by omega) (by omega) (by omega) (by omega)) (h.1 _ (by omega) (by omega) (by omega) (by omega) (by omega) (by omega) (by omega))
theorem FrC_wr {S : Mem} {α q : Nat} {i v : Int} (h : q = α + 7 ∨ q = α + 8 ∨ q = α + 12 ∨ (q = α ∧ (i = 1 ∨ i = 2 ∨ i = 3))) : FrC S (wr S q i v) α := by
  refine ⟨fun k a b c d e f g => ?_, fun j x y z => ?_⟩
  · rw [wr_ne]
    rcases h with h | h | h | h
    · rw [h]; exact b
    · rw [h]; exact c
    · rw [h]; exact g
    · rw [h.1]; exact a
  · rcases h with h | h | h | ⟨h, g⟩
    · rw [h, wr_cell (by omega)]
    · rw [h, wr_cell (by omega)]
    · rw [h, wr_cell (by omega)]
    · rw [wr_idx]
      rcases g with g | g | g
      · rw [g]; exact x
      · rw [g]; exact y
      · rw [g]; exact z
theorem ARc.fr {S S' : Mem} {α : Nat} {o : Out} (h : ARc S α o) (h0 : S' α 2 = S α 2) (h1 : S' (α + 7) = S (α + 7)) (h2 : S' (α + 9) = S (α + 9)) (h3 : S' (α + 10) = S (α + 10)) (h4 : S' (α + 11) = S (α + 11)) (h5 : S' (α + 1) = S (α + 1)) : ARc S' α o := by
  unfold ARc
  rw [h5]
  exact AR.fr h h0 h1 h2 h3 h4
theorem C_clock {N : Int} {B : Int → Int} {S : Mem} {α : Nat} (hN : N ≤ 9) (hw : WF N B) (hR : RB S (α + 1) B) (hA : ARc S α (outK B 0)) (ha : ∀ b, 0 ≤ b → b < B 2 → S (α + 12) b = cab B b (B 1)) : ∃ r : Int × Mem, lp (f_X0_runClock_l22 α) FU (B 1, bW B (B 1), 0, S) = some r ∧ r.1 = en B ∧ ARc r.2 α (oc1 B) ∧ FrC S r.2 α := by
  have b0 := hw.1
  have b1 := hw.2.1
  have b2 := hw.2.2.1
  have b3 := ek_le hw
  refine lp_inv (step := f_X0_runClock_l22 α) (fun (t : Int × Int × Int × Mem) => ∃ k : Nat, k ≤ ek B ∧ t.1 = B 1 + k ∧ t.2.1 = bW B (B 1 + k) ∧ 0 ≤ t.2.2.1 ∧ t.2.2.1 ≤ k ∧ ARc t.2.2.2 α (outK B k) ∧ FrC S t.2.2.2 α ∧ ∀ b, 0 ≤ b → b < B 2 → t.2.2.2 (α + 12) b = cab B b (B 1 + k)) (fun t => (100 - t.1).toNat) (fun r => r.1 = en B ∧ ARc r.2 α (oc1 B) ∧ FrC S r.2 α) ?_ FU (B 1, bW B (B 1), 0, S) ⟨0, Nat.zero_le _, by dsimp only; omega, by dsimp only; rw [show B 1 + ((0 : Nat) : Int) = B 1 by omega], Int.le_refl _, Int.le_refl _, hA, FrC.rf, by dsimp only; rw [show B 1 + ((0 : Nat) : Int) = B 1 by omega]; exact ha⟩ (by rw [FU_eq]; dsimp only; omega)
  intro t ⟨k, hk, e1, e2, e3, e4, hA', hF, ha'⟩
  obtain ⟨t1, t2, t3, t4⟩ := t
  dsimp only at e1 e2 e3 e4 hA' hF ha' ⊢
  subst e1
  subst e2
  have hR' := hF.book hR
  have wb := bW_bnd hN hw (B 1 + k)
  by_cases hgt : B 0 < bW B (B 1 + k)
  · left
    have hklt : k < ek B := by
      rcases Nat.lt_or_ge k (ek B) with h | h
      · exact h
      · have : k = ek B := by omega
        have e := ek_end hw
        unfold en at e
        rw [← this] at e
        omega
    obtain ⟨v, g1, g2, g3, g4⟩ := C_leastWanted (p := B 1 + k) hN hw hR' (by omega) (by omega) ha'
    -- the next price
    have hcabv : ∀ b, 0 ≤ b → b < B 2 → cab B b v ≤ t4 (α + 12) b ∧ t4 (α + 12) b ≤ bcnt B b := by
      intro b h1 h2
      have a := cab_bnd (p := v) hw h1 h2
      have a' := cab_bnd (p := B 1 + k) hw h1 h2
      rw [ha' b h1 h2]
      refine ⟨?_, a'.2⟩
      rcases Int.lt_or_le (cab B b (B 1 + k)) (cab B b v) with h | h
      · have x1 := cab_lt (B := B) (b := b) (p := v) (i := cab B b (B 1 + k)) a'.1 h
        have x2 := cab_ge (p := B 1 + k) (i := cab B b (B 1 + k)) hw h1 h2 (Int.le_refl _) (by omega)
        omega
      · exact h
    obtain ⟨S1, c1, c2, c3⟩ := C_wantsNow (p := v) hN hw hR' (by omega) g3 hcabv
    have hR1 : RB S1 (α + 1) B := hR'.fr (c2 _ (by omega)) (c2 _ (by omega)) (c2 _ (by omega)) (c2 _ (by omega))
    have hA1 : ARc S1 α (outK B k) := hA'.fr (by rw [c2 α (by omega)]) (c2 _ (by omega)) (c2 _ (by omega)) (c2 _ (by omega)) (c2 _ (by omega)) (c2 _ (by omega))
    -- prices between are passed over
    let j : Nat := (v - (B 1 + k) - 1).toNat
    have hj : B 1 + k + (j : Int) = v - 1 := by
      show B 1 + k + ((v - (B 1 + k) - 1).toNat : Int) = v - 1
      omega
    have hskip : ∀ i : Nat, i ≤ j → B 0 < bW B (B 1 + ((k + i : Nat) : Int)) := by
      intro i hi
      have := bW_skip (p := B 1 + k) (p' := B 1 + ((k + i : Nat) : Int)) (v := v) hw (by omega) (by omega) g4
      omega
    have hkj : k + j < ek B := by
      rcases Nat.lt_or_ge (k + j) (ek B) with h | h
      · exact h
      · have hq := hskip (ek B - k) (by omega)
        rw [show k + (ek B - k) = ek B by omega] at hq
        have e := ek_end hw
        unfold en at e
        omega
    have ho : outK B (k + j) = outK B k := outK_skip hw g4 j (by omega)
    have hnext : sh B v (outK B k) = outK B (k + j + 1) := by
      show _ = sh B (B 1 + (((k + j : Nat) : Int) + 1)) (outK B (k + j))
      rw [ho, show B 1 + (((k + j : Nat) : Int) + 1) = v by omega]
    have hlen := len_outK hw (k := k + j + 1) (by omega)
    obtain ⟨S2, d1, d2, d3⟩ := C_clinchAll (p := v) hN hw hR1 hA1 c3 (by rw [hnext]; omega) (fun c h1 h2 => by
      have := hs_outK_used hw h1 h2 k
      have := bused_bnd hw h1 h2
      omega)
    rw [hnext] at d2
    refine ⟨(v, bW B v, t3 + 1, S2), ?_, ⟨k + j + 1, by omega, by dsimp only; omega, by dsimp only; rw [show B 1 + ((k + j + 1 : Nat) : Int) = v by omega], by dsimp only; omega, by dsimp only; omega, d2, hF.tr ((FrC.ofw c2).tr (FrC.of d3)), fun b h1 h2 => ?_⟩, by dsimp only; omega⟩
    · unfold f_X0_runClock_l22
      dsimp only
      rw [if_neg (show ¬ ltb 99 t3 = true by rw [ltb_f (by omega) (by omega) (by omega)]; decide), if_pos (show ltb (t4 (α + 1) 0) (bW B (B 1 + k)) = true by rw [hR'.1]; exact ltb_t hgt (by omega) (by omega)), g1]
      simp only [Option.bind_some]
      rw [c1]
      simp only [Option.bind_some]
      rw [d1]
      rfl
    · dsimp only
      rw [d3.1 (α + 12) (by omega) (by omega) (by omega) (by omega) (by omega), c3 b h1 h2, show B 1 + ((k + j + 1 : Nat) : Int) = v by omega]
  · right
    have hke : ek B = k := ek_uniq hw (fun i hi => ek_lt (by omega)) (by omega)
    refine ⟨(B 1 + k, t4), ?_, by dsimp only; unfold en; rw [hke], by dsimp only; unfold oc1; rw [hke]; exact hA', hF⟩
    unfold f_X0_runClock_l22
    dsimp only
    rw [if_neg (show ¬ ltb 99 t3 = true by rw [ltb_f (by omega) (by omega) (by omega)]; decide), if_neg (show ¬ ltb (t4 (α + 1) 0) (bW B (B 1 + k)) = true by rw [hR'.1, ltb_f (by omega) (by omega) (by omega)]; decide)]
theorem C_runClock {N : Int} {B : Int → Int} {S : Mem} {α : Nat} (hN : N ≤ 9) (hw : WF N B) (hR : RB S (α + 1) B) (hA : ARc S α []) (ha : ∀ b, 0 ≤ b → b < B 2 → S (α + 12) b = bcnt B b) : ∃ S', f_X0_runClock S α = some S' ∧ ARc S' α (oc1 B) ∧ S' α 1 = en B ∧ FrC S S' α := by
  have b0 := hw.1
  have b1 := hw.2.1
  have b2 := hw.2.2.1
  have b3 := hw.2.2.2.1
  obtain ⟨S1, c1, c2, c3⟩ := C_wantsNow (p := B 1) hN hw hR (by omega) b3 (fun b h1 h2 => by
    rw [ha b h1 h2]
    exact ⟨(cab_bnd hw h1 h2).2, Int.le_refl _⟩)
  have hR1 : RB S1 (α + 1) B := hR.fr (c2 _ (by omega)) (c2 _ (by omega)) (c2 _ (by omega)) (c2 _ (by omega))
  have hA1 : ARc S1 α [] := hA.fr (by rw [c2 α (by omega)]) (c2 _ (by omega)) (c2 _ (by omega)) (c2 _ (by omega)) (c2 _ (by omega)) (c2 _ (by omega))
  have hlen := len_outK hw (k := 0) (by omega)
  obtain ⟨S2, d1, d2, d3⟩ := C_clinchAll (p := B 1) hN hw hR1 hA1 c3 (by show ((outK B 0).length : Int) ≤ 30; omega) (fun c h1 h2 => by show (0 : Int) ≤ 8; decide)
  have hR2 := d3.book hR1
  obtain ⟨r, k1, k2, k3, k4⟩ := C_clock hN hw hR2 d2 (fun b h1 h2 => by
    rw [d3.1 (α + 12) (by omega) (by omega) (by omega) (by omega) (by omega)]
    exact c3 b h1 h2)
  refine ⟨wr r.2 α 1 r.1, ?_, ?_, by rw [wr_eq]; exact k2, (FrC.ofw c2).tr ((FrC.of d3).tr (k4.tr (FrC_wr (Or.inr (Or.inr (Or.inr ⟨rfl, Or.inl rfl⟩))))))⟩
  · unfold f_X0_runClock
    rw [hR.2.1, c1]
    simp only [Option.bind_some]
    rw [d1]
    simp only [Option.bind_some]
    rw [k1]
    rfl
  · exact k3.fr (wr_idx (by decide) _) (wr_ne (by omega)) (wr_ne (by omega)) (wr_ne (by omega)) (wr_ne (by omega)) (wr_ne (by omega))
theorem C_round {N : Int} {B : Int → Int} {S : Mem} {α : Nat} {o : Out} {y : Int} (hN : N ≤ 9) (hw : WF N B) (hR : RB S (α + 1) B) (hA : ARc S α o) (he1 : 0 ≤ S α 1) (he2 : S α 1 ≤ 99) (hL : (o.length : Int) ≤ B 0) (hu : ∀ c, 0 ≤ c → c < B 2 → hs o c ≤ bused B c) : ∃ S', lp (f_X0_shareOut_l24 α y) FU (0, S) = some S' ∧ ARc S' α (rd B (S α 1) o) ∧ Frmc S S' α := by
  have b0 := hw.1
  have b1 := hw.2.1
  have n0 := hw.2.2.2.2.1
  have n1 := hw.2.2.2.2.2.1
  refine lp_inv (step := f_X0_shareOut_l24 α y) (fun (t : Int × Mem) => ∃ i : Nat, t.1 = i ∧ (i : Int) ≤ B 2 ∧ ARc t.2 α (rdN B (S α 1) o i) ∧ Frmc S t.2 α) (fun t => (B 2 - t.1).toNat) (fun r => ARc r α (rd B (S α 1) o) ∧ Frmc S r α) ?_ FU (0, S) ⟨0, rfl, n0, hA, Frm.rf⟩ (by rw [FU_eq]; dsimp only; omega)
  intro t ⟨i, e0, hi, hA', hF⟩
  obtain ⟨t1, t3⟩ := t
  dsimp only at e0 hA' hF ⊢
  subst e0
  have hR' := hF.book hR
  have ee : t3 α 1 = S α 1 := hF.2 1 (by decide)
  have gl := len_rdN_le (e := S α 1) hL i
  have a1 := hA'.1
  by_cases hin : (i : Int) < B 2
  · have hgu := hs_rdN_bnd (e := S α 1) hw (c := i) (by omega) hin (hu i (by omega) hin) i
    have hub := bused_bnd hw (b := i) (by omega) hin
    have a2 := hA'.2.1 i (by omega) (by rw [hR'.2.2.1]; exact hin)
    have ga := abv_9 hw (b := i) (by omega) hin (S α 1 - 1)
    have hnn := hs_nn (rdN B (S α 1) o i) i
    by_cases hfull : ((rdN B (S α 1) o i).length : Int) < B 0
    · left
      by_cases htk : hs (rdN B (S α 1) o i) i < abv B i (S α 1 - 1)
      · have gab := abv_bnd (p := S α 1 - 1) hub.1
        obtain ⟨t', g1, g2, g3⟩ := C_give (p := S α 1) (b := i) hN hw hR' hA' (by omega) hin (by omega) (by omega) (fun c h1 h2 => by
          have x1 := hs_rdN_bnd (e := S α 1) hw h1 h2 (hu c h1 h2) i
          have x2 := bused_bnd hw h1 h2
          omega)
        have hstep : rdN B (S α 1) o (i + 1) = rdN B (S α 1) o i ++ [((i : Int), S α 1)] := by
          show rdS _ _ _ _ = _
          unfold rdS
          rw [if_pos ⟨hfull, htk⟩]
        refine ⟨((i : Int) + 1, t'), ?_, ⟨i + 1, by dsimp only; omega, by omega, by dsimp only; rw [hstep]; exact g2, hF.tr g3⟩, by dsimp only; omega⟩
        unfold f_X0_shareOut_l24
        dsimp only
        rw [if_pos (show ltb (i : Int) (t3 (α + 1) 2) = true by rw [hR'.2.2.1]; exact ltb_t hin (by omega) (by omega)), if_pos (show ltb (t3 α 2) (t3 (α + 1) 0) = true by rw [a1, hR'.1]; exact ltb_t hfull (by omega) (by omega)), ee, C_takesOf hN hw hR' (by omega) hin he1 he2]
        simp only [Option.bind_some]
        rw [if_pos (by omega), if_pos (show ltb (t3 (α + 7) (i : Int)) (abv B i (S α 1 - 1)) = true by rw [a2]; exact ltb_t htk (by omega) (by omega)), g1]
        rfl
      · have hstep : rdN B (S α 1) o (i + 1) = rdN B (S α 1) o i := by
          show rdS _ _ _ _ = _
          unfold rdS
          rw [if_neg (fun z => htk z.2)]
        refine ⟨((i : Int) + 1, t3), ?_, ⟨i + 1, by dsimp only; omega, by omega, by dsimp only; rw [hstep]; exact hA', hF⟩, by dsimp only; omega⟩
        unfold f_X0_shareOut_l24
        dsimp only
        rw [if_pos (show ltb (i : Int) (t3 (α + 1) 2) = true by rw [hR'.2.2.1]; exact ltb_t hin (by omega) (by omega)), if_pos (show ltb (t3 α 2) (t3 (α + 1) 0) = true by rw [a1, hR'.1]; exact ltb_t hfull (by omega) (by omega)), ee, C_takesOf hN hw hR' (by omega) hin he1 he2]
        simp only [Option.bind_some]
        rw [if_pos (by omega), if_neg (show ¬ ltb (t3 (α + 7) (i : Int)) (abv B i (S α 1 - 1)) = true by rw [a2, ltb_f (by omega) (by omega) (by omega)]; decide)]
        rfl
    · right
      have hfin : rd B (S α 1) o = rdN B (S α 1) o i := by
        have := rdN_full (B := B) (e := S α 1) (o := o) (k := i) (by omega) ((B 2).toNat - i)
        rw [show i + ((B 2).toNat - i) = (B 2).toNat by omega] at this
        exact this
      refine ⟨t3, ?_, by rw [hfin]; exact hA', hF⟩
      unfold f_X0_shareOut_l24
      dsimp only
      rw [if_pos (show ltb (i : Int) (t3 (α + 1) 2) = true by rw [hR'.2.2.1]; exact ltb_t hin (by omega) (by omega)), if_neg (show ¬ ltb (t3 α 2) (t3 (α + 1) 0) = true by rw [a1, hR'.1, ltb_f (by omega) (by omega) (by omega)]; decide)]
  · right
    have hieq : i = (B 2).toNat := by omega
    have hfin : rd B (S α 1) o = rdN B (S α 1) o i := by rw [hieq]; rfl
    refine ⟨t3, ?_, by rw [hfin]; exact hA', hF⟩
    unfold f_X0_shareOut_l24
    dsimp only
    rw [if_neg (show ¬ ltb (i : Int) (t3 (α + 1) 2) = true by rw [hR'.2.2.1, ltb_f (by omega) (by omega) (by omega)]; decide)]
theorem C_shareOut {N : Int} {B : Int → Int} {S : Mem} {α : Nat} {o : Out} (hN : N ≤ 9) (hw : WF N B) (hR : RB S (α + 1) B) (hA : ARc S α o) (he1 : 0 ≤ S α 1) (he2 : S α 1 ≤ 99) (hL : (o.length : Int) ≤ B 0) (hu : ∀ c, 0 ≤ c → c < B 2 → hs o c ≤ bused B c) : ∃ S', f_X0_shareOut S α = some S' ∧ ARc S' α (rds B (S α 1) o 8) ∧ Frmc S S' α := by
  have b0 := hw.1
  have b1 := hw.2.1
  have n0 := hw.2.2.2.2.1
  obtain ⟨r, q1, q2, q3⟩ := lp_inv (step := f_X0_shareOut_l2 α) (fun (t : Int × Mem) => ∃ i : Nat, t.1 = i ∧ i ≤ 8 ∧ ARc t.2 α (rds B (S α 1) o i) ∧ Frmc S t.2 α) (fun t => (8 - t.1).toNat) (fun r => ARc r α (rds B (S α 1) o 8) ∧ Frmc S r α) (by
    intro t ⟨i, e0, hi, hA', hF⟩
    obtain ⟨t1, t3⟩ := t
    dsimp only at e0 hA' hF ⊢
    subst e0
    have hR' := hF.book hR
    have ee : t3 α 1 = S α 1 := hF.2 1 (by decide)
    have gl := len_rds_le (e := S α 1) hL i
    have a1 := hA'.1
    by_cases hi8 : i < 8
    · by_cases hfull : ((rds B (S α 1) o i).length : Int) < B 0
      · left
        obtain ⟨t', g1, g2, g3⟩ := C_round (y := (i : Int)) hN hw hR' hA' (by rw [ee]; exact he1) (by rw [ee]; exact he2) gl.1 (fun c h1 h2 => (hs_rds_bnd (e := S α 1) hw h1 h2 (hu c h1 h2) i).1)
        rw [ee] at g2
        refine ⟨((i : Int) + 1, t'), ?_, ⟨i + 1, by dsimp only; omega, by omega, g2, hF.tr g3⟩, by dsimp only; omega⟩
        unfold f_X0_shareOut_l2
        dsimp only
        rw [if_pos (ltb_t (by omega) (by omega) (by omega)), if_pos (show ltb (t3 α 2) (t3 (α + 1) 0) = true by rw [a1, hR'.1]; exact ltb_t hfull (by omega) (by omega)), g1]
        rfl
      · right
        have hst : Still B (S α 1) (rds B (S α 1) o i) := Or.inl (by omega)
        have hfin := rds_stop n0 hst (8 - i)
        rw [show i + (8 - i) = 8 by omega] at hfin
        refine ⟨t3, ?_, by rw [hfin]; exact hA', hF⟩
        unfold f_X0_shareOut_l2
        dsimp only
        rw [if_pos (ltb_t (by omega) (by omega) (by omega)), if_neg (show ¬ ltb (t3 α 2) (t3 (α + 1) 0) = true by rw [a1, hR'.1, ltb_f (by omega) (by omega) (by omega)]; decide)]
    · right
      have : i = 8 := by omega
      subst this
      refine ⟨t3, ?_, hA', hF⟩
      unfold f_X0_shareOut_l2
      dsimp only
      rw [if_neg (by rw [ltb_f (by decide) (by decide) (by decide)]; decide)]) FU (0, S) ⟨0, rfl, Nat.zero_le _, hA, Frm.rf⟩ (by rw [FU_eq]; dsimp only; omega)
  refine ⟨r, ?_, q2, q3⟩
  unfold f_X0_shareOut
  rw [q1]
  rfl
/-- the system's run -/
theorem C_run {N : Int} {B : Int → Int} {S : Mem} {α : Nat} (hN : N ≤ 9) (hw : WF N B) (hR : RB S (α + 1) B) : ∃ S', f_X0_run S α = some S' ∧ ARc S' α (oc B) ∧ S' α 1 = en B ∧ S' α 3 = ((oc1 B).length : Nat) ∧ (∀ b, 0 ≤ b → b < B 2 → S' (α + 8) b = hs (oc1 B) b) ∧ FrC S S' α := by
  have b0 := hw.1
  have b1 := hw.2.1
  have b2 := hw.2.2.1
  have b3 := ek_le hw
  have n0 := hw.2.2.2.2.1
  have n1 := hw.2.2.2.2.2.1
  -- the start
  obtain ⟨S1, a1, a2, a3, a4, a5⟩ := lp_rel (step := f_X0_run_l7 α) (fun i (t : Int × Mem) => t.1 = i ∧ FrC S t.2 α ∧ t.2 α 2 = 0 ∧ (∀ b : Int, 0 ≤ b → b < (i : Int) → t.2 (α + 7) b = 0) ∧ ∀ b : Int, 0 ≤ b → b < (i : Int) → t.2 (α + 12) b = bcnt B b) (fun (t : Mem) => FrC S t α ∧ t α 2 = 0 ∧ (∀ b : Int, 0 ≤ b → b < B 2 → t (α + 7) b = 0) ∧ ∀ b : Int, 0 ≤ b → b < B 2 → t (α + 12) b = bcnt B b) (B 2).toNat (by
      intro i t hi ⟨e0, hF, e1, e2, e3⟩
      obtain ⟨t1, t2⟩ := t
      dsimp only at e0 hF e1 e2 e3 ⊢
      subst e0
      have hR' := hF.book hR
      have hcv : wr t2 (α + 7) (i : Int) 0 (α + 1 + 1) (i : Int) = bcnt B i := by
        rw [wr_cell (by omega)]
        exact hR'.2.2.2.2.1 i (by omega) (by omega)
      refine ⟨((i : Int) + 1, wr (wr t2 (α + 7) (i : Int) 0) (α + 12) (i : Int) (bcnt B i)), ?_, by dsimp only; omega, hF.tr ((FrC_wr (Or.inl rfl)).tr (FrC_wr (Or.inr (Or.inr (Or.inl rfl))))), ?_, fun b h1 h2 => ?_, fun b h1 h2 => ?_⟩
      · unfold f_X0_run_l7
        dsimp only
        rw [if_pos (show ltb (i : Int) (t2 (α + 1) 2) = true by rw [hR'.2.2.1]; exact ltb_t (by omega) (by omega) (by omega)), if_pos (by omega)]
        dsimp only [wrk]
        rw [hcv]
      · dsimp only
        rw [wr_cell (by omega), wr_cell (by omega)]; exact e1
      · dsimp only
        rw [wr_cell (by omega)]
        by_cases hb : b = i
        · rw [hb, wr_eq]
        · rw [wr_idx hb]; exact e2 b h1 (by omega)
      · dsimp only
        by_cases hb : b = i
        · rw [hb, wr_eq]
        · rw [wr_idx hb, wr_cell (by omega)]; exact e3 b h1 (by omega)) (by
      intro t ⟨e0, hF, e1, e2, e3⟩
      obtain ⟨t1, t2⟩ := t
      dsimp only at e0 hF e1 e2 e3 ⊢
      subst e0
      have hR' := hF.book hR
      refine ⟨t2, ?_, hF, e1, fun b h1 h2 => e2 b h1 (by omega), fun b h1 h2 => e3 b h1 (by omega)⟩
      unfold f_X0_run_l7
      dsimp only
      rw [if_neg (show ¬ ltb (((B 2).toNat : Nat) : Int) (t2 (α + 1) 2) = true by rw [hR'.2.2.1, ltb_f (by omega) (by omega) (by omega)]; decide)]) (n := FU) (by rw [FU_eq]; omega) (s := (0, wr S α 2 0)) ⟨rfl, FrC_wr (Or.inr (Or.inr (Or.inr ⟨rfl, Or.inr (Or.inl rfl)⟩))), (show wr S α 2 0 α 2 = 0 from wr_eq _ _ _ _), fun b h1 h2 => by omega, fun b h1 h2 => by omega⟩
  have hR1 := a2.book hR
  have hA1 : ARc S1 α [] := by
    refine ⟨by rw [a3]; rfl, fun b h1 h2 => by rw [hR1.2.2.1] at h2; rw [a4 b h1 h2]; rfl, fun b i h1 h2 h3 h4 => ?_, fun k h1 h2 => ?_⟩
    · have : hs ([] : Out) b = 0 := rfl
      omega
    · have : (([] : Out).length : Int) = 0 := rfl
      omega
  obtain ⟨S2, c1, c2, c3, c4⟩ := C_runClock hN hw hR1 hA1 a5
  let S3 := wr S2 α 3 (S2 α 2)
  have f3 : FrC S2 S3 α := FrC_wr (Or.inr (Or.inr (Or.inr ⟨rfl, Or.inr (Or.inr rfl)⟩)))
  have hR3 := f3.book (c4.book hR1)
  have hA3 : ARc S3 α (oc1 B) := c2.fr (wr_idx (by decide) _) (wr_ne (by omega)) (wr_ne (by omega)) (wr_ne (by omega)) (wr_ne (by omega)) (wr_ne (by omega))
  have e31 : S3 α 1 = en B := by
    show wr S2 α 3 (S2 α 2) α 1 = _
    rw [wr_idx (by decide), c3]
  have e33 : S3 α 3 = ((oc1 B).length : Nat) := by
    show wr S2 α 3 (S2 α 2) α 3 = _
    rw [wr_eq, c2.1]
  -- units by the clock
  obtain ⟨S4, d1, d2, d3, d4, d5, d6⟩ := lp_rel (step := f_X0_run_l60 α) (fun i (t : Int × Mem) => t.1 = i ∧ FrC S3 t.2 α ∧ ARc t.2 α (oc1 B) ∧ t.2 α 1 = S3 α 1 ∧ t.2 α 3 = S3 α 3 ∧ ∀ b : Int, 0 ≤ b → b < (i : Int) → t.2 (α + 8) b = hs (oc1 B) b) (fun (t : Mem) => FrC S3 t α ∧ ARc t α (oc1 B) ∧ t α 1 = S3 α 1 ∧ t α 3 = S3 α 3 ∧ ∀ b : Int, 0 ≤ b → b < B 2 → t (α + 8) b = hs (oc1 B) b) (B 2).toNat (by
      intro i t hi ⟨e0, hF, hA', e1, e2, e3⟩
      obtain ⟨t1, t2⟩ := t
      dsimp only at e0 hF hA' e1 e2 e3 ⊢
      subst e0
      have hR' := hF.book hR3
      have hv := hA'.2.1 i (by omega) (by rw [hR'.2.2.1]; omega)
      refine ⟨((i : Int) + 1, wr t2 (α + 8) (i : Int) (t2 (α + 7) (i : Int))), ?_, by dsimp only; omega, hF.tr (FrC_wr (Or.inr (Or.inl rfl))), ?_, ?_, ?_, fun b h1 h2 => ?_⟩
      · unfold f_X0_run_l60
        dsimp only
        rw [if_pos (show ltb (i : Int) (t2 (α + 1) 2) = true by rw [hR'.2.2.1]; exact ltb_t (by omega) (by omega) (by omega)), if_pos (by omega)]
        rfl
      · dsimp only
        exact hA'.fr (wr_cell (by omega)) (wr_ne (by omega)) (wr_ne (by omega)) (wr_ne (by omega)) (wr_ne (by omega)) (wr_ne (by omega))
      · dsimp only
        rw [wr_cell (by omega)]; exact e1
      · dsimp only
        rw [wr_cell (by omega)]; exact e2
      · dsimp only
        by_cases hb : b = i
        · rw [hb, wr_eq]; exact hv
        · rw [wr_idx hb]; exact e3 b h1 (by omega)) (by
      intro t ⟨e0, hF, hA', e1, e2, e3⟩
      obtain ⟨t1, t2⟩ := t
      dsimp only at e0 hF hA' e1 e2 e3 ⊢
      subst e0
      have hR' := hF.book hR3
      refine ⟨t2, ?_, hF, hA', e1, e2, fun b h1 h2 => e3 b h1 (by omega)⟩
      unfold f_X0_run_l60
      dsimp only
      rw [if_neg (show ¬ ltb (((B 2).toNat : Nat) : Int) (t2 (α + 1) 2) = true by rw [hR'.2.2.1, ltb_f (by omega) (by omega) (by omega)]; decide)]) (n := FU) (by rw [FU_eq]; omega) (s := (0, S3)) ⟨rfl, FrC.rf, hA3, rfl, rfl, fun b h1 h2 => by omega⟩
  have hR4 := d2.book hR3
  have hl1 := len_outK hw (k := ek B) (Nat.le_refl _)
  obtain ⟨S5, m1, m2, m3⟩ := C_shareOut hN hw hR4 d3 (by rw [d4, e31]; unfold en; omega) (by rw [d4, e31]; unfold en; omega) hl1 (fun c h1 h2 => hs_outK_used hw h1 h2 _)
  rw [d4, e31] at m2
  refine ⟨S5, ?_, m2, by rw [m3.2 1 (by decide), d4, e31], by rw [m3.2 3 (by decide), d5, e33], fun b h1 h2 => ?_, ?_⟩
  · unfold f_X0_run
    dsimp only [wrk]
    rw [a1]
    simp only [Option.bind_some]
    rw [c1]
    simp only [Option.bind_some]
    have e30 : wr S2 α 3 (S2 α 2) = S3 := rfl
    rw [e30, d1]
    simp only [Option.bind_some]
    rw [m1]
    rfl
  · rw [m3.1 (α + 8) (by omega) (by omega) (by omega) (by omega) (by omega)]
    exact d6 b h1 h2
  · exact a2.tr (c4.tr (f3.tr (d2.tr (FrC.of m3))))
