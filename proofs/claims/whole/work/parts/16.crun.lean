/-! ===== the system's clock ===== -/
def ARc (S : Mem) (α : Nat) (o : Out) : Prop := AR S α 2 (α + 7) (α + 9) (α + 10) (α + 11) (S (α + 1) 2) o
def Frmc (S S' : Mem) (α : Nat) : Prop := Frm S S' α 2 (α + 7) (α + 9) (α + 10) (α + 11)
theorem RB.fr {S S' : Mem} {q : Nat} {B : Int → Int} (h : RB S q B) (h0 : S' q = S q) (h1 : S' (q + 1) = S (q + 1)) (h2 : S' (q + 2) = S (q + 2)) (h3 : S' (q + 3) = S (q + 3)) : RB S' q B := by
  unfold RB
  rw [h0, h1, h2, h3]
  exact h
theorem Frmc.book {S S' : Mem} {α : Nat} {B : Int → Int} (h : Frmc S S' α) (hR : RB S (α + 1) B) : RB S' (α + 1) B :=
  hR.fr (h.1 _ (by omega) (by omega) (by omega) (by omega) (by omega)) (h.1 _ (by omega) (by omega) (by omega) (by omega) (by omega)) (h.1 _ (by omega) (by omega) (by omega) (by omega) (by omega)) (h.1 _ (by omega) (by omega) (by omega) (by omega) (by omega))
theorem C_give {N : Int} {B : Int → Int} {S : Mem} {α : Nat} {o : Out} {b p : Int} (hN : N ≤ 9) (hw : WF N B) (hR : RB S (α + 1) B) (hA : ARc S α o) (h1 : 0 ≤ b) (h2 : b < B 2) (h3 : (o.length : Int) < 30) (h4 : hs o b < 8) (h8 : ∀ c, 0 ≤ c → c < B 2 → hs o c ≤ 8) : ∃ S', f_X0_give S α b p = some S' ∧ ARc S' α (o ++ [(b, p)]) ∧ Frmc S S' α := by
  have n1 := hw.2.2.2.2.2.1
  have en := hR.2.2.1
  have a1 := hA.1
  have a2 := hA.2.1 b h1 (by rw [en]; exact h2)
  have a3 := hs_nn o b
  have f := Frm_gv (S := S) (cf := α) (ff := 2) (cu := α + 7) (cp := α + 9) (co := α + 10) (ca := α + 11) (b := b) (p := p) (by omega) (by omega) (by omega) (by omega)
  refine ⟨gv S α 2 (α + 7) (α + 9) (α + 10) (α + 11) b p, ?_, ?_, f⟩
  · unfold f_X0_give
    rw [if_pos (show ltb (S α 2) 30 = true by rw [a1]; exact ltb_t h3 (by omega) (by omega)), if_pos (by omega), if_pos (show ltb (S (α + 7) b) 8 = true by rw [a2]; exact ltb_t h4 (by omega) (by omega)), if_pos (by omega)]
    dsimp only [wrk]
    have e0 : b * 8 + S (α + 7) b = 8 * b + S (α + 7) b := by omega
    rw [e0]
    have e2 : wr S (α + 9) (8 * b + S (α + 7) b) p (α + 7) b = S (α + 7) b := wr_cell (by omega)
    rw [e2]
    have e1 : wr (wr S (α + 9) (8 * b + S (α + 7) b) p) (α + 7) b (S (α + 7) b + 1) α 2 = S α 2 := by
      rw [wr_cell (by omega), wr_cell (by omega)]
    rw [e1, if_pos (by omega)]
    have e3 : wr (wr (wr S (α + 9) (8 * b + S (α + 7) b) p) (α + 7) b (S (α + 7) b + 1)) (α + 10) (S α 2) b α 2 = S α 2 := by
      rw [wr_cell (by omega), e1]
    rw [e3, if_pos (by omega)]
    have e4 : wr (wr (wr (wr S (α + 9) (8 * b + S (α + 7) b) p) (α + 7) b (S (α + 7) b + 1)) (α + 10) (S α 2) b) (α + 11) (S α 2) p α 2 = S α 2 := by
      rw [wr_cell (by omega), e3]
    rw [e4]
    rfl
  · have e : gv S α 2 (α + 7) (α + 9) (α + 10) (α + 11) b p (α + 1) = S (α + 1) := f.1 _ (by omega) (by omega) (by omega) (by omega) (by omega)
    unfold ARc
    rw [e]
    exact AR_gv hA (by omega) (by omega) (by omega) (by omega) (by omega) (by omega) (by omega) (by omega) (by omega) (by omega) h1 (by rw [en]; exact h2) (by rw [en]; exact h8) h4
/-- values above a price, whatever the cap -/
def cab (B : Int → Int) (b p : Int) : Int := (ledN (fun i => decide (p < bval B b i)) (bcnt B b).toNat : Nat)
theorem abv_cab {N : Int} {B : Int → Int} {b p : Int} (hw : WF N B) (h1 : 0 ≤ b) (h2 : b < B 2) : abv B b p = min (bcap B b) (cab B b p) := by
  have a := hw.2.2.2.2.2.2.1 b h1 h2
  unfold abv cab bused
  rw [show (min (bcap B b) (bcnt B b)).toNat = min (bcap B b).toNat (bcnt B b).toNat by omega, ledN_min]
  omega
theorem cab_bnd {N : Int} {B : Int → Int} {b p : Int} (hw : WF N B) (h1 : 0 ≤ b) (h2 : b < B 2) : 0 ≤ cab B b p ∧ cab B b p ≤ bcnt B b := by
  have a := hw.2.2.2.2.2.2.1 b h1 h2
  have := ledN_le (fun i => decide (p < bval B b i)) (bcnt B b).toNat
  unfold cab
  omega
theorem bval_mono {N : Int} {B : Int → Int} {b : Int} (hw : WF N B) (h1 : 0 ≤ b) (h2 : b < B 2) : ∀ (d : Nat) (i : Int), 0 ≤ i → i + d < bcnt B b → bval B b (i + d) ≤ bval B b i
  | 0, i, _, _ => by
    rw [show i + ((0 : Nat) : Int) = i by omega]
    exact Int.le_refl _
  | d + 1, i, h3, h4 => by
    have ih := bval_mono hw h1 h2 d i h3 (by omega)
    have s := hw.2.2.2.2.2.2.2.2 b (i + d) h1 h2 (by omega) (by omega)
    rw [show i + ((d + 1 : Nat) : Int) = i + d + 1 by omega]
    omega
theorem bval_le {N : Int} {B : Int → Int} {b i j : Int} (hw : WF N B) (h1 : 0 ≤ b) (h2 : b < B 2) (h3 : 0 ≤ i) (h4 : i ≤ j) (h5 : j < bcnt B b) : bval B b j ≤ bval B b i := by
  have := bval_mono hw h1 h2 (j - i).toNat i h3 (by omega)
  rw [show i + ((j - i).toNat : Int) = j by omega] at this
  exact this
theorem cab_lt {B : Int → Int} {b p i : Int} (h1 : 0 ≤ i) (h2 : i < cab B b p) : p < bval B b i := by
  have := ledN_lt (fun i => decide (p < bval B b i)) (bcnt B b).toNat i.toNat (by unfold cab at h2; omega)
  simp only [decide_eq_true_eq] at this
  rw [show ((i.toNat : Nat) : Int) = i by omega] at this
  exact this
theorem cab_ge {N : Int} {B : Int → Int} {b p i : Int} (hw : WF N B) (h1 : 0 ≤ b) (h2 : b < B 2) (h3 : cab B b p ≤ i) (h4 : i < bcnt B b) : bval B b i ≤ p := by
  have a := cab_bnd (p := p) hw h1 h2
  have hs := ledN_stop (fun i => decide (p < bval B b i)) (bcnt B b).toNat (by unfold cab at h3; omega)
  simp only [decide_eq_false_iff_not] at hs
  have m := bval_le hw h1 h2 a.1 h3 h4
  unfold cab at m
  omega
theorem cab_uniq {N : Int} {B : Int → Int} {b p k : Int} (hw : WF N B) (h1 : 0 ≤ b) (h2 : b < B 2) (h3 : 0 ≤ k) (h4 : k ≤ bcnt B b) (h5 : ∀ i, 0 ≤ i → i < k → p < bval B b i) (h6 : k < bcnt B b → bval B b k ≤ p) : cab B b p = k := by
  unfold cab
  rw [ledN_uniq (k := k.toNat) (by omega) (fun i hi => by
    have := h5 i (by omega) (by omega)
    simpa using this) (by
    by_cases h : k < bcnt B b
    · right
      have := h6 h
      rw [show ((k.toNat : Nat) : Int) = k by omega]
      simpa using this
    · left; omega)]
  omega
/-- the memory but for one row of numbers -/
def Frw (S S' : Mem) (c : Nat) : Prop := ∀ k, k ≠ c → S' k = S k
theorem C_down {N : Int} {B : Int → Int} {S : Mem} {α : Nat} {b p y2 : Int} (hN : N ≤ 9) (hw : WF N B) (hR : RB S (α + 1) B) (h1 : 0 ≤ b) (h2 : b < B 2) (hp1 : -1 ≤ p) (hp2 : p ≤ 99) (ha1 : cab B b p ≤ S (α + 12) b) (ha2 : S (α + 12) b ≤ bcnt B b) : ∃ S', lp (f_X0_wantsNow_l15 α p y2 b) FU S = some S' ∧ Frw S S' (α + 12) ∧ (∀ c, c ≠ b → S' (α + 12) c = S (α + 12) c) ∧ S' (α + 12) b = cab B b p := by
  have n1 := hw.2.2.2.2.2.1
  have a := hw.2.2.2.2.2.2.1 b h1 h2
  have ac := cab_bnd (p := p) hw h1 h2
  refine lp_rel (step := f_X0_wantsNow_l15 α p y2 b) (fun i (t : Mem) => Frw S t (α + 12) ∧ (∀ c, c ≠ b → t (α + 12) c = S (α + 12) c) ∧ t (α + 12) b = S (α + 12) b - i) (fun t => Frw S t (α + 12) ∧ (∀ c, c ≠ b → t (α + 12) c = S (α + 12) c) ∧ t (α + 12) b = cab B b p) (S (α + 12) b - cab B b p).toNat ?_ ?_ (by rw [FU_eq]; omega) ⟨fun _ _ => rfl, fun _ _ => rfl, by omega⟩
  · intro i t hi ⟨hF, hc, hv⟩
    have hR' : RB t (α + 1) B := hR.fr (hF _ (by omega)) (hF _ (by omega)) (hF _ (by omega)) (hF _ (by omega))
    have vb := hw.2.2.2.2.2.2.2.1 b (S (α + 12) b - i - 1) h1 h2 (by omega) (by omega)
    have vg := cab_ge (p := p) (i := S (α + 12) b - i - 1) hw h1 h2 (by omega) (by omega)
    refine ⟨wr t (α + 12) b (t (α + 12) b - 1), ?_, fun k hk => by rw [wr_ne hk]; exact hF k hk, fun c hcb => by rw [wr_idx hcb]; exact hc c hcb, by rw [wr_eq, hv]; omega⟩
    unfold f_X0_wantsNow_l15
    rw [if_pos (by omega), hv, if_pos (ltb_t (by omega) (by omega) (by omega)), C_valueAt hN hw hR' h1 h2 (by omega) (by omega)]
    simp only [Option.bind_some]
    rw [if_neg (by rw [ltb_f vg (by omega) (by omega)]; decide)]
    rfl
  · intro t ⟨hF, hc, hv⟩
    have hR' : RB t (α + 1) B := hR.fr (hF _ (by omega)) (hF _ (by omega)) (hF _ (by omega)) (hF _ (by omega))
    have hv' : t (α + 12) b = cab B b p := by omega
    refine ⟨t, ?_, hF, hc, hv'⟩
    unfold f_X0_wantsNow_l15
    rw [if_pos (by omega), hv']
    by_cases h0 : 0 < cab B b p
    · have vl := cab_lt (B := B) (b := b) (p := p) (i := cab B b p - 1) (by omega) (by omega)
      have vb := hw.2.2.2.2.2.2.2.1 b (cab B b p - 1) h1 h2 (by omega) (by omega)
      rw [if_pos (ltb_t h0 (by omega) (by omega)), C_valueAt hN hw hR' h1 h2 (by omega) (by omega)]
      simp only [Option.bind_some]
      rw [if_pos (ltb_t vl (by omega) (by omega))]
    · rw [if_neg (by rw [ltb_f (by omega) (by omega) (by omega)]; decide)]
theorem C_wantNow {N : Int} {B : Int → Int} {S : Mem} {α : Nat} {b p : Int} (hN : N ≤ 9) (hw : WF N B) (hR : RB S (α + 1) B) (h1 : 0 ≤ b) (h2 : b < B 2) (ha : S (α + 12) b = cab B b p) : f_X0_wantNow S α b = some (abv B b p) := by
  have n1 := hw.2.2.2.2.2.1
  have a := hw.2.2.2.2.2.2.1 b h1 h2
  have ac := cab_bnd (p := p) hw h1 h2
  unfold f_X0_wantNow
  rw [if_pos (by omega), ha, hR.2.2.2.1 b h1 h2, mnb_le (by omega) (by omega) (by omega) (by omega), abv_cab hw h1 h2]
  congr 1
  omega
theorem C_wantsNow {N : Int} {B : Int → Int} {S : Mem} {α : Nat} {p : Int} (hN : N ≤ 9) (hw : WF N B) (hR : RB S (α + 1) B) (hp1 : -1 ≤ p) (hp2 : p ≤ 99) (ha : ∀ b, 0 ≤ b → b < B 2 → cab B b p ≤ S (α + 12) b ∧ S (α + 12) b ≤ bcnt B b) : ∃ S', f_X0_wantsNow S α p = some (bW B p, S') ∧ Frw S S' (α + 12) ∧ ∀ b, 0 ≤ b → b < B 2 → S' (α + 12) b = cab B b p := by
  have n0 := hw.2.2.2.2.1
  have n1 := hw.2.2.2.2.2.1
  obtain ⟨r, g1, g2, g3, g4⟩ := lp_rel (step := f_X0_wantsNow_l4 α p) (fun i (t : Int × Int × Mem) => t.1 = sumN (fun b => abv B b p) i ∧ t.2.1 = i ∧ Frw S t.2.2 (α + 12) ∧ (∀ b : Int, 0 ≤ b → b < (i : Int) → t.2.2 (α + 12) b = cab B b p) ∧ ∀ b : Int, (i : Int) ≤ b → t.2.2 (α + 12) b = S (α + 12) b) (fun (r : Int × Mem) => r.1 = bW B p ∧ Frw S r.2 (α + 12) ∧ ∀ b, 0 ≤ b → b < B 2 → r.2 (α + 12) b = cab B b p) (B 2).toNat (by
      intro i t hi ⟨e0, e1, hF, e2, e3⟩
      obtain ⟨t1, t2, t3⟩ := t
      dsimp only at e0 e1 hF e2 e3 ⊢
      subst e1
      have hR' : RB t3 (α + 1) B := hR.fr (hF _ (by omega)) (hF _ (by omega)) (hF _ (by omega)) (hF _ (by omega))
      have hab := ha i (by omega) (by omega)
      have e3i := e3 i (by omega)
      obtain ⟨t', g1, g2, g3, g4⟩ := C_down (p := p) (y2 := t1) (b := i) hN hw hR' (by omega) (by omega) hp1 hp2 (by omega) (by omega)
      have hR2 : RB t' (α + 1) B := hR'.fr (g2 _ (by omega)) (g2 _ (by omega)) (g2 _ (by omega)) (g2 _ (by omega))
      refine ⟨(t1 + abv B i p, (i : Int) + 1, t'), ?_, ?_, by dsimp only; omega, fun k hk => (g2 k hk).trans (hF k hk), fun b h1 h2 => ?_, fun b h1 => ?_⟩
      · unfold f_X0_wantsNow_l4
        dsimp only
        rw [if_pos (show ltb (i : Int) (t3 (α + 1) 2) = true by rw [hR'.2.2.1]; exact ltb_t (by omega) (by omega) (by omega)), g1]
        simp only [Option.bind_some]
        rw [C_wantNow hN hw hR2 (by omega) (by omega) g4]
        rfl
      · dsimp only
        rw [e0]
        rfl
      · dsimp only
        by_cases hb : b = i
        · rw [hb]; exact g4
        · rw [g3 b hb]; exact e2 b h1 (by omega)
      · dsimp only
        rw [g3 b (by omega)]
        exact e3 b (by omega)) (by
      intro t ⟨e0, e1, hF, e2, e3⟩
      obtain ⟨t1, t2, t3⟩ := t
      dsimp only at e0 e1 hF e2 e3 ⊢
      subst e1
      have hR' : RB t3 (α + 1) B := hR.fr (hF _ (by omega)) (hF _ (by omega)) (hF _ (by omega)) (hF _ (by omega))
      refine ⟨(t1, t3), ?_, e0, hF, fun b h1 h2 => e2 b h1 (by omega)⟩
      unfold f_X0_wantsNow_l4
      dsimp only
      rw [if_neg (show ¬ ltb (((B 2).toNat : Nat) : Int) (t3 (α + 1) 2) = true by rw [hR'.2.2.1, ltb_f (by omega) (by omega) (by omega)]; decide)]) (n := FU) (by rw [FU_eq]; omega) (s := (0, 0, S)) ⟨rfl, rfl, fun _ _ => rfl, fun b h1 h2 => by omega, fun _ _ => rfl⟩
  refine ⟨r.2, ?_, g3, g4⟩
  unfold f_X0_wantsNow
  rw [g1]
  show some (r.1, r.2) = _
  rw [g2]
theorem cl_same {o : Out} {b to to' p : Int} (h : to = to' ∨ (to ≤ 0 ∧ to' ≤ 0)) : cl o b to p = cl o b to' p := by
  rcases h with h | h
  · rw [h]
  · unfold cl
    have := hs_nn o b
    rw [show (to - hs o b).toNat = 0 by omega, show (to' - hs o b).toNat = 0 by omega]
theorem C_clinch {N : Int} {B : Int → Int} {S : Mem} {α : Nat} {o : Out} {b p y2 to : Int} (hN : N ≤ 9) (hw : WF N B) (hR : RB S (α + 1) B) (hA : ARc S α o) (h1 : 0 ≤ b) (h2 : b < B 2) (ht1 : -100000 ≤ to) (ht : to ≤ 8) (hL : ((cl o b to p).length : Int) ≤ 30) (h8 : ∀ c, 0 ≤ c → c < B 2 → hs o c ≤ 8) : ∃ S', lp (f_X0_clinchAll_l47 α p y2 b to) FU (S (α + 7) b, S) = some S' ∧ ARc S' α (cl o b to p) ∧ Frmc S S' α := by
  have en := hR.2.2.1
  have hb := h8 b h1 h2
  have hb0 := hs_nn o b
  have hu := hA.2.1 b h1 (by rw [en]; exact h2)
  have hlen : (cl o b to p).length = o.length + (to - hs o b).toNat := by
    unfold cl
    rw [List.length_append, List.length_replicate]
  rw [hlen] at hL
  refine lp_rel (step := f_X0_clinchAll_l47 α p y2 b to) (fun i (t : Int × Mem) => t.1 = hs o b + i ∧ ARc t.2 α (o ++ List.replicate i (b, p)) ∧ Frmc S t.2 α) (fun t => ARc t α (cl o b to p) ∧ Frmc S t α) (to - hs o b).toNat ?_ ?_ (by rw [FU_eq]; omega) ⟨by dsimp only; rw [hu]; omega, by simpa using hA, Frm.rf⟩
  · intro i t hi ⟨e0, hA', hF⟩
    obtain ⟨t1, t2⟩ := t
    dsimp only at e0 hA' hF ⊢
    subst e0
    have hR' := hF.book hR
    obtain ⟨t', g1, g2, g3⟩ := C_give (p := p) hN hw hR' hA' h1 h2 (by rw [List.length_append, List.length_replicate]; omega) (by rw [hs_reps, if_pos rfl]; omega) (fun c hc1 hc2 => by
      rw [hs_reps]
      have := h8 c hc1 hc2
      by_cases hcb : c = b
      · rw [if_pos hcb]; omega
      · rw [if_neg hcb]; omega)
    refine ⟨(hs o b + i + 1, t'), ?_, by dsimp only; omega, ?_, hF.tr g3⟩
    · unfold f_X0_clinchAll_l47
      dsimp only
      rw [if_pos (ltb_t (by omega) (by omega) (by omega)), g1]
      rfl
    · dsimp only
      rw [rep_app]; exact g2
  · intro t ⟨e0, hA', hF⟩
    obtain ⟨t1, t2⟩ := t
    dsimp only at e0 hA' hF ⊢
    subst e0
    refine ⟨t2, ?_, hA', hF⟩
    unfold f_X0_clinchAll_l47
    dsimp only
    rw [if_neg (by rw [ltb_f (by omega) (by omega) (by omega)]; decide)]
theorem C_clinchAll {N : Int} {B : Int → Int} {S : Mem} {α : Nat} {o : Out} {p : Int} (hN : N ≤ 9) (hw : WF N B) (hR : RB S (α + 1) B) (hA : ARc S α o) (ha : ∀ b, 0 ≤ b → b < B 2 → S (α + 12) b = cab B b p) (hL : ((sh B p o).length : Int) ≤ 30) (h8 : ∀ c, 0 ≤ c → c < B 2 → hs o c ≤ 8) : ∃ S', f_X0_clinchAll S α p (bW B p) = some S' ∧ ARc S' α (sh B p o) ∧ Frmc S S' α := by
  have n0 := hw.2.2.2.2.1
  have n1 := hw.2.2.2.2.2.1
  have b0 := hw.1
  have b1 := hw.2.1
  have wb := bW_bnd hN hw p
  obtain ⟨r, g1, g2⟩ := lp_rel (step := f_X0_clinchAll_l2 α p (bW B p)) (fun i (t : Int × Mem) => t.1 = i ∧ ARc t.2 α (shN B p o i) ∧ Frmc S t.2 α) (fun t => ARc t α (sh B p o) ∧ Frmc S t α) (B 2).toNat (by
      intro i t hi ⟨e0, hA', hF⟩
      obtain ⟨t1, t2⟩ := t
      dsimp only at e0 hA' hF ⊢
      subst e0
      have hR' := hF.book hR
      have h81 := hs_shN_8 (p := p) hw h8 i
      have g := abv_9 hw (b := i) (by omega) (by omega) p
      have hab : t2 (α + 12) i = cab B i p := by
        rw [hF.1 (α + 12) (by omega) (by omega) (by omega) (by omega) (by omega)]
        exact ha i (by omega) (by omega)
      have hcl : cl (shN B p o i) i (min (abv B i p) (B 0 - (bW B p - abv B i p))) p = shN B p o (i + 1) := by
        show _ = cl (shN B p o i) i (tob B i p) p
        apply cl_same
        unfold tob bfree
        omega
      obtain ⟨t', g1, g2, g3⟩ := C_clinch (p := p) (y2 := bW B p) (to := min (abv B i p) (B 0 - (bW B p - abv B i p))) (b := i) hN hw hR' hA' (by omega) (by omega) (by omega) (by omega) (by
        rw [hcl]
        have h1 := len_shN B p o (i + 1) ((B 2).toNat - (i + 1))
        rw [show i + 1 + ((B 2).toNat - (i + 1)) = (B 2).toNat by omega] at h1
        unfold sh at hL
        omega) h81
      rw [hcl] at g2
      refine ⟨((i : Int) + 1, t'), ?_, by dsimp only; omega, g2, hF.tr g3⟩
      unfold f_X0_clinchAll_l2
      dsimp only
      rw [if_pos (show ltb (i : Int) (t2 (α + 1) 2) = true by rw [hR'.2.2.1]; exact ltb_t (by omega) (by omega) (by omega)), C_wantNow hN hw hR' (by omega) (by omega) hab]
      simp only [Option.bind_some]
      rw [if_pos (by omega), hR'.1, mnb_le (by omega) (by omega) (by omega) (by omega), g1]
      rfl) (by
      intro t ⟨e0, hA', hF⟩
      obtain ⟨t1, t2⟩ := t
      dsimp only at e0 hA' hF ⊢
      subst e0
      have hR' := hF.book hR
      refine ⟨t2, ?_, hA', hF⟩
      unfold f_X0_clinchAll_l2
      dsimp only
      rw [if_neg (show ¬ ltb (((B 2).toNat : Nat) : Int) (t2 (α + 1) 2) = true by rw [hR'.2.2.1, ltb_f (by omega) (by omega) (by omega)]; decide)]) (n := FU) (by rw [FU_eq]; omega) (s := (0, S)) ⟨rfl, hA, Frm.rf⟩
  refine ⟨r, ?_, g2⟩
  unfold f_X0_clinchAll
  rw [g1]
  rfl
theorem C_leastWanted {N : Int} {B : Int → Int} {S : Mem} {α : Nat} {p : Int} (hN : N ≤ 9) (hw : WF N B) (hR : RB S (α + 1) B) (hp1 : -1 ≤ p) (hp2 : p < 99) (ha : ∀ b, 0 ≤ b → b < B 2 → S (α + 12) b = cab B b p) : ∃ v, f_X0_leastWanted S α = some v ∧ p < v ∧ v ≤ 99 ∧ ∀ b i, 0 ≤ b → b < B 2 → 0 ≤ i → i < cab B b p → v ≤ bval B b i := by
  have n0 := hw.2.2.2.2.1
  have n1 := hw.2.2.2.2.2.1
  obtain ⟨r, g1, g2⟩ := lp_rel (step := f_X0_leastWanted_l5 S α) (fun i (t : Int × Int) => t.2 = i ∧ p < t.1 ∧ t.1 ≤ 99 ∧ ∀ b j, 0 ≤ b → b < (i : Int) → 0 ≤ j → j < cab B b p → t.1 ≤ bval B b j) (fun (v : Int) => p < v ∧ v ≤ 99 ∧ ∀ b i, 0 ≤ b → b < B 2 → 0 ≤ i → i < cab B b p → v ≤ bval B b i) (B 2).toNat (by
      intro i t hi ⟨e0, e1, e2, e3⟩
      obtain ⟨t1, t2⟩ := t
      dsimp only at e0 e1 e2 e3 ⊢
      subst e0
      have hab := ha i (by omega) (by omega)
      have ac := cab_bnd (b := i) (p := p) hw (by omega) (by omega)
      have a := hw.2.2.2.2.2.2.1 i (by omega) (by omega)
      by_cases h0 : 0 < cab B i p
      · have vl := cab_lt (B := B) (b := i) (p := p) (i := cab B i p - 1) (by omega) (by omega)
        have vb := hw.2.2.2.2.2.2.2.1 i (cab B i p - 1) (by omega) (by omega) (by omega) (by omega)
        refine ⟨(min t1 (bval B i (cab B i p - 1)), (i : Int) + 1), ?_, by dsimp only; omega, by dsimp only; omega, by dsimp only; omega, fun b j h1 h2 h3 h4 => ?_⟩
        · unfold f_X0_leastWanted_l5
          dsimp only
          rw [if_pos (show ltb (i : Int) (S (α + 1) 2) = true by rw [hR.2.2.1]; exact ltb_t (by omega) (by omega) (by omega)), if_pos (by omega), if_pos (show ltb 0 (S (α + 12) (i : Int)) = true by rw [hab]; exact ltb_t h0 (by omega) (by omega)), hab, C_valueAt hN hw hR (by omega) (by omega) (by omega) (by omega)]
          simp only [Option.bind_some]
          rw [mnb_le (by omega) (by omega) (by omega) (by omega)]
        · dsimp only
          by_cases hb : b = i
          · subst hb
            have := bval_le (i := j) (j := cab B i p - 1) hw (by omega) (by omega) h3 (by omega) (by omega)
            omega
          · have := e3 b j h1 (by omega) h3 h4
            omega
      · refine ⟨(t1, (i : Int) + 1), ?_, by dsimp only; omega, e1, e2, fun b j h1 h2 h3 h4 => ?_⟩
        · unfold f_X0_leastWanted_l5
          dsimp only
          rw [if_pos (show ltb (i : Int) (S (α + 1) 2) = true by rw [hR.2.2.1]; exact ltb_t (by omega) (by omega) (by omega)), if_pos (by omega), if_neg (show ¬ ltb 0 (S (α + 12) (i : Int)) = true by rw [hab, ltb_f (by omega) (by omega) (by omega)]; decide)]
          rfl
        · dsimp only
          by_cases hb : b = i
          · subst hb; omega
          · exact e3 b j h1 (by omega) h3 h4) (by
      intro t ⟨e0, e1, e2, e3⟩
      obtain ⟨t1, t2⟩ := t
      dsimp only at e0 e1 e2 e3 ⊢
      subst e0
      refine ⟨t1, ?_, e1, e2, fun b j h1 h2 h3 h4 => e3 b j h1 (by omega) h3 h4⟩
      unfold f_X0_leastWanted_l5
      dsimp only
      rw [if_neg (show ¬ ltb (((B 2).toNat : Nat) : Int) (S (α + 1) 2) = true by rw [hR.2.2.1, ltb_f (by omega) (by omega) (by omega)]; decide)]) (n := FU) (by rw [FU_eq]; omega) (s := (99, 0)) ⟨rfl, hp2, Int.le_refl _, fun b j h1 h2 => by omega⟩
  refine ⟨r, ?_, g2⟩
  unfold f_X0_leastWanted
  rw [g1]
  rfl
