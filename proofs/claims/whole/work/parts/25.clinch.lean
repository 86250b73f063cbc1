/-! ===== alike; the clinches of one bidder ===== -/
theorem bcnt_bnd {N : Int} {B : Int → Int} (hw : WF N B) {b : Int} (h1 : 0 ≤ b) (h2 : b < B 2) : 0 ≤ bcap B b ∧ bcap B b ≤ 8 ∧ 0 ≤ bcnt B b ∧ bcnt B b ≤ 8 := hw.2.2.2.2.2.2.1 b h1 h2
theorem bval_bnd {N : Int} {B : Int → Int} (hw : WF N B) {b i : Int} (h1 : 0 ≤ b) (h2 : b < B 2) (h3 : 0 ≤ i) (h4 : i < bcnt B b) : 0 ≤ bval B b i ∧ bval B b i ≤ 99 := by
  have := hw.2.2.2.2.2.2.2.1 b i h1 h2 h3 h4
  exact this
def same (B : Int → Int) (a c : Int) : Nat := ledN (fun i => decide (bval B a i = bval B c i)) (bcnt B a).toNat
theorem Q_alike {S T : Mem} {a c : Int} (h : Rel S T) (ha : R32 a) (hc : R32 c) : ∃ r, f_X7_alike S a c = some r ∧ f_X8_alike T a c = some r := by
  have hb := Q_has h ha
  have hb2 := Q_has h hc
  have n1 := h.1.2.2.2.2.2.1
  unfold f_X7_alike f_X8_alike
  rw [hb.1, hb.2]
  simp only [Option.bind_some]
  by_cases hh : 0 ≤ a ∧ a < T 1 2
  · rw [if_pos hh, if_neg e10, if_neg e10, hb2.1, hb2.2]
    simp only [Option.bind_some]
    by_cases hg : 0 ≤ c ∧ c < T 1 2
    · rw [if_pos hg, if_neg e10, if_neg e10, M_capOf hh.1 (by omega), M_capOf hg.1 (by omega), M_valuesOf hh.1 (by omega), M_valuesOf hg.1 (by omega)]
      simp only [Option.bind_some]
      have ba := bcnt_bnd h.1 hh.1 hh.2
      have bc := bcnt_bnd h.1 hg.1 hg.2
      have ca : S 6 a = bcnt (T 1) a := h.2.1.2.2.2.2.1 a hh.1 hh.2
      have cc : S 6 c = bcnt (T 1) c := h.2.1.2.2.2.2.1 c hg.1 hg.2
      have pa : S 7 a = bcap (T 1) a := h.2.1.2.2.2.1 a hh.1 hh.2
      have pc : S 7 c = bcap (T 1) c := h.2.1.2.2.2.1 c hg.1 hg.2
      unfold f_X1_areAlike
      rw [if_pos (show 0 ≤ a ∧ a < 9 by omega), if_pos (show 0 ≤ c ∧ c < 9 by omega), ca, cc, pa, pc]
      by_cases h1 : bcnt (T 1) a = bcnt (T 1) c
      · rw [if_pos (eqb_t h1)]
        by_cases h2 : bcap (T 1) a = bcap (T 1) c
        · rw [if_pos (eqb_t h2), if_pos (eqb_t h2), if_pos (eqb_t h1)]
          have hle : same (T 1) a c ≤ (bcnt (T 1) a).toNat := ledN_le _ _
          have hgo : ∀ i : Nat, i < same (T 1) a c → bval (T 1) a i = bval (T 1) c i := fun i hi => by
            have := ledN_lt _ _ i hi
            simpa using this
          have hno : same (T 1) a c < (bcnt (T 1) a).toNat → bval (T 1) a (same (T 1) a c : Nat) ≠ bval (T 1) c (same (T 1) a c : Nat) := fun hl => by
            have := ledN_stop _ _ hl
            simp only [decide_eq_false_iff_not] at this
            exact this
          have lc : lp (f_X1_areAlike_l34 S 5 a c) FU 0 = some (if same (T 1) a c < (bcnt (T 1) a).toNat then .inr 0 else .inl ()) := by
            have := lp_seq (step := f_X1_areAlike_l34 S 5 a c) (fun n => (n : Int)) (same (T 1) a c) (if same (T 1) a c < (bcnt (T 1) a).toNat then .inr 0 else .inl ()) (fun i hi => by
              unfold f_X1_areAlike_l34
              rw [if_pos (show 0 ≤ a ∧ a < 9 by omega), ca, if_pos (ltb_t (by omega) (by omega) (by omega)), C_valueAt (by decide) h.1 h.2.1 hh.1 hh.2 (by omega) (by omega), C_valueAt (by decide) h.1 h.2.1 hg.1 hg.2 (by omega) (by omega)]
              simp only [Option.bind_some]
              rw [if_pos (eqb_t (hgo i hi))]
              rfl) (by
              unfold f_X1_areAlike_l34
              rw [if_pos (show 0 ≤ a ∧ a < 9 by omega), ca]
              by_cases hl : same (T 1) a c < (bcnt (T 1) a).toNat
              · have v1 := bval_bnd h.1 (i := (same (T 1) a c : Nat)) hh.1 hh.2 (by omega) (by omega)
                have v2 := bval_bnd h.1 (i := (same (T 1) a c : Nat)) hg.1 hg.2 (by omega) (by omega)
                rw [if_pos (ltb_t (by omega) (by omega) (by omega)), C_valueAt (by decide) h.1 h.2.1 hh.1 hh.2 (by omega) (by omega), C_valueAt (by decide) h.1 h.2.1 hg.1 hg.2 (by omega) (by omega), if_pos hl]
                simp only [Option.bind_some]
                rw [if_neg (nq (hno hl) (by omega) (by omega) (by omega) (by omega))]
              · rw [if_neg (nl (by omega) (by omega) (by omega)), if_neg hl]) (n := FU) (by rw [FU_eq]; omega)
            exact this
          have lm : lp (f_X8_alike_l48 T a c) FU 0 = some (if same (T 1) a c < (bcnt (T 1) a).toNat then .inr 0 else .inl ()) := by
            have := lp_seq (step := f_X8_alike_l48 T a c) (fun n => (n : Int)) (same (T 1) a c) (if same (T 1) a c < (bcnt (T 1) a).toNat then .inr 0 else .inl ()) (fun i hi => by
              unfold f_X8_alike_l48
              rw [M_valuesOf hh.1 (by omega), M_valueAt hh.1 (by omega) (by omega) (by omega), M_valueAt hg.1 (by omega) (by omega) (by omega)]
              simp only [Option.bind_some]
              rw [if_pos (ltb_t (by omega) (by omega) (by omega)), if_pos (eqb_t (hgo i hi))]
              rfl) (by
              unfold f_X8_alike_l48
              rw [M_valuesOf hh.1 (by omega)]
              simp only [Option.bind_some]
              by_cases hl : same (T 1) a c < (bcnt (T 1) a).toNat
              · have v1 := bval_bnd h.1 (i := (same (T 1) a c : Nat)) hh.1 hh.2 (by omega) (by omega)
                have v2 := bval_bnd h.1 (i := (same (T 1) a c : Nat)) hg.1 hg.2 (by omega) (by omega)
                rw [M_valueAt hh.1 (by omega) (by omega) (by omega), M_valueAt hg.1 (by omega) (by omega) (by omega), if_pos (ltb_t (by omega) (by omega) (by omega)), if_pos hl]
                simp only [Option.bind_some]
                rw [if_neg (nq (hno hl) (by omega) (by omega) (by omega) (by omega))]
              · rw [if_neg (nl (by omega) (by omega) (by omega)), if_neg hl]) (n := FU) (by rw [FU_eq]; omega)
            exact this
          rw [lc, lm]
          simp only [Option.bind_some]
          by_cases hl : same (T 1) a c < (bcnt (T 1) a).toNat
          · rw [if_pos hl]
            exact ⟨_, rfl, rfl⟩
          · rw [if_neg hl]
            exact ⟨_, rfl, rfl⟩
        · have q := nq h2 (by omega) (by omega) (by omega) (by omega)
          rw [if_neg q, if_neg q]
          exact ⟨_, rfl, rfl⟩
      · have q := nq h1 (by omega) (by omega) (by omega) (by omega)
        rw [if_neg q, if_neg q]
        split
        · exact ⟨_, rfl, rfl⟩
        · exact ⟨_, rfl, rfl⟩
    · rw [if_neg hg]
      exact ⟨_, rfl, rfl⟩
  · rw [if_neg hh]
    exact ⟨_, rfl, rfl⟩
/-- where the clinches of a bidder begin -/
def cF1 (B : Int → Int) (b : Int) : Nat → Int
  | 0 => 0
  | n + 1 => if cF1 B b n < hs (oc1 B) b then clk B b (prc (oc B) b (cF1 B b n)) else cF1 B b n
theorem clk_gt {B : Int → Int} {b i : Int} (h0 : 0 ≤ i) (h : i < hs (oc1 B) b) (hu : hs (oc1 B) b ≤ hs (oc B) b) : i < clk B b (prc (oc B) b i) ∧ clk B b (prc (oc B) b i) ≤ hs (oc1 B) b := by
  have hle := ledN_le (fun j => decide (prc (oc B) b j ≤ prc (oc B) b i)) (hs (oc1 B) b).toNat
  unfold clk
  refine ⟨?_, by omega⟩
  by_cases hx : i < (ledN (fun j => decide (prc (oc B) b j ≤ prc (oc B) b i)) (hs (oc1 B) b).toNat : Nat)
  · exact hx
  · exfalso
    have hs1 := ledN_stop (fun j => decide (prc (oc B) b j ≤ prc (oc B) b i)) (hs (oc1 B) b).toNat (by omega)
    simp only [decide_eq_false_iff_not] at hs1
    have := prc_mono (b := b) (i := (ledN (fun j => decide (prc (oc B) b j ≤ prc (oc B) b i)) (hs (oc1 B) b).toNat : Nat)) (j := i) (Srt_oc B) (by omega) (by omega) (by omega)
    omega
theorem cF1_bnd {N : Int} {B : Int → Int} {b : Int} (hw : WF N B) (h1 : 0 ≤ b) (h2 : b < B 2) : ∀ n : Nat, 0 ≤ cF1 B b n ∧ cF1 B b n ≤ hs (oc1 B) b
  | 0 => ⟨Int.le_refl _, hs_nn _ _⟩
  | n + 1 => by
    have ih := cF1_bnd hw h1 h2 n
    have o := oc_used hw h1 h2
    unfold cF1
    split
    · have := clk_gt (i := cF1 B b n) ih.1 (by assumption) o.2.2
      omega
    · exact ih
theorem cF1_stay {B : Int → Int} {b : Int} {j : Nat} (h : hs (oc1 B) b ≤ cF1 B b j) : ∀ d : Nat, cF1 B b (j + d) = cF1 B b j
  | 0 => rfl
  | d + 1 => by
    have ih := cF1_stay h d
    show (if cF1 B b (j + d) < hs (oc1 B) b then clk B b (prc (oc B) b (cF1 B b (j + d))) else cF1 B b (j + d)) = _
    rw [ih, if_neg (by omega)]
theorem C_firstOfClinch {N : Int} {S : Mem} {α : Nat} {B : Int → Int} {b n : Int} (hN : N ≤ 9) (hw : WF N B) (hD : DC S α B) (h1 : 0 ≤ b) (h2 : b < B 2) (hn : 0 ≤ n) (hn2 : n < 2147483648) : f_X0_firstOfClinch S α b n = some (if cF1 B b n.toNat < hs (oc1 B) b then cF1 B b n.toNat else -1) := by
  have n1 := hw.2.2.2.2.2.1
  have o := oc_used hw h1 h2
  have o1 := hs_nn (oc1 B) b
  have c := bused_bnd hw h1 h2
  have sc := hD.2.2.2.2 b h1 h2
  have eb := en_bnd hw
  have b2 := hw.2.2.1
  obtain ⟨r, g1, g2⟩ := lp_inv (step := f_X0_firstOfClinch_l5 S α b n) (fun t => ∃ j : Nat, t = (cF1 B b j, (j : Int)) ∧ (j : Int) ≤ n) (fun t => (hs (oc1 B) b - t.1).toNat) (fun r => r = cF1 B b n.toNat) (by
    intro t ⟨j, e, hj⟩
    subst e
    have hb := cF1_bnd hw h1 h2 j
    unfold f_X0_firstOfClinch_l5
    dsimp only
    by_cases hjn : (j : Int) < n
    · rw [if_pos (ltb_t hjn (by omega) (by omega)), if_pos (by omega), sc]
      by_cases hl : cF1 B b j < hs (oc1 B) b
      · have pb := prc_bnd (b := b) (i := cF1 B b j) hw (by omega) (by omega)
        have hg := clk_gt (i := cF1 B b j) hb.1 hl o.2.2
        rw [if_pos (ltb_t hl (by omega) (by omega)), hD.price hw h1 h2 hb.1 (by omega) hN]
        simp only [Option.bind_some]
        rw [C_clinchedBy hN hw hD h1 h2 (by omega)]
        refine Or.inl ⟨_, rfl, ⟨j + 1, ?_, by omega⟩, by dsimp only; omega⟩
        rw [cF1, if_pos hl]
        rfl
      · rw [if_neg (nl (by omega) (by omega) (by omega))]
        refine Or.inr ⟨_, rfl, ?_⟩
        have := cF1_stay (B := B) (b := b) (j := j) (by omega) (n.toNat - j)
        rw [show j + (n.toNat - j) = n.toNat by omega] at this
        exact this.symm
    · rw [if_neg (nl (by omega) (by omega) (by omega))]
      exact Or.inr ⟨_, rfl, by rw [show n.toNat = j by omega]⟩) FU (0, 0) ⟨0, rfl, hn⟩ (by dsimp only; rw [FU_eq]; omega)
  unfold f_X0_firstOfClinch
  rw [g1]
  simp only [Option.bind_some]
  have hb := cF1_bnd hw h1 h2 n.toNat
  rw [if_pos (by omega), sc, g2]
  by_cases hl : cF1 B b n.toNat < hs (oc1 B) b
  · rw [if_pos (ltb_t hl (by omega) (by omega)), if_pos hl]
  · rw [if_neg (nl (by omega) (by omega) (by omega)), if_neg hl]
theorem M_size {N : Int} {T : Mem} {B : Int → Int} {b i y3 y5 : Int} (hN : N ≤ 9) (hw : WF N B) (hD : DM T B) (h1 : 0 ≤ b) (h2 : b < B 2) (h3 : 0 ≤ i) (h4 : i < hs (oc1 B) b) : lp (f_X8_clinch_l61 T b y3 i y5 (T 7 (8 * b + i))) FU 0 = some (clk B b (prc (oc B) b i) - i) := by
  have n1 := hw.2.2.2.2.2.1
  have o := oc_used hw h1 h2
  have c := bused_bnd hw h1 h2
  have tc := hD.2.2.2 b h1 h2
  have eb := en_bnd hw
  have b2 := hw.2.2.1
  have hg := clk_gt (i := i) h3 h4 o.2.2
  have hle := ledN_le (fun j => decide (prc (oc B) b j ≤ prc (oc B) b i)) (hs (oc1 B) b).toNat
  have e0 := hD.price h1 h2 h3 (show i < hs (oc B) b by omega)
  have pb0 := prc_bnd (b := b) (i := i) hw (by omega) (by omega)
  have := lp_seq (step := f_X8_clinch_l61 T b y3 i y5 (T 7 (8 * b + i))) (fun n => (n : Int)) (clk B b (prc (oc B) b i) - i).toNat (clk B b (prc (oc B) b i) - i) (fun t ht => by
    have hv := ledN_lt (fun j => decide (prc (oc B) b j ≤ prc (oc B) b i)) (hs (oc1 B) b).toNat (i + t).toNat (by unfold clk at ht; omega)
    simp only [decide_eq_true_eq] at hv
    rw [show (((i + t).toNat : Nat) : Int) = i + t by omega] at hv
    have hm := prc_mono (b := b) (i := i) (j := i + t) (Srt_oc B) h3 (by omega) (by omega)
    have e1 := hD.price h1 h2 (i := i + t) (by omega) (by omega)
    rw [← Int.add_assoc] at e1
    unfold f_X8_clinch_l61
    rw [if_pos (by omega), tc, if_pos (ltb_t (by omega) (by omega) (by omega)), if_pos (by omega), if_pos (show eqb (T 7 (8 * b + i + (t : Int))) (T 7 (8 * b + i)) = true by rw [e0, e1]; exact eqb_t (by omega))]
    rfl) (by
    rw [show (((clk B b (prc (oc B) b i) - i).toNat : Nat) : Int) = clk B b (prc (oc B) b i) - i by omega]
    unfold f_X8_clinch_l61
    rw [if_pos (by omega), tc]
    by_cases hl : clk B b (prc (oc B) b i) < hs (oc1 B) b
    · have hv := ledN_stop (fun j => decide (prc (oc B) b j ≤ prc (oc B) b i)) (hs (oc1 B) b).toNat (by unfold clk at hl; omega)
      simp only [decide_eq_false_iff_not] at hv
      have e1 := hD.price h1 h2 (i := clk B b (prc (oc B) b i)) (by omega) (by omega)
      have pb := prc_bnd (b := b) (i := clk B b (prc (oc B) b i)) hw (by omega) (by omega)
      rw [if_pos (ltb_t (by omega) (by omega) (by omega)), if_pos (by omega), show 8 * b + i + (clk B b (prc (oc B) b i) - i) = 8 * b + clk B b (prc (oc B) b i) by omega, if_neg (show ¬ eqb (T 7 (8 * b + clk B b (prc (oc B) b i))) (T 7 (8 * b + i)) = true by
        rw [e0, e1]
        refine nq (fun hx => hv ?_) (by omega) (by omega) (by omega) (by omega)
        have : ((ledN (fun j => decide (prc (oc B) b j ≤ prc (oc B) b i)) (hs (oc1 B) b).toNat : Nat) : Int) = clk B b (prc (oc B) b i) := rfl
        rw [this, hx]
        exact Int.le_refl _)]
    · rw [if_neg (nl (by omega) (by omega) (by omega))]) (n := FU) (by rw [FU_eq]; omega)
  exact this
theorem M_clinchLoop {N : Int} {T : Mem} {B : Int → Int} {b n w : Int} (hN : N ≤ 9) (hw : WF N B) (hD : DM T B) (h1 : 0 ≤ b) (h2 : b < B 2) (hn : 0 ≤ n) (hn2 : n < 2147483648) (hw1 : 0 ≤ w ∧ w ≤ 1) : lp (f_X8_clinch_l33 T b w) FU (0, n) = some (if cF1 B b n.toNat < hs (oc1 B) b then .inr (if w = 0 then prc (oc B) b (cF1 B b n.toNat) else clk B b (prc (oc B) b (cF1 B b n.toNat)) - cF1 B b n.toNat, T) else .inl ()) := by
  have n1 := hw.2.2.2.2.2.1
  have o := oc_used hw h1 h2
  have o1 := hs_nn (oc1 B) b
  have c := bused_bnd hw h1 h2
  have tc := hD.2.2.2 b h1 h2
  obtain ⟨r, g1, g2⟩ := lp_inv (step := f_X8_clinch_l33 T b w) (fun t => ∃ j : Nat, t = (cF1 B b j, n - (j : Int)) ∧ (j : Int) ≤ n) (fun t => (hs (oc1 B) b - t.1).toNat) (fun r => r = (if cF1 B b n.toNat < hs (oc1 B) b then .inr (if w = 0 then prc (oc B) b (cF1 B b n.toNat) else clk B b (prc (oc B) b (cF1 B b n.toNat)) - cF1 B b n.toNat, T) else .inl ())) (by
    intro t ⟨j, e, hj⟩
    subst e
    have hb := cF1_bnd hw h1 h2 j
    unfold f_X8_clinch_l33
    dsimp only
    rw [if_pos (by omega), tc]
    by_cases hl : cF1 B b j < hs (oc1 B) b
    · have hg := clk_gt (i := cF1 B b j) hb.1 hl o.2.2
      rw [if_pos (ltb_t hl (by omega) (by omega)), if_pos (by omega), M_size hN hw hD h1 h2 hb.1 hl]
      simp only [Option.bind_some]
      by_cases hjn : (j : Int) < n
      · rw [if_neg (nq (show n - (j : Int) ≠ 0 by omega) (by omega) (by omega) (by omega) (by omega))]
        refine Or.inl ⟨_, rfl, ⟨j + 1, ?_, by omega⟩, by dsimp only; omega⟩
        rw [cF1, if_pos hl]
        exact Prod.ext (show cF1 B b j + (clk B b (prc (oc B) b (cF1 B b j)) - cF1 B b j) = _ by omega) (show n - (j : Int) + (-1) = n - ((j + 1 : Nat) : Int) by omega)
      · rw [if_pos (eqb_t (show n - (j : Int) = 0 by omega)), show n.toNat = j by omega, if_pos hl]
        rcases (show w = 0 ∨ w = 1 by omega) with e | e <;> subst e
        · rw [if_pos e00, if_pos rfl, hD.price h1 h2 hb.1 (by omega)]
          exact Or.inr ⟨_, rfl, rfl⟩
        · rw [if_neg n10, if_neg (by decide)]
          exact Or.inr ⟨_, rfl, rfl⟩
    · rw [if_neg (nl (by omega) (by omega) (by omega))]
      refine Or.inr ⟨_, rfl, ?_⟩
      have := cF1_stay (B := B) (b := b) (j := j) (by omega) (n.toNat - j)
      rw [show j + (n.toNat - j) = n.toNat by omega] at this
      rw [this, if_neg hl]) FU (0, n) ⟨0, by rw [show n - ((0 : Nat) : Int) = n by omega]; rfl, hn⟩ (by dsimp only; rw [FU_eq]; omega)
  rw [g1, g2]
theorem Q_clinch {S T : Mem} {a n w : Int} (h : Rel S T) (ha : R32 a) (hn : R32 n) (hw : R32 w) : ∃ r S' T', f_X7_clinch S a n w = some (r, S') ∧ f_X8_clinch T a n w = some (r, T') ∧ Rel S' T' := by
  have hb := Q_has h ha
  have n1 := h.1.2.2.2.2.2.1
  unfold f_X7_clinch f_X8_clinch
  rw [hb.1, hb.2]
  simp only [Option.bind_some]
  by_cases hh : 0 ≤ a ∧ a < T 1 2
  · rw [if_pos hh, if_neg e10, if_neg e10]
    by_cases h0 : n < 0
    · rw [if_pos (ltb_t h0 hn.1 (by omega)), if_pos (ltb_t h0 hn.1 (by omega))]
      exact ⟨_, _, _, rfl, rfl, h⟩
    · have q := nl (x := n) (y := 0) (by omega) (by omega) hn.2
      rw [if_neg q, if_neg q, M_inL hw (by decide) (by decide)]
      simp only [Option.bind_some]
      by_cases h1 : 0 ≤ w ∧ w ≤ 1
      · obtain ⟨S', s1, s2, s3⟩ := Q_now h
        obtain ⟨T', t1, t2, t3⟩ := Q_runs s2
        have o := oc_used h.1 hh.1 hh.2
        have c := bused_bnd h.1 hh.1 hh.2
        have fb := cF1_bnd h.1 hh.1 hh.2 n.toNat
        rw [if_pos h1, if_neg e10, t1, s1]
        simp only [Option.bind_some]
        rw [M_clinchLoop (by decide) h.1 t2 hh.1 hh.2 (by omega) hn.2 h1]
        simp only [Option.bind_some]
        unfold f_X0_clinchPrice f_X0_clinchSize
        rw [C_firstOfClinch (by decide) h.1 s3 hh.1 hh.2 (by omega) hn.2]
        simp only [Option.bind_some]
        by_cases hl : cF1 (T 1) a n.toNat < hs (oc1 (T 1)) a
        · have pb := prc_bnd (b := a) (i := cF1 (T 1) a n.toNat) h.1 (by omega) (by omega)
          have eb := en_bnd h.1
          have b2 := h.1.2.2.1
          have q2 := nq (show cF1 (T 1) a n.toNat ≠ -1 by omega) (by omega) (by omega) (by omega) (by omega)
          rw [if_pos hl, if_pos hl, if_neg q2, s3.price h.1 hh.1 hh.2 fb.1 (by omega) (by decide)]
          simp only [Option.bind_some]
          rw [if_neg q2, C_clinchedBy (by decide) h.1 s3 hh.1 hh.2 (by omega)]
          simp only [Option.bind_some]
          rcases (show w = 0 ∨ w = 1 by omega) with e | e <;> subst e
          · rw [if_pos e00, if_pos rfl]
            exact ⟨_, _, _, rfl, rfl, t3⟩
          · rw [if_neg n10, if_pos n11, if_neg (by decide)]
            exact ⟨_, _, _, rfl, rfl, t3⟩
        · rw [if_neg hl, if_neg hl, if_pos (show eqb (-1) (-1) = true by decide), if_pos (show eqb (-1) (-1) = true by decide)]
          simp only [Option.bind_some]
          rcases (show w = 0 ∨ w = 1 by omega) with e | e <;> subst e
          · rw [if_pos e00]
            exact ⟨_, _, _, rfl, rfl, t3⟩
          · rw [if_neg n10, if_pos n11]
            exact ⟨_, _, _, rfl, rfl, t3⟩
      · rw [if_neg h1, if_pos e00, if_neg (hw.ne (by omega) (by decide) (by decide)), if_neg (hw.ne (by omega) (by decide) (by decide))]
        exact ⟨_, _, _, rfl, rfl, h⟩
  · rw [if_neg hh]
    exact ⟨_, _, _, rfl, rfl, h⟩
