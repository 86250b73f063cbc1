/-! ===== sorted prices; what is asked of a run ===== -/
theorem n10 : ¬ eqb 1 0 = true := by decide
theorem n20 : ¬ eqb 2 0 = true := by decide
theorem n21 : ¬ eqb 2 1 = true := by decide
theorem n30 : ¬ eqb 3 0 = true := by decide
theorem n31 : ¬ eqb 3 1 = true := by decide
theorem n32 : ¬ eqb 3 2 = true := by decide
theorem n40 : ¬ eqb 4 0 = true := by decide
theorem n41 : ¬ eqb 4 1 = true := by decide
theorem n42 : ¬ eqb 4 2 = true := by decide
theorem n43 : ¬ eqb 4 3 = true := by decide
theorem n50 : ¬ eqb 5 0 = true := by decide
theorem n51 : ¬ eqb 5 1 = true := by decide
theorem n52 : ¬ eqb 5 2 = true := by decide
theorem n53 : ¬ eqb 5 3 = true := by decide
theorem n54 : ¬ eqb 5 4 = true := by decide
theorem n60 : ¬ eqb 6 0 = true := by decide
theorem n61 : ¬ eqb 6 1 = true := by decide
theorem n62 : ¬ eqb 6 2 = true := by decide
theorem n63 : ¬ eqb 6 3 = true := by decide
theorem n64 : ¬ eqb 6 4 = true := by decide
theorem n65 : ¬ eqb 6 5 = true := by decide
theorem n70 : ¬ eqb 7 0 = true := by decide
theorem n71 : ¬ eqb 7 1 = true := by decide
theorem n72 : ¬ eqb 7 2 = true := by decide
theorem n73 : ¬ eqb 7 3 = true := by decide
theorem n74 : ¬ eqb 7 4 = true := by decide
theorem n75 : ¬ eqb 7 5 = true := by decide
theorem n76 : ¬ eqb 7 6 = true := by decide
theorem n80 : ¬ eqb 8 0 = true := by decide
theorem n81 : ¬ eqb 8 1 = true := by decide
theorem n82 : ¬ eqb 8 2 = true := by decide
theorem n83 : ¬ eqb 8 3 = true := by decide
theorem n84 : ¬ eqb 8 4 = true := by decide
theorem n85 : ¬ eqb 8 5 = true := by decide
theorem n86 : ¬ eqb 8 6 = true := by decide
theorem n87 : ¬ eqb 8 7 = true := by decide
theorem n90 : ¬ eqb 9 0 = true := by decide
theorem n91 : ¬ eqb 9 1 = true := by decide
theorem n92 : ¬ eqb 9 2 = true := by decide
theorem n93 : ¬ eqb 9 3 = true := by decide
theorem n94 : ¬ eqb 9 4 = true := by decide
theorem n95 : ¬ eqb 9 5 = true := by decide
theorem n96 : ¬ eqb 9 6 = true := by decide
theorem n97 : ¬ eqb 9 7 = true := by decide
theorem n98 : ¬ eqb 9 8 = true := by decide
theorem n11 : eqb 1 1 = true := by decide
theorem n22 : eqb 2 2 = true := by decide
theorem n33 : eqb 3 3 = true := by decide
theorem n44 : eqb 4 4 = true := by decide
theorem n55 : eqb 5 5 = true := by decide
theorem n66 : eqb 6 6 = true := by decide
theorem n77 : eqb 7 7 = true := by decide
theorem n88 : eqb 8 8 = true := by decide
theorem n99 : eqb 9 9 = true := by decide
def Srt (o : Out) : Prop := o.Pairwise (fun x y => x.2 ≤ y.2)
theorem Srt_app {o o' : Out} {p : Int} (h : Srt o) (h1 : ∀ x ∈ o, x.2 ≤ p) (h2 : ∀ x ∈ o', x.2 = p) : Srt (o ++ o') := by
  unfold Srt
  rw [List.pairwise_append]
  refine ⟨h, ?_, fun x hx y hy => by rw [h2 y hy]; exact h1 x hx⟩
  have : ∀ l : Out, (∀ x ∈ l, x.2 = p) → l.Pairwise (fun x y => x.2 ≤ y.2) := by
    intro l
    induction l with
    | nil => intro _; exact List.Pairwise.nil
    | cons a l ih =>
      intro hl
      refine List.Pairwise.cons (fun y hy => ?_) (ih (fun x hx => hl x (List.mem_cons_of_mem _ hx)))
      rw [hl a List.mem_cons_self, hl y (List.mem_cons_of_mem _ hy)]
      exact Int.le_refl _
  exact this o' h2
theorem Srt_cl {o : Out} {b to p : Int} (h : Srt o) (h1 : ∀ x ∈ o, x.2 ≤ p) : Srt (cl o b to p) := Srt_app h h1 (fun x hx => by rw [(List.mem_replicate.mp hx).2])
theorem le_cl {o : Out} {b to p : Int} (h1 : ∀ x ∈ o, x.2 ≤ p) : ∀ x ∈ cl o b to p, x.2 ≤ p := by
  intro x hx
  unfold cl at hx
  rcases List.mem_append.mp hx with h | h
  · exact h1 x h
  · rw [(List.mem_replicate.mp h).2]; exact Int.le_refl _
theorem Srt_shN {B : Int → Int} {p : Int} {o : Out} (h : Srt o) (h1 : ∀ x ∈ o, x.2 ≤ p) : ∀ k, Srt (shN B p o k) ∧ ∀ x ∈ shN B p o k, x.2 ≤ p
  | 0 => ⟨h, h1⟩
  | k + 1 => by
    have ih := Srt_shN (B := B) h h1 k
    exact ⟨Srt_cl ih.1 ih.2, le_cl ih.2⟩
theorem Srt_outK (B : Int → Int) : ∀ k, Srt (outK B k)
  | 0 => (Srt_shN List.Pairwise.nil (fun x hx => absurd hx List.not_mem_nil) _).1
  | k + 1 => (Srt_shN (Srt_outK B k) (fun x hx => by have := Prd_outK k x hx; omega) _).1
theorem Srt_rdN {B : Int → Int} {e : Int} {o : Out} (h : Srt o) (h1 : ∀ x ∈ o, x.2 ≤ e) : ∀ k, Srt (rdN B e o k) ∧ ∀ x ∈ rdN B e o k, x.2 ≤ e
  | 0 => ⟨h, h1⟩
  | k + 1 => by
    have ih := Srt_rdN (B := B) h h1 k
    unfold rdN rdS
    split
    · refine ⟨Srt_app ih.1 ih.2 (fun x hx => by rw [List.mem_singleton.mp hx]), fun x hx => ?_⟩
      rcases List.mem_append.mp hx with h3 | h3
      · exact ih.2 x h3
      · rw [List.mem_singleton.mp h3]; exact Int.le_refl _
    · exact ih
theorem Srt_rds {B : Int → Int} {e : Int} {o : Out} (h : Srt o) (h1 : ∀ x ∈ o, x.2 ≤ e) : ∀ k, Srt (rds B e o k) ∧ ∀ x ∈ rds B e o k, x.2 ≤ e
  | 0 => ⟨h, h1⟩
  | k + 1 => by
    have ih := Srt_rds (B := B) h h1 k
    exact Srt_rdN ih.1 ih.2 _
theorem Srt_oc (B : Int → Int) : Srt (oc B) := (Srt_rds (Srt_outK B _) (fun x hx => (Prd_outK _ x hx).2) 8).1
theorem prc_mono {o : Out} {b i j : Int} (h : Srt o) (h0 : 0 ≤ i) (h1 : i ≤ j) (h2 : j < hs o b) : prc o b i ≤ prc o b j := by
  unfold hs at h2
  have hf : (fil o b).Pairwise (fun x y => x.2 ≤ y.2) := List.Pairwise.filter _ h
  unfold prc
  by_cases hij : i = j
  · rw [hij]; exact Int.le_refl _
  · have := List.pairwise_iff_getElem.mp hf i.toNat j.toNat (by omega) (by omega) (by omega)
    rw [List.getD_eq_getElem?_getD, List.getD_eq_getElem?_getD, List.getElem?_eq_getElem (show i.toNat < (fil o b).length by omega), List.getElem?_eq_getElem (show j.toNat < (fil o b).length by omega)]
    exact this
theorem atp_mono {o : Out} {i j : Int} (h : Srt o) (h0 : 0 ≤ i) (h1 : i ≤ j) (h2 : j < (o.length : Nat)) : atp o i ≤ atp o j := by
  unfold atp
  by_cases hij : i = j
  · rw [hij]; exact Int.le_refl _
  · have := List.pairwise_iff_getElem.mp h i.toNat j.toNat (by omega) (by omega) (by omega)
    rw [List.getD_eq_getElem?_getD, List.getD_eq_getElem?_getD, List.getElem?_eq_getElem (show i.toNat < o.length by omega), List.getElem?_eq_getElem (show j.toNat < o.length by omega)]
    exact this
/-- the rounds only add behind the clock -/
theorem rdN_pre (B : Int → Int) (e : Int) (o : Out) : ∀ k, ∃ t, rdN B e o k = o ++ t ∧ ∀ x ∈ t, x.2 = e
  | 0 => ⟨[], by simp [rdN], fun x hx => absurd hx List.not_mem_nil⟩
  | k + 1 => by
    obtain ⟨t, h1, h2⟩ := rdN_pre B e o k
    unfold rdN rdS
    split
    · refine ⟨t ++ [((k : Int), e)], by rw [h1, List.append_assoc], fun x hx => ?_⟩
      rcases List.mem_append.mp hx with h3 | h3
      · exact h2 x h3
      · rw [List.mem_singleton.mp h3]
    · exact ⟨t, h1, h2⟩
theorem rds_pre (B : Int → Int) (e : Int) (o : Out) : ∀ k, ∃ t, rds B e o k = o ++ t ∧ ∀ x ∈ t, x.2 = e
  | 0 => ⟨[], by simp [rds], fun x hx => absurd hx List.not_mem_nil⟩
  | k + 1 => by
    obtain ⟨t, h1, h2⟩ := rds_pre B e o k
    obtain ⟨t', h3, h4⟩ := rdN_pre B e (rds B e o k) (B 2).toNat
    refine ⟨t ++ t', ?_, fun x hx => ?_⟩
    · unfold rds rd
      rw [h3, h1, List.append_assoc]
    · rcases List.mem_append.mp hx with h5 | h5
      · exact h2 x h5
      · exact h4 x h5
theorem oc_pre (B : Int → Int) : ∃ t, oc B = oc1 B ++ t ∧ ∀ x ∈ t, x.2 = en B := rds_pre B (en B) (oc1 B) 8
theorem Q_of {S T : Mem} {a w : Int} (h : Rel S T) (ha : R32 a) (hw : R32 w) : ∃ r S' T', f_X7_of S a w = some (r, S') ∧ f_X8_of T a w = some (r, T') ∧ Rel S' T' := by
  have hb := Q_has h ha
  have n1 := h.1.2.2.2.2.2.1
  unfold f_X7_of f_X8_of
  rw [hb.1, hb.2]
  simp only [Option.bind_some]
  by_cases hh : 0 ≤ a ∧ a < T 1 2
  · rw [if_pos hh, if_neg e10, if_neg e10]
    obtain ⟨S', s1, s2, s3⟩ := Q_now h
    obtain ⟨T', t1, t2, t3⟩ := Q_runs s2
    have o := oc_used h.1 hh.1 hh.2
    have c := bused_bnd h.1 hh.1 hh.2
    have h9 : 0 ≤ a ∧ a < 9 := by omega
    have su : S' 11 a = hs (oc (T 1)) a := s3.units hh.1 hh.2
    have tu : T' 5 a = hs (oc (T 1)) a := t2.units hh.1 hh.2
    have sc : S' 12 a = hs (oc1 (T 1)) a := s3.2.2.2.2 a hh.1 hh.2
    have tc : T' 6 a = hs (oc1 (T 1)) a := t2.2.2.2 a hh.1 hh.2
    rw [s1, M_inL hw (by decide) (by decide)]
    simp only [Option.bind_some]
    obtain ⟨w1, w2⟩ := hw
    have ne : ∀ v : Int, -1000 ≤ v → v ≤ 1000 → w ≠ v → ¬ eqb w v = true := fun v x1 x2 x3 => by rw [eqb_f x3 w1 w2 (by omega) (by omega)]; decide
    by_cases h6 : 0 ≤ w ∧ w ≤ 5
    · rw [if_pos h6, if_neg e10, t1]
      simp only [Option.bind_some]
      have c0 : S' 6 a = bcnt (T 1) a := s3.1.2.2.2.2.1 a hh.1 hh.2
      have c1 : S' 7 a = bcap (T 1) a := s3.1.2.2.2.1 a hh.1 hh.2
      rcases (show w = 0 ∨ w = 1 ∨ w = 2 ∨ w = 3 ∨ w = 4 ∨ w = 5 by omega) with e | e | e | e | e | e
      · subst e
        rw [if_pos e00, if_pos e00, if_pos h9, M_valuesOf hh.1 h9.2, t2.1, c0]
        exact ⟨_, _, _, rfl, rfl, t3⟩
      · subst e
        rw [if_neg (by decide), if_pos (by decide), if_pos h9, if_neg (by decide), if_pos (by decide), M_capOf hh.1 h9.2, t2.1, c1]
        exact ⟨_, _, _, rfl, rfl, t3⟩
      · subst e
        rw [if_neg (by decide), if_neg (by decide), if_pos (by decide), if_pos h9, if_neg (by decide), if_neg (by decide), if_pos (by decide), if_pos h9, su, tu]
        exact ⟨_, _, _, rfl, rfl, t3⟩
      · subst e
        rw [if_neg (by decide), if_neg (by decide), if_neg (by decide), if_pos (by decide), C_valueOfUnits (by decide) h.1 s3 hh.1 hh.2]
        simp only [Option.bind_some]
        rw [if_neg (by decide), if_neg (by decide), if_neg (by decide), if_pos (by decide), if_pos h9, M_hv (by decide) h.1 t2 hh.1 hh.2]
        exact ⟨_, _, _, rfl, rfl, t3⟩
      · subst e
        rw [if_neg (by decide), if_neg (by decide), if_neg (by decide), if_neg (by decide), if_pos (by decide), if_pos h9, if_neg (by decide), if_neg (by decide), if_neg (by decide), if_neg (by decide), if_pos (by decide), if_pos h9, su, tu, sc, tc]
        exact ⟨_, _, _, rfl, rfl, t3⟩
      · subst e
        rw [if_neg (by decide), if_neg (by decide), if_neg (by decide), if_neg (by decide), if_neg (by decide), if_pos (by decide), if_pos h9, sc, if_neg n50, if_neg n51, if_neg n52, if_neg n53, if_neg n54, if_pos h9, tc]
        have hc0 := hs_nn (oc1 (T 1)) a
        by_cases hz : hs (oc1 (T 1)) a = 0
        · rw [if_pos (eqb_t hz), if_pos (eqb_t hz)]
          exact ⟨_, _, _, rfl, rfl, t3⟩
        · have hnz : ¬ eqb (hs (oc1 (T 1)) a) 0 = true := by rw [eqb_f hz (by omega) (by omega) (by omega) (by omega)]; decide
          rw [if_neg hnz, if_neg hnz, s3.price h.1 hh.1 hh.2 (Int.le_refl 0) (by omega) (by decide), if_pos (by omega)]
          have := t2.price hh.1 hh.2 (Int.le_refl 0) (by omega)
          rw [Int.add_zero] at this
          rw [this]
          exact ⟨_, _, _, rfl, rfl, t3⟩
    · rw [if_neg h6, if_pos e00, if_neg (ne 0 (by decide) (by decide) (by omega)), if_neg (ne 1 (by decide) (by decide) (by omega)), if_neg (ne 2 (by decide) (by decide) (by omega)), if_neg (ne 3 (by decide) (by decide) (by omega)), if_neg (ne 4 (by decide) (by decide) (by omega)), if_neg (ne 5 (by decide) (by decide) (by omega))]
      exact ⟨_, _, _, rfl, rfl, s2⟩
  · rw [if_neg hh]
    exact ⟨_, _, _, rfl, rfl, h⟩
/-- how many prices of the clock are no more than a price -/
def clk (B : Int → Int) (b p : Int) : Int := (ledN (fun i => decide (prc (oc B) b i ≤ p)) (hs (oc1 B) b).toNat : Nat)
theorem C_clinchedBy {N : Int} {S : Mem} {α : Nat} {B : Int → Int} {b p : Int} (hN : N ≤ 9) (hw : WF N B) (hD : DC S α B) (h1 : 0 ≤ b) (h2 : b < B 2) (hp : 0 ≤ p ∧ p ≤ 99) : f_X0_clinchedBy S α b p = some (clk B b p) := by
  have n1 := hw.2.2.2.2.2.1
  have o := oc_used hw h1 h2
  have o1 := hs_nn (oc1 B) b
  have c := bused_bnd hw h1 h2
  have sc := hD.2.2.2.2 b h1 h2
  have hle := ledN_le (fun i => decide (prc (oc B) b i ≤ p)) (hs (oc1 B) b).toNat
  have eb := en_bnd hw
  have b2 := hw.2.2.1
  unfold f_X0_clinchedBy
  have := lp_seq (step := f_X0_clinchedBy_l2 S α b p) (fun n => (n : Int)) (ledN (fun i => decide (prc (oc B) b i ≤ p)) (hs (oc1 B) b).toNat) (clk B b p) (fun i hi => by
      have hv := ledN_lt _ _ i hi
      simp only [decide_eq_true_eq] at hv
      have pb := prc_bnd (b := b) (i := i) hw (by omega) (by omega)
      unfold f_X0_clinchedBy_l2
      rw [if_pos (by omega), sc, if_pos (ltb_t (by omega) (by omega) (by omega)), hD.price hw h1 h2 (by omega) (by omega) hN]
      simp only [Option.bind_some]
      rw [if_neg (by rw [ltb_f hv (by omega) (by omega)]; decide)]
      rfl) (by
      unfold f_X0_clinchedBy_l2
      rw [if_pos (by omega), sc]
      by_cases hl : ledN (fun i => decide (prc (oc B) b i ≤ p)) (hs (oc1 B) b).toNat < (hs (oc1 B) b).toNat
      · have hs1 := ledN_stop _ _ hl
        simp only [decide_eq_false_iff_not] at hs1
        have pb := prc_bnd (b := b) (i := (ledN (fun i => decide (prc (oc B) b i ≤ p)) (hs (oc1 B) b).toNat : Nat)) hw (by omega) (by omega)
        rw [if_pos (ltb_t (by omega) (by omega) (by omega)), hD.price hw h1 h2 (by omega) (by omega) hN]
        simp only [Option.bind_some]
        rw [if_pos (ltb_t (by omega) (by omega) (by omega))]
        rfl
      · rw [if_neg (by rw [ltb_f (by omega) (by omega) (by omega)]; decide)]
        rfl) (n := FU) (by rw [FU_eq]; omega)
  rw [show ((0 : Nat) : Int) = 0 from rfl] at this
  rw [this]
  rfl
theorem led_count {P : Int → Bool} : ∀ n : Nat, (∀ i j : Nat, i < j → j < n → P j = true → P i = true) → sumN (fun i => if P i = true then 1 else 0) n = (ledN P n : Nat)
  | 0, _ => rfl
  | n + 1, h => by
    have ih := led_count (P := P) n (fun i j h1 h2 h3 => h i j h1 (by omega) h3)
    unfold sumN ledN
    rw [ih]
    by_cases hp : P n = true
    · have hall : ledN P n = n := ledN_uniq (Nat.le_refl _) (fun i hi => h i n hi (by omega) hp) (Or.inl rfl)
      rw [if_pos hp, if_pos ⟨hall, hp⟩, hall]
      omega
    · rw [if_neg hp, if_neg (fun z => hp z.2)]
      omega
theorem Q_at {S T : Mem} {a p w : Int} (h : Rel S T) (ha : R32 a) (hp : R32 p) (hw : R32 w) : ∃ r S' T', f_X7_at S a p w = some (r, S') ∧ f_X8_at T a p w = some (r, T') ∧ Rel S' T' := by
  have hb := Q_has h ha
  have n1 := h.1.2.2.2.2.2.1
  unfold f_X7_at f_X8_at
  rw [hb.1, hb.2]
  simp only [Option.bind_some]
  by_cases hh : 0 ≤ a ∧ a < T 1 2
  · rw [if_pos hh, if_neg e10, if_neg e10, C_isPrice hp, M_isPrice hp]
    simp only [Option.bind_some]
    by_cases h3 : 0 ≤ p ∧ p ≤ 99
    · rw [if_pos h3, if_neg e10, if_neg e10, M_inL hw (by decide) (by decide)]
      simp only [Option.bind_some]
      obtain ⟨w1, w2⟩ := hw
      have ne : ∀ v : Int, -1000 ≤ v → v ≤ 1000 → w ≠ v → ¬ eqb w v = true := fun v x1 x2 x3 => by rw [eqb_f x3 w1 w2 (by omega) (by omega)]; decide
      by_cases h6 : 0 ≤ w ∧ w ≤ 3
      · rw [if_pos h6, if_neg e10]
        rcases (show w = 0 ∨ w = 1 ∨ w = 2 ∨ w = 3 by omega) with e | e | e | e
        · subst e
          rw [if_pos e00, if_pos e00, C_wantsOf (by decide) h.1 h.2.1 hh.1 hh.2 (by omega) h3.2, M_aboveOf (by decide) h.1 hh.1 hh.2 (by omega) h3.2]
          exact ⟨_, _, _, rfl, rfl, h⟩
        · subst e
          rw [if_neg (by decide), if_pos (by decide), if_neg (by decide), if_pos (by decide), C_takesOf (by decide) h.1 h.2.1 hh.1 hh.2 h3.1 h3.2, M_aboveOf (by decide) h.1 hh.1 hh.2 (by omega) (by omega)]
          exact ⟨_, _, _, rfl, rfl, h⟩
        · subst e
          rw [if_neg (by decide), if_neg (by decide), if_pos (by decide), if_neg (by decide), if_neg (by decide), if_pos (by decide), C_freeFor (by decide) h.1 h.2.1 hh.1 hh.2 (by omega) h3.2, M_freeOf (by decide) h.1 hh.1 hh.2 (by omega) h3.2]
          exact ⟨_, _, _, rfl, rfl, h⟩
        · subst e
          rw [if_neg (by decide), if_neg (by decide), if_neg (by decide), if_pos (by decide), if_neg (by decide), if_neg (by decide), if_neg (by decide)]
          obtain ⟨S', s1, s2, s3⟩ := Q_now h
          obtain ⟨T', t1, t2, t3⟩ := Q_runs s2
          have o := oc_used h.1 hh.1 hh.2
          have o1 := hs_nn (oc1 (T 1)) a
          have c := bused_bnd h.1 hh.1 hh.2
          have tc : T' 6 a = hs (oc1 (T 1)) a := t2.2.2.2 a hh.1 hh.2
          have eb := en_bnd h.1
          have b2 := h.1.2.2.1
          have hm : lp (f_X8_at_l73 T' a p) FU (0, 0) = some (clk (T 1) a p) := by
            rw [lp_sum (fun i => if decide (prc (oc (T 1)) a i ≤ p) = true then 1 else 0) (hs (oc1 (T 1)) a).toNat (fun x i hi => by
              unfold f_X8_at_l73
              dsimp only
              have pb := prc_bnd (b := a) (i := i) h.1 (by omega) (by omega)
              have pr := t2.price (i := i) hh.1 hh.2 (by omega) (by omega)
              rw [if_pos (by omega), tc, if_pos (ltb_t (by omega) (by omega) (by omega)), if_pos (by omega)]
              by_cases hq : prc (oc (T 1)) a i ≤ p
              · rw [if_neg (show ¬ ltb p (T' 7 (8 * a + (i : Int))) = true by rw [pr, ltb_f hq (by omega) (by omega)]; decide), if_pos (by simpa using hq)]
                rfl
              · rw [if_pos (show ltb p (T' 7 (8 * a + (i : Int))) = true by rw [pr]; exact ltb_t (by omega) (by omega) (by omega)), if_neg (by simpa using hq)]
                simp only [Option.bind_some, Int.add_zero]) (fun x => by
              unfold f_X8_at_l73
              dsimp only
              rw [if_pos (by omega), tc, if_neg (by rw [ltb_f (by omega) (by omega) (by omega)]; decide)]) (by omega)]
            rw [led_count (P := fun i => decide (prc (oc (T 1)) a i ≤ p)) _ (fun i j h1 h2 h3 => by
              simp only [decide_eq_true_eq] at h3 ⊢
              have := prc_mono (b := a) (i := i) (j := j) (Srt_oc (T 1)) (by omega) (by omega) (by omega)
              omega)]
            rfl
          rw [s1, t1]
          simp only [Option.bind_some]
          rw [C_clinchedBy (by decide) h.1 s3 hh.1 hh.2 h3, hm]
          exact ⟨_, _, _, rfl, rfl, t3⟩
      · rw [if_neg h6, if_pos e00, if_neg (ne 0 (by decide) (by decide) (by omega)), if_neg (ne 1 (by decide) (by decide) (by omega)), if_neg (ne 2 (by decide) (by decide) (by omega)), if_neg (ne 3 (by decide) (by decide) (by omega))]
        exact ⟨_, _, _, rfl, rfl, h⟩
    · rw [if_neg h3]
      exact ⟨_, _, _, rfl, rfl, h⟩
  · rw [if_neg hh]
    exact ⟨_, _, _, rfl, rfl, h⟩
