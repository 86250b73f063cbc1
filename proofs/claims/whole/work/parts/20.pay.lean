/-! ===== payments ===== -/
/-- an auction that has run: the system's, the reference's -/
def DC (S : Mem) (α : Nat) (B : Int → Int) : Prop := RB S (α + 1) B ∧ ARc S α (oc B) ∧ S α 1 = en B ∧ S α 3 = ((oc1 B).length : Nat) ∧ ∀ b, 0 ≤ b → b < B 2 → S (α + 8) b = hs (oc1 B) b
def DM (T : Mem) (B : Int → Int) : Prop := T 1 = B ∧ ARm T (oc B) ∧ T 0 12 = en B ∧ ∀ b, 0 ≤ b → b < B 2 → T 6 b = hs (oc1 B) b
theorem DC.fp {S S' : Mem} {α : Nat} {B : Int → Int} (h : DC S α B) (hF : FrP S S' (α + 1)) : DC S' α B := by
  obtain ⟨a1, a2, a3, a4, a5⟩ := h
  refine ⟨hF.book a1, a2.fr (by rw [hF α (by omega) (by omega)]) (hF _ (by omega) (by omega)) (hF _ (by omega) (by omega)) (hF _ (by omega) (by omega)) (hF _ (by omega) (by omega)) (hF _ (by omega) (by omega)), by rw [hF α (by omega) (by omega)]; exact a3, by rw [hF α (by omega) (by omega)]; exact a4, fun b h1 h2 => by rw [hF (α + 8) (by omega) (by omega)]; exact a5 b h1 h2⟩
theorem DM.ft {T T' : Mem} {B : Int → Int} (h : DM T B) (hF : FrT T T') : DM T' B := by
  obtain ⟨a1, a2, a3, a4⟩ := h
  have e := hF.row
  refine ⟨by rw [e]; exact a1, ?_, by rw [hF 0 (by decide)]; exact a3, fun b h1 h2 => by rw [hF 6 (by decide)]; exact a4 b h1 h2⟩
  unfold ARm
  rw [e]
  exact a2.fr (by rw [hF 0 (by decide)]) (hF _ (by decide)) (hF _ (by decide)) (hF _ (by decide)) (hF _ (by decide))
theorem FrP.tr {S S1 S2 : Mem} {q : Nat} (h : FrP S S1 q) (g : FrP S1 S2 q) : FrP S S2 q := fun k a b => (g k a b).trans (h k a b)
theorem FrT.tr {S S1 S2 : Mem} (h : FrT S S1) (g : FrT S1 S2) : FrT S S2 := fun k a => (g k a).trans (h k a)
theorem DC.of {N : Int} {B : Int → Int} {S : Mem} {α : Nat} (hN : N ≤ 9) (hw : WF N B) (hR : RB S (α + 1) B) : ∃ S', f_X0_run S α = some S' ∧ DC S' α B ∧ FrC S S' α := by
  obtain ⟨S', a1, a2, a3, a4, a5, a6⟩ := C_run hN hw hR
  exact ⟨S', a1, ⟨a6.book hR, a2, a3, a4, a5⟩, a6⟩
theorem DM.of {N : Int} {T : Mem} (hN : N ≤ 9) (hw : WF N (T 1)) : ∃ T', f_X8_runs T = some T' ∧ DM T' (T 1) ∧ FrR T T' := by
  obtain ⟨T', a1, a2, a3, a4, a5⟩ := M_runs hN hw
  exact ⟨T', a1, ⟨a5.row, a2, a3, a4⟩, a5⟩
theorem oc_used {N : Int} {B : Int → Int} (hw : WF N B) {b : Int} (h1 : 0 ≤ b) (h2 : b < B 2) : 0 ≤ hs (oc B) b ∧ hs (oc B) b ≤ bused B b ∧ hs (oc1 B) b ≤ hs (oc B) b := by
  have a := hs_rds_bnd (e := en B) hw h1 h2 (hs_outK_used hw h1 h2 (ek B)) 8
  exact ⟨hs_nn _ _, a.1, a.2⟩
theorem oc_len {N : Int} {B : Int → Int} (hw : WF N B) : ((oc B).length : Int) ≤ B 0 := (len_rds_le (e := en B) (len_outK hw (Nat.le_refl _)) 8).1
theorem oc_owd {N : Int} {B : Int → Int} (hw : WF N B) : Owd (B 2) (oc B) := Owd_rds hw.2.2.2.2.1 (Owd_outK hw.2.2.2.2.1 _) 8
theorem en_bnd {N : Int} {B : Int → Int} (hw : WF N B) : 0 ≤ en B ∧ B 1 ≤ en B ∧ en B ≤ 99 := by
  have a := ek_le hw
  have b := hw.2.2.1
  unfold en
  omega
/-- prices lie between two numbers -/
def Prd (lo hi : Int) (o : Out) : Prop := ∀ x ∈ o, lo ≤ x.2 ∧ x.2 ≤ hi
theorem Prd_cl {lo hi : Int} {o : Out} {b to p : Int} (h : Prd lo hi o) (h1 : lo ≤ p) (h2 : p ≤ hi) : Prd lo hi (cl o b to p) := by
  intro x hx
  unfold cl at hx
  rcases List.mem_append.mp hx with h3 | h3
  · exact h x h3
  · rw [(List.mem_replicate.mp h3).2]; exact ⟨h1, h2⟩
theorem Prd_shN {lo hi : Int} {B : Int → Int} {p : Int} {o : Out} (h : Prd lo hi o) (h1 : lo ≤ p) (h2 : p ≤ hi) : ∀ k, Prd lo hi (shN B p o k)
  | 0 => h
  | k + 1 => Prd_cl (Prd_shN h h1 h2 k) h1 h2
theorem Prd_outK {B : Int → Int} : ∀ k : Nat, Prd (B 1) (B 1 + k) (outK B k)
  | 0 => Prd_shN (fun x hx => absurd hx List.not_mem_nil) (Int.le_refl _) (by omega) _
  | k + 1 => Prd_shN (fun x hx => by have := Prd_outK k x hx; omega) (by omega) (by omega) _
theorem Prd_rdN {lo hi : Int} {B : Int → Int} {e : Int} {o : Out} (h : Prd lo hi o) (h1 : lo ≤ e) (h2 : e ≤ hi) : ∀ k, Prd lo hi (rdN B e o k)
  | 0 => h
  | k + 1 => by
    have ih := Prd_rdN (B := B) h h1 h2 k
    unfold rdN rdS
    split
    · intro x hx
      rcases List.mem_append.mp hx with h3 | h3
      · exact ih x h3
      · rw [List.mem_singleton.mp h3]; exact ⟨h1, h2⟩
    · exact ih
theorem Prd_rds {lo hi : Int} {B : Int → Int} {e : Int} {o : Out} (h : Prd lo hi o) (h1 : lo ≤ e) (h2 : e ≤ hi) : ∀ k, Prd lo hi (rds B e o k)
  | 0 => h
  | k + 1 => Prd_rdN (Prd_rds h h1 h2 k) h1 h2 _
theorem Prd_oc (B : Int → Int) : Prd (B 1) (en B) (oc B) := Prd_rds (Prd_outK _) (by omega) (Int.le_refl _) 8
theorem prc_mem {o : Out} {b i : Int} (h0 : 0 ≤ i) (h : i < hs o b) : ∃ x ∈ o, x.1 = b ∧ x.2 = prc o b i := by
  unfold hs at h
  have hl : i.toNat < (fil o b).length := by omega
  have hm : (fil o b)[i.toNat] ∈ fil o b := List.getElem_mem hl
  have hf := List.mem_filter.mp hm
  refine ⟨_, hf.1, by simpa using hf.2, ?_⟩
  unfold prc
  rw [List.getD_eq_getElem?_getD, List.getElem?_eq_getElem hl]
  rfl
theorem prc_bnd {N : Int} {B : Int → Int} {b i : Int} (hw : WF N B) (h0 : 0 ≤ i) (h : i < hs (oc B) b) : B 1 ≤ prc (oc B) b i ∧ prc (oc B) b i ≤ en B := by
  obtain ⟨x, h1, h2, h3⟩ := prc_mem h0 h
  have := Prd_oc B x h1
  omega
def bhv (B : Int → Int) (b : Int) : Int := bsum B b (hs (oc B) b)
def bhad (B : Int → Int) : Int := sumN (fun b => bhv B b) (B 2).toNat
def bun (B : Int → Int) : Int := B 0 - ((oc B).length : Nat)
def bset (B : Int → Int) : Int := shlb 1 (B 2) - 1
def pay (B : Int → Int) (b k : Int) : Int := if k = 0 then sumN (fun i => prc (oc B) b i) (hs (oc B) b).toNat else if k = 1 then en B * hs (oc B) b else if k = 2 then bhv B b else bworth B (xorb (bset B) (shlb 1 b)) (B 0) - (bhad B - bhv B b) - B 1 * bun B
def bpaid (B : Int → Int) (k : Int) : Int := sumN (fun b => pay B b k) (B 2).toNat
def bgain (B : Int → Int) (b k : Int) : Int := bhv B b - pay B b k
theorem bits_others : ∀ n, n < 10 → ∀ b, b < 10 → b < n → andb (shlb 1 ((n : Nat) : Int) - 1) (xorb (shlb 1 ((b : Nat) : Int)) (-1)) = xorb (shlb 1 ((n : Nat) : Int) - 1) (shlb 1 ((b : Nat) : Int)) := by decide +kernel
theorem bits_same {n b : Int} (h0 : 0 ≤ n) (h1 : n ≤ 9) (h2 : 0 ≤ b) (h3 : b < n) : andb (shlb 1 n - 1) (xorb (shlb 1 b) (-1)) = xorb (shlb 1 n - 1) (shlb 1 b) := by
  have := bits_others n.toNat (by omega) b.toNat (by omega) (by omega)
  rw [show ((n.toNat : Nat) : Int) = n by omega, show ((b.toNat : Nat) : Int) = b by omega] at this
  exact this
theorem bhv_bnd {N : Int} {B : Int → Int} (hw : WF N B) {b : Int} (h1 : 0 ≤ b) (h2 : b < B 2) : 0 ≤ bhv B b ∧ bhv B b ≤ 792 := by
  have a := oc_used hw h1 h2
  have c := bused_bnd hw h1 h2
  exact bsum_bnd hw h1 h2 a.1 (by omega)
theorem C_valueOfUnits {N : Int} {B : Int → Int} {S : Mem} {α : Nat} {b : Int} (hN : N ≤ 9) (hw : WF N B) (hD : DC S α B) (h1 : 0 ≤ b) (h2 : b < B 2) : f_X0_valueOfUnits S α b = some (bhv B b) := by
  have n1 := hw.2.2.2.2.2.1
  have a := oc_used hw h1 h2
  have c := bused_bnd hw h1 h2
  have e := hD.2.1.2.1 b h1 (by rw [hD.1.2.2.1]; exact h2)
  unfold f_X0_valueOfUnits
  rw [if_pos (by omega), e, C_sumOfFirst hN hw hD.1 h1 h2 a.1 (by omega)]
  rfl
theorem C_valueOfAllUnits {N : Int} {B : Int → Int} {S : Mem} {α : Nat} (hN : N ≤ 9) (hw : WF N B) (hD : DC S α B) : f_X0_valueOfAllUnits S α = some (bhad B) := by
  have n0 := hw.2.2.2.2.1
  have n1 := hw.2.2.2.2.2.1
  unfold f_X0_valueOfAllUnits
  rw [lp_sum (fun b => bhv B b) (B 2).toNat (fun a i hi => by
      have b1 : (0 : Int) ≤ (i : Int) := by omega
      have b2 : (i : Int) < B 2 := by omega
      have a1 := oc_used hw b1 b2
      have a2 := bused_bnd hw b1 b2
      have a3 := hD.2.1.2.1 (i : Int) b1 (by rw [hD.1.2.2.1]; exact b2)
      unfold f_X0_valueOfAllUnits_l4
      dsimp only
      rw [hD.1.2.2.1, if_pos (ltb_t (by omega) (by omega) (by omega)), if_pos (by omega), a3, C_sumOfFirst hN hw hD.1 b1 b2 a1.1 (by omega)]
      rfl) (fun a => by
      unfold f_X0_valueOfAllUnits_l4
      dsimp only
      rw [hD.1.2.2.1, if_neg (by rw [ltb_f (by omega) (by omega) (by omega)]; decide)]) (by omega)]
  rfl
theorem M_hv {N : Int} {T : Mem} {B : Int → Int} {b : Int} (hN : N ≤ 9) (hw : WF N B) (hD : DM T B) (h1 : 0 ≤ b) (h2 : b < B 2) : f_X8_firstOf T b (T 5 b) = some (bhv B b) := by
  have e1 := hD.1
  have a := oc_used hw h1 h2
  have c := bused_bnd hw h1 h2
  have e := hD.2.1.2.1 b h1 (by rw [e1]; exact h2)
  rw [e, M_firstOf hN (by rw [e1]; exact hw) h1 (by rw [e1]; exact h2) a.1 (by rw [e1]; omega), e1]
  rfl
theorem M_hadBut {N : Int} {T : Mem} {B : Int → Int} {c : Int} (hN : N ≤ 9) (hw : WF N B) (hD : DM T B) (hc : -1 ≤ c) (hc2 : c < 100) : f_X8_hadBut T c = some (sumN (fun b => if b = c then 0 else bhv B b) (B 2).toNat) := by
  have n0 := hw.2.2.2.2.1
  have n1 := hw.2.2.2.2.2.1
  have e1 := hD.1
  unfold f_X8_hadBut
  rw [lp_sum (fun b => if b = c then 0 else bhv B b) (B 2).toNat (fun a i hi => by
      unfold f_X8_hadBut_l4
      dsimp only
      rw [M_many]
      simp only [Option.bind_some]
      rw [if_pos (show ltb (i : Int) (T 1 2) = true by rw [e1]; exact ltb_t (by omega) (by omega) (by omega))]
      by_cases hic : (i : Int) = c
      · rw [if_pos (show eqb (i : Int) c = true from eqb_t hic), if_pos hic]
        simp only [Option.bind_some]
        rw [show a + 0 = a by omega]
      · rw [if_neg (show ¬ eqb (i : Int) c = true by rw [eqb_f hic (by omega) (by omega) (by omega) (by omega)]; decide), if_neg hic, if_pos (by omega), M_hv hN hw hD (by omega) (by omega)]
        rfl) (fun a => by
      unfold f_X8_hadBut_l4
      dsimp only
      rw [M_many]
      simp only [Option.bind_some]
      rw [if_neg (show ¬ ltb (((B 2).toNat : Nat) : Int) (T 1 2) = true by rw [e1, ltb_f (by omega) (by omega) (by omega)]; decide)]) (by omega)]
  rfl
theorem hadBut_eq {B : Int → Int} {c : Int} (h1 : 0 ≤ c) (h2 : c < B 2) : sumN (fun b => if b = c then 0 else bhv B b) (B 2).toNat = bhad B - bhv B c := by
  have := sumN_upd (g := fun b => bhv B b) (g' := fun b => if b = c then 0 else bhv B b) (c := c.toNat) (B 2).toNat (by omega) (fun i hi hne => if_neg (by omega))
  rw [this]
  unfold bhad
  rw [show ((c.toNat : Nat) : Int) = c by omega, if_pos rfl]
  omega
theorem hadBut_all {B : Int → Int} : sumN (fun b => if b = -1 then 0 else bhv B b) (B 2).toNat = bhad B := by
  unfold bhad
  apply sumN_congr
  intro i hi
  rw [if_neg (by omega)]
theorem C_payment {N : Int} {B : Int → Int} {S : Mem} {α : Nat} {b k : Int} (hN : N ≤ 9) (hw : WF N B) (hD : DC S α B) (h1 : 0 ≤ b) (h2 : b < B 2) (hk1 : 0 ≤ k) (hk2 : k ≤ 3) : ∃ S', f_X0_payment S α b k = some (pay B b k, S') ∧ FrP S S' (α + 1) := by
  have n0 := hw.2.2.2.2.1
  have n1 := hw.2.2.2.2.2.1
  have b0 := hw.1
  have b1 := hw.2.1
  have a := oc_used hw h1 h2
  have c := bused_bnd hw h1 h2
  have e := hD.2.1.2.1 b h1 (by rw [hD.1.2.2.1]; exact h2)
  unfold f_X0_payment pay
  by_cases k0 : k = 0
  · refine ⟨S, ?_, fun _ _ _ => rfl⟩
    rw [if_pos (eqb_t k0), if_pos k0]
    unfold f_X0_sumOfPrices
    rw [lp_sum (fun i => prc (oc B) b i) (hs (oc B) b).toNat (fun x i hi => by
      unfold f_X0_sumOfPrices_l4
      dsimp only
      rw [if_pos (by omega), e, if_pos (ltb_t (by omega) (by omega) (by omega))]
      unfold f_X0_unitPrice
      have e2 := hD.2.1.2.2.1 b i h1 (by rw [hD.1.2.2.1]; exact h2) (by omega) (by omega)
      rw [if_pos (by omega), show b * 8 + (i : Int) = 8 * b + i by omega, e2]
      rfl) (fun x => by
      unfold f_X0_sumOfPrices_l4
      dsimp only
      rw [if_pos (by omega), e, if_neg (by rw [ltb_f (by omega) (by omega) (by omega)]; decide)]) (by omega)]
    rfl
  · rw [if_neg (show ¬ eqb k 0 = true by rw [eqb_f k0 (by omega) (by omega) (by omega) (by omega)]; decide), if_neg k0]
    by_cases k1 : k = 1
    · refine ⟨S, ?_, fun _ _ _ => rfl⟩
      rw [if_pos (eqb_t k1), if_pos k1, if_pos (by omega), hD.2.2.1, e]
    · rw [if_neg (show ¬ eqb k 1 = true by rw [eqb_f k1 (by omega) (by omega) (by omega) (by omega)]; decide), if_neg k1]
      by_cases k2 : k = 2
      · refine ⟨S, ?_, fun _ _ _ => rfl⟩
        rw [if_pos (eqb_t k2), if_pos k2, C_valueOfUnits hN hw hD h1 h2]
        rfl
      · rw [if_neg (show ¬ eqb k 2 = true by rw [eqb_f k2 (by omega) (by omega) (by omega) (by omega)]; decide), if_neg k2]
        obtain ⟨S', g1, g2⟩ := C_worthTo (set := xorb (bset B) (shlb 1 b)) (units := B 0) hN hw hD.1 (by omega) (by omega)
        have hD' := hD.fp g2
        refine ⟨S', ?_, g2⟩
        unfold f_X0_harmBy f_X1_everyone
        simp only [Option.bind_some]
        rw [C_valueOfAllUnits hN hw hD]
        simp only [Option.bind_some]
        rw [C_valueOfUnits hN hw hD h1 h2]
        simp only [Option.bind_some]
        rw [hD.1.2.2.1, hD.1.1, bits_same n0 (by omega) h1 h2]
        have eb : xorb (shlb 1 (B 2) - 1) (shlb 1 b) = xorb (bset B) (shlb 1 b) := rfl
        rw [eb, g1]
        simp only [Option.bind_some]
        unfold f_X0_unsold
        simp only [Option.bind_some]
        rw [hD'.1.2.1, hD'.1.1, hD'.2.1.1]
        rfl
theorem M_paysOf {N : Int} {T : Mem} {B : Int → Int} {b k : Int} (hN : N ≤ 9) (hw : WF N B) (hD : DM T B) (h1 : 0 ≤ b) (h2 : b < B 2) (hk1 : 0 ≤ k) (hk2 : k ≤ 3) : ∃ T', f_X8_paysOf T b k = some (pay B b k, T') ∧ FrT T T' := by
  have n0 := hw.2.2.2.2.1
  have n1 := hw.2.2.2.2.2.1
  have b0 := hw.1
  have b1 := hw.2.1
  have er := hD.1
  have a := oc_used hw h1 h2
  have c := bused_bnd hw h1 h2
  have e := hD.2.1.2.1 b h1 (by rw [er]; exact h2)
  unfold f_X8_paysOf pay
  by_cases k0 : k = 0
  · refine ⟨T, ?_, fun _ _ => rfl⟩
    rw [if_pos (eqb_t k0), if_pos k0]
    rw [lp_sum (fun i => prc (oc B) b i) (hs (oc B) b).toNat (fun x i hi => by
      unfold f_X8_paysOf_l33
      dsimp only
      have e2 := hD.2.1.2.2.1 b i h1 (by rw [er]; exact h2) (by omega) (by omega)
      rw [if_pos (by omega), e, if_pos (ltb_t (by omega) (by omega) (by omega)), if_pos (by omega), e2]) (fun x => by
      unfold f_X8_paysOf_l33
      dsimp only
      rw [if_pos (by omega), e, if_neg (by rw [ltb_f (by omega) (by omega) (by omega)]; decide)]) (by omega)]
    rfl
  · rw [if_neg (show ¬ eqb k 0 = true by rw [eqb_f k0 (by omega) (by omega) (by omega) (by omega)]; decide), if_neg k0]
    by_cases k1 : k = 1
    · refine ⟨T, ?_, fun _ _ => rfl⟩
      rw [if_pos (eqb_t k1), if_pos k1, if_pos (by omega), hD.2.2.1, e]
    · rw [if_neg (show ¬ eqb k 1 = true by rw [eqb_f k1 (by omega) (by omega) (by omega) (by omega)]; decide), if_neg k1]
      by_cases k2 : k = 2
      · refine ⟨T, ?_, fun _ _ => rfl⟩
        rw [if_pos (eqb_t k2), if_pos k2, if_pos (by omega), M_hv hN hw hD h1 h2]
        rfl
      · rw [if_neg (show ¬ eqb k 2 = true by rw [eqb_f k2 (by omega) (by omega) (by omega) (by omega)]; decide), if_neg k2]
        obtain ⟨T', g1, g2⟩ := M_worthTo (T := T) (set := xorb (bset B) (shlb 1 b)) (units := B 0) hN (by rw [er]; exact hw) (by omega) (by omega)
        rw [er] at g1
        have hD' := hD.ft g2
        refine ⟨T', ?_, g2⟩
        unfold f_X8_everybody
        rw [M_many]
        simp only [Option.bind_some]
        rw [if_pos (by omega), er]
        have eb : xorb (shlb 1 (B 2) - 1) (shlb 1 b) = xorb (bset B) (shlb 1 b) := rfl
        rw [eb, g1]
        simp only [Option.bind_some]
        rw [M_hadBut hN hw hD' (by omega) (by omega)]
        simp only [Option.bind_some]
        rw [if_pos (by omega), hadBut_eq h1 h2]
        unfold f_X8_unsold
        rw [if_pos (by omega)]
        simp only [Option.bind_some]
        rw [hD'.1, hD'.2.1.1]
        rfl
theorem C_paidByAll {N : Int} {B : Int → Int} {S : Mem} {α : Nat} {k : Int} (hN : N ≤ 9) (hw : WF N B) (hD : DC S α B) (hk1 : 0 ≤ k) (hk2 : k ≤ 3) : ∃ S', f_X0_paidByAll S α k = some (bpaid B k, S') ∧ FrP S S' (α + 1) := by
  have n0 := hw.2.2.2.2.1
  have n1 := hw.2.2.2.2.2.1
  obtain ⟨r, g1, g2, g3⟩ := lp_rel (step := f_X0_paidByAll_l4 α k) (fun i (t : Int × Int × Mem) => t.1 = sumN (fun b => pay B b k) i ∧ t.2.1 = i ∧ FrP S t.2.2 (α + 1)) (fun (r : Int × Mem) => r.1 = bpaid B k ∧ FrP S r.2 (α + 1)) (B 2).toNat (by
      intro i t hi ⟨e0, e1, hF⟩
      obtain ⟨t1, t2, t3⟩ := t
      dsimp only at e0 e1 hF ⊢
      subst e1
      have hD' := hD.fp hF
      obtain ⟨t', g1, g2⟩ := C_payment (b := i) hN hw hD' (by omega) (by omega) hk1 hk2
      refine ⟨(t1 + pay B i k, (i : Int) + 1, t'), ?_, by dsimp only; rw [e0]; rfl, by dsimp only; omega, hF.tr g2⟩
      unfold f_X0_paidByAll_l4
      dsimp only
      rw [if_pos (show ltb (i : Int) (t3 (α + 1) 2) = true by rw [hD'.1.2.2.1]; exact ltb_t (by omega) (by omega) (by omega)), g1]
      rfl) (by
      intro t ⟨e0, e1, hF⟩
      obtain ⟨t1, t2, t3⟩ := t
      dsimp only at e0 e1 hF ⊢
      subst e1
      have hD' := hD.fp hF
      refine ⟨(t1, t3), ?_, e0, hF⟩
      unfold f_X0_paidByAll_l4
      dsimp only
      rw [if_neg (show ¬ ltb (((B 2).toNat : Nat) : Int) (t3 (α + 1) 2) = true by rw [hD'.1.2.2.1, ltb_f (by omega) (by omega) (by omega)]; decide)]) (n := FU) (by rw [FU_eq]; omega) (s := (0, 0, S)) ⟨rfl, rfl, fun _ _ _ => rfl⟩
  refine ⟨r.2, ?_, g3⟩
  unfold f_X0_paidByAll
  rw [g1]
  show some (r.1, r.2) = _
  rw [g2]
theorem M_paidAll {N : Int} {T : Mem} {B : Int → Int} {k : Int} (hN : N ≤ 9) (hw : WF N B) (hD : DM T B) (hk1 : 0 ≤ k) (hk2 : k ≤ 3) : ∃ T', f_X8_paidAll T k = some (bpaid B k, T') ∧ FrT T T' := by
  have n0 := hw.2.2.2.2.1
  have n1 := hw.2.2.2.2.2.1
  obtain ⟨r, g1, g2, g3⟩ := lp_rel (step := f_X8_paidAll_l4 k) (fun i (t : Int × Int × Mem) => t.1 = sumN (fun b => pay B b k) i ∧ t.2.1 = i ∧ FrT T t.2.2) (fun (r : Int × Mem) => r.1 = bpaid B k ∧ FrT T r.2) (B 2).toNat (by
      intro i t hi ⟨e0, e1, hF⟩
      obtain ⟨t1, t2, t3⟩ := t
      dsimp only at e0 e1 hF ⊢
      subst e1
      have hD' := hD.ft hF
      obtain ⟨t', g1, g2⟩ := M_paysOf (b := i) hN hw hD' (by omega) (by omega) hk1 hk2
      refine ⟨(t1 + pay B i k, (i : Int) + 1, t'), ?_, by dsimp only; rw [e0]; rfl, by dsimp only; omega, hF.tr g2⟩
      unfold f_X8_paidAll_l4
      dsimp only
      rw [M_many]
      simp only [Option.bind_some]
      rw [if_pos (show ltb (i : Int) (t3 1 2) = true by rw [hD'.1]; exact ltb_t (by omega) (by omega) (by omega)), g1]
      rfl) (by
      intro t ⟨e0, e1, hF⟩
      obtain ⟨t1, t2, t3⟩ := t
      dsimp only at e0 e1 hF ⊢
      subst e1
      have hD' := hD.ft hF
      refine ⟨(t1, t3), ?_, e0, hF⟩
      unfold f_X8_paidAll_l4
      dsimp only
      rw [M_many]
      simp only [Option.bind_some]
      rw [if_neg (show ¬ ltb (((B 2).toNat : Nat) : Int) (t3 1 2) = true by rw [hD'.1, ltb_f (by omega) (by omega) (by omega)]; decide)]) (n := FU) (by rw [FU_eq]; omega) (s := (0, 0, T)) ⟨rfl, rfl, fun _ _ => rfl⟩
  refine ⟨r.2, ?_, g3⟩
  unfold f_X8_paidAll
  rw [g1]
  show some (r.1, r.2) = _
  rw [g2]
theorem C_gainOf {N : Int} {B : Int → Int} {S : Mem} {α : Nat} {b k : Int} (hN : N ≤ 9) (hw : WF N B) (hD : DC S α B) (h1 : 0 ≤ b) (h2 : b < B 2) (hk1 : 0 ≤ k) (hk2 : k ≤ 3) : ∃ S', f_X0_gainOf S α b k = some (bgain B b k, S') ∧ FrP S S' (α + 1) := by
  obtain ⟨S', g1, g2⟩ := C_payment hN hw hD h1 h2 hk1 hk2
  refine ⟨S', ?_, g2⟩
  unfold f_X0_gainOf
  rw [C_valueOfUnits hN hw hD h1 h2]
  simp only [Option.bind_some]
  rw [g1]
  rfl
theorem M_gainOf {N : Int} {T : Mem} {B : Int → Int} {b k : Int} (hN : N ≤ 9) (hw : WF N B) (hD : DM T B) (h1 : 0 ≤ b) (h2 : b < B 2) (hk1 : 0 ≤ k) (hk2 : k ≤ 3) : ∃ T', f_X8_gainOf T b k = some (bgain B b k, T') ∧ FrT T T' := by
  have n1 := hw.2.2.2.2.2.1
  obtain ⟨T', g1, g2⟩ := M_paysOf hN hw hD h1 h2 hk1 hk2
  refine ⟨T', ?_, g2⟩
  unfold f_X8_gainOf
  rw [if_pos (by omega), M_hv hN hw hD h1 h2]
  simp only [Option.bind_some]
  rw [g1]
  rfl
