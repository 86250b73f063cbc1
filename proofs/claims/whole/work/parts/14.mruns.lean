/-! ===== the reference's clock ===== -/
/-- the reference's memory holds what was sold -/
def ARm (T : Mem) (o : Out) : Prop := AR T 0 11 5 7 8 9 (T 1 2) o
def Frmm (T T' : Mem) : Prop := Frm T T' 0 11 5 7 8 9
theorem Frmm.row {T T' : Mem} (h : Frmm T T') : T' 1 = T 1 := h.1 1 (by decide) (by decide) (by decide) (by decide) (by decide)
theorem Frmm.end_ {T T' : Mem} (h : Frmm T T') : T' 0 12 = T 0 12 := h.2 12 (by decide)
/-- room for what is sold: no bidder above eight, no more than thirty -/
def Rm (n : Int) (o : Out) : Prop := (o.length : Int) ≤ 30 ∧ ∀ c, 0 ≤ c → c < n → hs o c ≤ 8
theorem M_gets {T : Mem} {o : Out} {b p : Int} (hA : ARm T o) (hn : T 1 2 ≤ 9) (h1 : 0 ≤ b) (h2 : b < T 1 2) (h3 : (o.length : Int) < 30) (h4 : hs o b < 8) : f_X8_gets T b p = some (gv T 0 11 5 7 8 9 b p) := by
  have a1 := hA.1
  have a2 := hA.2.1 b h1 h2
  have a3 := hs_nn o b
  unfold f_X8_gets
  rw [if_pos (by omega), if_pos (by omega)]
  dsimp only [wrk]
  have e1 : wr (wr T 7 (8 * b + T 5 b) p) 5 b (wr T 7 (8 * b + T 5 b) p 5 b + 1) 0 11 = T 0 11 := by
    rw [wr_cell (by decide), wr_cell (by decide)]
  have e2 : wr T 7 (8 * b + T 5 b) p 5 b = T 5 b := wr_cell (by decide)
  rw [e2] at e1 ⊢
  rw [e1, if_pos (by omega)]
  have e3 : wr (wr (wr T 7 (8 * b + T 5 b) p) 5 b (T 5 b + 1)) 8 (T 0 11) b 0 11 = T 0 11 := by
    rw [wr_cell (by decide), e1]
  rw [e3, if_pos (by omega)]
  have e4 : wr (wr (wr (wr T 7 (8 * b + T 5 b) p) 5 b (T 5 b + 1)) 8 (T 0 11) b) 9 (T 0 11) p 0 11 = T 0 11 := by
    rw [wr_cell (by decide), e3]
  rw [e4]
  rfl
theorem M_give {T : Mem} {o : Out} {b p : Int} (hA : ARm T o) (hn : T 1 2 ≤ 9) (h1 : 0 ≤ b) (h2 : b < T 1 2) (h3 : (o.length : Int) < 30) (h4 : hs o b < 8) (h8 : ∀ c, 0 ≤ c → c < T 1 2 → hs o c ≤ 8) : ∃ T', f_X8_gets T b p = some T' ∧ ARm T' (o ++ [(b, p)]) ∧ Frmm T T' := by
  have f := Frm_gv (S := T) (cf := 0) (ff := 11) (cu := 5) (cp := 7) (co := 8) (ca := 9) (b := b) (p := p) (by decide) (by decide) (by decide) (by decide)
  refine ⟨_, M_gets hA hn h1 h2 h3 h4, ?_, f⟩
  have e : gv T 0 11 5 7 8 9 b p 1 = T 1 := Frmm.row f
  unfold ARm
  rw [e]
  exact AR_gv hA (by decide) (by decide) (by decide) (by decide) (by decide) (by decide) (by decide) (by decide) (by decide) (by decide) h1 h2 h8 h4
theorem rep_app (o : Out) (b p : Int) (m : Nat) : o ++ List.replicate (m + 1) (b, p) = (o ++ List.replicate m (b, p)) ++ [(b, p)] := by
  rw [List.replicate_succ', List.append_assoc]
theorem hs_reps (o : Out) (b p c : Int) (m : Nat) : hs (o ++ List.replicate m (b, p)) c = if c = b then hs o b + m else hs o c := by
  rw [hs_app, hs_rep]
  by_cases h : c = b
  · subst h; rw [if_pos rfl, if_pos rfl]
  · rw [if_neg h, if_neg h]; omega
/-- one bidder clinches: up to its share -/
theorem M_clinch {T : Mem} {o : Out} {b p to : Int} (hA : ARm T o) (hn : T 1 2 ≤ 9) (h1 : 0 ≤ b) (h2 : b < T 1 2) (ht1 : -100000 ≤ to) (ht : to ≤ 8) (hL : ((cl o b to p).length : Int) ≤ 30) (h8 : ∀ c, 0 ≤ c → c < T 1 2 → hs o c ≤ 8) : ∃ T', lp (f_X8_shows_l26 p b to) FU T = some T' ∧ ARm T' (cl o b to p) ∧ Frmm T T' := by
  have hb := h8 b h1 h2
  have hb0 := hs_nn o b
  have hlen : (cl o b to p).length = o.length + (to - hs o b).toNat := by
    unfold cl
    rw [List.length_append, List.length_replicate]
  rw [hlen] at hL
  refine lp_rel (fun i t => ARm t (o ++ List.replicate i (b, p)) ∧ Frmm T t) (fun t => ARm t (cl o b to p) ∧ Frmm T t) (to - hs o b).toNat ?_ ?_ (by rw [FU_eq]; omega) ⟨by simpa using hA, Frm.rf⟩
  · intro i t hi ⟨hA', hF⟩
    have er := hF.row
    have e5 := hA'.2.1 b h1 (by rw [er]; exact h2)
    rw [hs_reps, if_pos rfl] at e5
    obtain ⟨t', g1, g2, g3⟩ := M_give (p := p) hA' (by rw [er]; exact hn) h1 (by rw [er]; exact h2) (by rw [List.length_append, List.length_replicate]; omega) (by rw [hs_reps, if_pos rfl]; omega) (fun c hc1 hc2 => by
      rw [hs_reps]
      rw [er] at hc2
      have := h8 c hc1 hc2
      by_cases hcb : c = b
      · rw [if_pos hcb]; omega
      · rw [if_neg hcb]; omega)
    refine ⟨t', ?_, ?_, hF.tr g3⟩
    · unfold f_X8_shows_l26
      rw [if_pos (by omega), e5, if_pos (ltb_t (by omega) (by omega) (by omega)), g1]
      rfl
    · rw [rep_app]; exact g2
  · intro t ⟨hA', hF⟩
    have er := hF.row
    have e5 := hA'.2.1 b h1 (by rw [er]; exact h2)
    rw [hs_reps, if_pos rfl] at e5
    refine ⟨t, ?_, hA', hF⟩
    unfold f_X8_shows_l26
    rw [if_pos (by omega), e5, if_neg (by rw [ltb_f (by omega) (by omega) (by omega)]; decide)]
theorem hs_shN_8 {N : Int} {B : Int → Int} {p : Int} {o : Out} (hw : WF N B) (h8 : ∀ c, 0 ≤ c → c < B 2 → hs o c ≤ 8) (k : Nat) : ∀ c, 0 ≤ c → c < B 2 → hs (shN B p o k) c ≤ 8 := by
  intro c h1 h2
  have a := h8 c h1 h2
  have g := abv_9 hw h1 h2 p
  rw [hs_shN]
  unfold tob
  by_cases h : 0 ≤ c ∧ c < (k : Int)
  · rw [if_pos h]; omega
  · rw [if_neg h]; omega
theorem M_shows {N : Int} {T : Mem} {o : Out} {p : Int} (hN : N ≤ 9) (hw : WF N (T 1)) (hA : ARm T o) (hp1 : -1 ≤ p) (hp2 : p ≤ 99) (hL : ((sh (T 1) p o).length : Int) ≤ 30) (h8 : ∀ c, 0 ≤ c → c < T 1 2 → hs o c ≤ 8) : ∃ T', f_X8_shows T p = some T' ∧ ARm T' (sh (T 1) p o) ∧ Frmm T T' := by
  have a2 := hw.2.2.2.2.2.1
  have a1 := hw.2.2.2.2.1
  obtain ⟨r, g1, g2⟩ := lp_rel (step := f_X8_shows_l2 p) (fun i (t : Int × Mem) => t.1 = i ∧ ARm t.2 (shN (T 1) p o i) ∧ Frmm T t.2) (fun t => ARm t (sh (T 1) p o) ∧ Frmm T t) (T 1 2).toNat (by
      intro i t hi ⟨e0, hA', hF⟩
      have er := hF.row
      obtain ⟨t1, t2⟩ := t
      dsimp only at e0 hA' hF er ⊢
      subst e0
      have hw' : WF N (t2 1) := by rw [er]; exact hw
      have h81 := hs_shN_8 (p := p) hw h8 i
      have g := abv_9 hw (b := i) (by omega) (by omega) p
      have gb : 0 ≤ bfree (T 1) i p ∧ bfree (T 1) i p ≤ 200 := by
        have := bW_bnd hN hw p
        have := hw.1
        have := hw.2.1
        unfold bfree
        omega
      obtain ⟨t', g1, g2, g3⟩ := M_clinch (p := p) (to := tob (T 1) i p) hA' (by rw [er]; omega) (b := i) (by omega) (by rw [er]; omega) (by unfold tob; omega) (by unfold tob; omega) (by
        have h1 := len_shN (T 1) p o (i + 1) ((T 1 2).toNat - (i + 1))
        rw [show i + 1 + ((T 1 2).toNat - (i + 1)) = (T 1 2).toNat by omega] at h1
        have h2 : (cl (shN (T 1) p o i) i (tob (T 1) i p) p) = shN (T 1) p o (i + 1) := rfl
        rw [h2]
        unfold sh at hL
        omega) (by rw [er]; exact h81)
      refine ⟨((i : Int) + 1, t'), ?_, by dsimp only; omega, g2, hF.tr g3⟩
      unfold f_X8_shows_l2
      dsimp only
      rw [M_many]
      simp only [Option.bind_some]
      rw [er, if_pos (ltb_t (by omega) (by omega) (by omega)), M_aboveOf hN hw' (by omega) (by rw [er]; omega) hp1 hp2]
      simp only [Option.bind_some]
      rw [M_freeOf hN hw' (by omega) (by rw [er]; omega) hp1 hp2]
      simp only [Option.bind_some]
      rw [er, M_less (by omega) (by omega) (by omega) (by omega)]
      simp only [Option.bind_some]
      rw [show min (abv (T 1) i p) (bfree (T 1) i p) = tob (T 1) i p from rfl, g1]
      rfl) (by
      intro t ⟨e0, hA', hF⟩
      have er := hF.row
      obtain ⟨t1, t2⟩ := t
      dsimp only at e0 hA' hF er ⊢
      subst e0
      refine ⟨t2, ?_, hA', hF⟩
      unfold f_X8_shows_l2
      dsimp only
      rw [M_many]
      simp only [Option.bind_some]
      rw [er, if_neg (by rw [ltb_f (by omega) (by omega) (by omega)]; decide)]) (n := FU) (by rw [FU_eq]; omega) (s := (0, T)) ⟨rfl, hA, Frm.rf⟩
  refine ⟨r, ?_, g2⟩
  unfold f_X8_shows
  rw [g1]
  rfl
/-! ===== the rounds ===== -/
theorem hs_rdS (B : Int → Int) (e b c : Int) (o : Out) : hs (rdS B e b o) c = if c = b ∧ ((o.length : Nat) : Int) < B 0 ∧ hs o b < abv B b (e - 1) then hs o c + 1 else hs o c := by
  unfold rdS
  by_cases h : ((o.length : Nat) : Int) < B 0 ∧ hs o b < abv B b (e - 1)
  · rw [if_pos h, hs_app, hs_one]
    by_cases g : c = b
    · rw [if_pos g, if_pos ⟨g, h⟩]
    · rw [if_neg g, if_neg (fun z => g z.1)]; omega
  · rw [if_neg h, if_neg (fun z => h z.2)]
theorem len_rdS (B : Int → Int) (e b : Int) (o : Out) : ((rdS B e b o).length : Int) = if ((o.length : Nat) : Int) < B 0 ∧ hs o b < abv B b (e - 1) then (o.length : Int) + 1 else (o.length : Int) := by
  unfold rdS
  by_cases h : ((o.length : Nat) : Int) < B 0 ∧ hs o b < abv B b (e - 1)
  · rw [if_pos h, if_pos h, List.length_append]; rfl
  · rw [if_neg h, if_neg h]
theorem len_rdN_le {B : Int → Int} {e : Int} {o : Out} (h : (o.length : Int) ≤ B 0) : ∀ k, ((rdN B e o k).length : Int) ≤ B 0 ∧ (o.length : Int) ≤ ((rdN B e o k).length : Int)
  | 0 => ⟨h, Int.le_refl _⟩
  | k + 1 => by
    have ih := len_rdN_le (e := e) h k
    unfold rdN
    rw [len_rdS]
    split <;> omega
theorem hs_rdN_bnd {N : Int} {B : Int → Int} {e : Int} {o : Out} (hw : WF N B) {c : Int} (h1 : 0 ≤ c) (h2 : c < B 2) (h : hs o c ≤ bused B c) : ∀ k, hs (rdN B e o k) c ≤ bused B c ∧ hs o c ≤ hs (rdN B e o k) c
  | 0 => ⟨h, Int.le_refl _⟩
  | k + 1 => by
    have ih := hs_rdN_bnd (e := e) hw h1 h2 h k
    have a := bused_bnd hw h1 h2
    have g := abv_bnd (p := e - 1) a.1
    unfold rdN
    rw [hs_rdS]
    split
    · next hh =>
      have e1 := hh.2.2
      rw [← hh.1] at e1
      omega
    · exact ih
theorem Owd_rdS {n : Int} {B : Int → Int} {e b : Int} {o : Out} (h : Owd n o) (h1 : 0 ≤ b) (h2 : b < n) : Owd n (rdS B e b o) := by
  unfold rdS
  split
  · exact Owd_app h h1 h2
  · exact h
theorem Owd_rdN {n : Int} {B : Int → Int} {e : Int} {o : Out} (h : Owd n o) : ∀ k : Nat, (k : Int) ≤ n → Owd n (rdN B e o k)
  | 0, _ => h
  | k + 1, hk => Owd_rdS (Owd_rdN h k (by omega)) (by omega) (by omega)
theorem Owd_rds {B : Int → Int} {e : Int} {o : Out} (h0 : 0 ≤ B 2) (h : Owd (B 2) o) : ∀ k, Owd (B 2) (rds B e o k)
  | 0 => h
  | k + 1 => Owd_rdN (Owd_rds h0 h k) _ (by omega)
theorem len_rds_le {B : Int → Int} {e : Int} {o : Out} (h : (o.length : Int) ≤ B 0) : ∀ k, ((rds B e o k).length : Int) ≤ B 0 ∧ (o.length : Int) ≤ ((rds B e o k).length : Int)
  | 0 => ⟨h, Int.le_refl _⟩
  | k + 1 => by
    have ih := len_rds_le (e := e) h k
    have g := len_rdN_le (e := e) ih.1 (B 2).toNat
    unfold rds rd
    omega
theorem hs_rds_bnd {N : Int} {B : Int → Int} {e : Int} {o : Out} (hw : WF N B) {c : Int} (h1 : 0 ≤ c) (h2 : c < B 2) (h : hs o c ≤ bused B c) : ∀ k, hs (rds B e o k) c ≤ bused B c ∧ hs o c ≤ hs (rds B e o k) c
  | 0 => ⟨h, Int.le_refl _⟩
  | k + 1 => by
    have ih := hs_rds_bnd (e := e) hw h1 h2 h k
    have g := hs_rdN_bnd (e := e) hw h1 h2 ih.1 (B 2).toNat
    unfold rds rd
    omega
/-- nothing comes in a round: the row stays -/
def Still (B : Int → Int) (e : Int) (o : Out) : Prop := B 0 ≤ (o.length : Int) ∨ ∀ c, 0 ≤ c → c < B 2 → abv B c (e - 1) ≤ hs o c
theorem rdN_still {B : Int → Int} {e : Int} {o : Out} (h : Still B e o) : ∀ k : Nat, (k : Int) ≤ B 2 → rdN B e o k = o
  | 0, _ => rfl
  | k + 1, hk => by
    unfold rdN
    rw [rdN_still h k (by omega)]
    unfold rdS
    rw [if_neg]
    rcases h with h | h
    · omega
    · have := h k (by omega) (by omega)
      omega
theorem rd_still {B : Int → Int} {e : Int} {o : Out} (h0 : 0 ≤ B 2) (h : Still B e o) : rd B e o = o := rdN_still h _ (by omega)
theorem rdN_grow {B : Int → Int} {e : Int} {o : Out} (hl : (o.length : Int) ≤ B 0) : ∀ k : Nat, (k : Int) ≤ B 2 → ((rdN B e o k).length : Int) < B 0 → ∀ c, 0 ≤ c → c < (k : Int) → min (hs o c + 1) (abv B c (e - 1)) ≤ hs (rdN B e o k) c
  | 0, _, _ => fun c h1 h2 => by omega
  | k + 1, hk, hL => by
    intro c h1 h2
    have g := len_rdN_le (e := e) hl k
    have hL' : ((rdN B e o k).length : Int) < B 0 := by
      unfold rdN at hL
      rw [len_rdS] at hL
      split at hL <;> omega
    have ih := rdN_grow hl k (by omega) hL'
    unfold rdN
    rw [hs_rdS]
    by_cases hc : c = k
    · subst hc
      by_cases hh : hs (rdN B e o k) k < abv B k (e - 1)
      · rw [if_pos ⟨rfl, hL', hh⟩]
        have hmono : ∀ j, hs o (k : Int) ≤ hs (rdN B e o j) (k : Int) := by
          intro j
          induction j with
          | zero => exact Int.le_refl _
          | succ j ihj =>
            unfold rdN
            rw [hs_rdS]
            split <;> omega
        have := hmono k
        omega
      · rw [if_neg (fun z => hh z.2.2)]
        omega
    · have := ih c h1 (by omega)
      split <;> omega
theorem rds_grow {N : Int} {B : Int → Int} {e : Int} {o : Out} (hw : WF N B) (hl : (o.length : Int) ≤ B 0) : ∀ k : Nat, ((rds B e o k).length : Int) < B 0 → ∀ c, 0 ≤ c → c < B 2 → min (k : Int) (abv B c (e - 1)) ≤ hs (rds B e o k) c
  | 0, _ => fun c h1 h2 => by
    have := hs_nn (rds B e o 0) c
    have g := abv_9 hw h1 h2 (e - 1)
    omega
  | k + 1, hL => by
    intro c h1 h2
    have a1 := hw.2.2.2.2.1
    have g := len_rds_le (e := e) hl k
    have g2 := len_rdN_le (e := e) g.1 (B 2).toNat
    have hL' : ((rds B e o k).length : Int) < B 0 := by
      unfold rds rd at hL
      omega
    have ih := rds_grow hw hl k hL' c h1 h2
    have := rdN_grow (e := e) g.1 (B 2).toNat (by omega) (by unfold rds rd at hL; exact hL) c h1 (by omega)
    unfold rds rd
    omega
theorem rds_still8 {N : Int} {B : Int → Int} {e : Int} {o : Out} (hw : WF N B) (hl : (o.length : Int) ≤ B 0) : Still B e (rds B e o 8) := by
  by_cases h : ((rds B e o 8).length : Int) < B 0
  · right
    intro c h1 h2
    have := rds_grow (e := e) hw hl 8 h c h1 h2
    have g := abv_9 hw h1 h2 (e - 1)
    have e8 : ((8 : Nat) : Int) = 8 := rfl
    rw [e8] at this
    omega
  · left; omega
theorem rds_stop {B : Int → Int} {e : Int} {o : Out} (h0 : 0 ≤ B 2) {k : Nat} (h : Still B e (rds B e o k)) : ∀ j, rds B e o (k + j) = rds B e o k
  | 0 => rfl
  | j + 1 => by
    have ih := rds_stop h0 h j
    show rd B e (rds B e o (k + j)) = _
    rw [ih, rd_still h0 h]
/-- a round adds nothing only where it is still -/
theorem still_of_same {B : Int → Int} {e : Int} {o : Out} (hl : (o.length : Int) ≤ B 0) (h : ((rd B e o).length : Int) = (o.length : Int)) (h0 : 0 ≤ B 2) : Still B e o := by
  by_cases hf : (o.length : Int) < B 0
  · right
    intro c h1 h2
    have key : ∀ k : Nat, (k : Int) ≤ B 2 → ((rdN B e o k).length : Int) = (o.length : Int) → rdN B e o k = o ∧ ∀ c, 0 ≤ c → c < (k : Int) → abv B c (e - 1) ≤ hs o c := by
      intro k
      induction k with
      | zero => intro _ _; exact ⟨rfl, fun c h1 h2 => by omega⟩
      | succ k ih =>
        intro hk hL
        have g := len_rdN_le (e := e) hl k
        unfold rdN at hL
        rw [len_rdS] at hL
        by_cases hc : ((rdN B e o k).length : Int) < B 0 ∧ hs (rdN B e o k) k < abv B k (e - 1)
        · rw [if_pos hc] at hL
          omega
        · rw [if_neg hc] at hL
          obtain ⟨i1, i2⟩ := ih (by omega) hL
          rw [i1] at hc
          refine ⟨?_, fun c h1 h2 => ?_⟩
          · unfold rdN rdS
            rw [i1, if_neg hc]
          · by_cases hck : c = k
            · subst hck; omega
            · exact i2 c h1 (by omega)
    exact (key (B 2).toNat (by omega) h).2 c h1 (by omega)
  · left; omega
