/-! ===== sums over bidders and values ===== -/
theorem lp_sum {step : Int × Int → Option ((Int × Int) ⊕ Int)} (g : Int → Int) (N : Nat) (hs : ∀ (a : Int) (i : Nat), i < N → step (a, (i : Int)) = some (.inl (a + g i, (i : Int) + 1))) (he : ∀ a : Int, step (a, (N : Int)) = some (.inr a)) (hN : N < 5000) : lp step FU (0, 0) = some (sumN g N) := by
  have := lp_seq (step := step) (fun i => (sumN g i, (i : Int))) N (sumN g N) (fun i hi => hs _ i hi) (he _) (n := FU) (by rw [FU_eq]; exact hN)
  exact this
theorem lp_rel {σ ρ : Type} {step : σ → Option (σ ⊕ ρ)} (I : Nat → σ → Prop) (P : ρ → Prop) (N : Nat) (hs : ∀ i s, i < N → I i s → ∃ s', step s = some (.inl s') ∧ I (i + 1) s') (he : ∀ s, I N s → ∃ r, step s = some (.inr r) ∧ P r) {n : Nat} (hn : N < n) {s : σ} (h0 : I 0 s) : ∃ r, lp step n s = some r ∧ P r := by
  have key : ∀ (j i n : Nat) (s : σ), i + j = N → j < n → I i s → ∃ r, lp step n s = some r ∧ P r := by
    intro j
    induction j with
    | zero =>
      intro i n s hi hn hI
      cases n with
      | zero => omega
      | succ n =>
        have : i = N := by omega
        subst this
        obtain ⟨r, a, b⟩ := he s hI
        refine ⟨r, ?_, b⟩
        unfold lp
        rw [a]
    | succ j ih =>
      intro i n s hi hn hI
      cases n with
      | zero => omega
      | succ n =>
        obtain ⟨s', a, b⟩ := hs i s (by omega) hI
        obtain ⟨r, c, d⟩ := ih (i + 1) n s' (by omega) (by omega) b
        refine ⟨r, ?_, d⟩
        unfold lp
        rw [a]
        exact c
  exact key N 0 n s (by omega) hn h0
theorem bW_bnd {N : Int} {B : Int → Int} (hN : N ≤ 9) (hw : WF N B) (p : Int) : 0 ≤ bW B p ∧ bW B p ≤ 72 := by
  have a2 := hw.2.2.2.2.2.1
  have a1 := hw.2.2.2.2.1
  have := sumN_bnd (g := fun b => abv B b p) (lo := 0) (hi := 8) (B 2).toNat (fun i hi => by
    have h := bused_bnd hw (b := i) (by omega) (by omega)
    have h2 := abv_bnd (p := p) h.1
    omega)
  unfold bW
  omega
theorem C_wantsOfAll {N : Int} {B : Int → Int} {S : Mem} {q : Nat} {p : Int} (hN : N ≤ 9) (hw : WF N B) (hR : RB S q B) (hp1 : -1 ≤ p) (hp2 : p ≤ 99) : f_X1_wantsOfAll S q p = some (bW B p) := by
  have a2 := hw.2.2.2.2.2.1
  have a1 := hw.2.2.2.2.1
  unfold f_X1_wantsOfAll
  rw [lp_sum (fun b => abv B b p) (B 2).toNat (fun a i hi => by
      unfold f_X1_wantsOfAll_l4
      dsimp only
      rw [hR.2.2.1, if_pos (ltb_t (by omega) (by omega) (by omega)), C_wantsOf hN hw hR (by omega) (by omega) hp1 hp2]
      rfl) (fun a => by
      unfold f_X1_wantsOfAll_l4
      dsimp only
      rw [hR.2.2.1, if_neg (by rw [ltb_f (by omega) (by omega) (by omega)]; decide)]) (by omega)]
  rfl
theorem M_wantedAt {N : Int} {T : Mem} {p : Int} (hN : N ≤ 9) (hw : WF N (T 1)) (hp1 : -1 ≤ p) (hp2 : p ≤ 99) : f_X8_wantedAt T p = some (bW (T 1) p) := by
  have a2 := hw.2.2.2.2.2.1
  have a1 := hw.2.2.2.2.1
  unfold f_X8_wantedAt
  rw [lp_sum (fun b => abv (T 1) b p) (T 1 2).toNat (fun a i hi => by
      unfold f_X8_wantedAt_l4
      dsimp only
      rw [M_many]
      simp only [Option.bind_some]
      rw [if_pos (ltb_t (by omega) (by omega) (by omega)), M_aboveOf hN hw (by omega) (by omega) hp1 hp2]
      rfl) (fun a => by
      unfold f_X8_wantedAt_l4
      dsimp only
      rw [M_many]
      simp only [Option.bind_some]
      rw [if_neg (by rw [ltb_f (by omega) (by omega) (by omega)]; decide)]) (by omega)]
  rfl
def bfree (B : Int → Int) (b p : Int) : Int := max 0 (B 0 - bW B p + abv B b p)
theorem abv_9 {N : Int} {B : Int → Int} {b : Int} (hw : WF N B) (h1 : 0 ≤ b) (h2 : b < B 2) (p : Int) : 0 ≤ abv B b p ∧ abv B b p ≤ 8 := by
  have a := bused_bnd hw h1 h2
  have b := abv_bnd (p := p) a.1
  omega
theorem C_freeFor {N : Int} {B : Int → Int} {S : Mem} {q : Nat} {b p : Int} (hN : N ≤ 9) (hw : WF N B) (hR : RB S q B) (h1 : 0 ≤ b) (h2 : b < B 2) (hp1 : -1 ≤ p) (hp2 : p ≤ 99) : f_X1_freeFor S q b p = some (bfree B b p) := by
  have a := bW_bnd hN hw p
  have a3 := abv_9 hw h1 h2 p
  have a4 := hw.1
  have a5 := hw.2.1
  unfold f_X1_freeFor
  rw [C_wantsOfAll hN hw hR hp1 hp2]
  simp only [Option.bind_some]
  rw [C_wantsOf hN hw hR h1 h2 hp1 hp2]
  simp only [Option.bind_some]
  rw [hR.1, mxb_le (by omega) (by omega) (by omega) (by omega)]
  unfold bfree
  congr 1
  omega
theorem M_freeOf {N : Int} {T : Mem} {b p : Int} (hN : N ≤ 9) (hw : WF N (T 1)) (h1 : 0 ≤ b) (h2 : b < T 1 2) (hp1 : -1 ≤ p) (hp2 : p ≤ 99) : f_X8_freeOf T b p = some (bfree (T 1) b p) := by
  have a := bW_bnd hN hw p
  have a3 := abv_9 hw h1 h2 p
  have a4 := hw.1
  have a5 := hw.2.1
  unfold f_X8_freeOf
  rw [if_pos (by omega), M_wantedAt hN hw hp1 hp2]
  simp only [Option.bind_some]
  rw [M_aboveOf hN hw h1 h2 hp1 hp2]
  simp only [Option.bind_some]
  unfold bfree
  by_cases h : T 1 0 - bW (T 1) p + abv (T 1) b p < 0
  · rw [if_pos (ltb_t h (by omega) (by omega))]
    congr 1; omega
  · rw [if_neg (by rw [ltb_f (by omega) (by omega) (by omega)]; decide)]
    congr 1; omega
/-- the first values of a bidder together -/
def bsum (B : Int → Int) (b n : Int) : Int := sumN (fun i => bval B b i) n.toNat
theorem bsum_bnd {N : Int} {B : Int → Int} {b n : Int} (hw : WF N B) (h1 : 0 ≤ b) (h2 : b < B 2) (h3 : 0 ≤ n) (h4 : n ≤ bcnt B b) : 0 ≤ bsum B b n ∧ bsum B b n ≤ 792 := by
  have a := hw.2.2.2.2.2.2.1 b h1 h2
  have := sumN_bnd (g := fun i => bval B b i) (lo := 0) (hi := 99) n.toNat (fun i hi => hw.2.2.2.2.2.2.2.1 b i h1 h2 (by omega) (by omega))
  unfold bsum
  omega
theorem C_sumOfFirst {N : Int} {B : Int → Int} {S : Mem} {q : Nat} {b n : Int} (hN : N ≤ 9) (hw : WF N B) (hR : RB S q B) (h1 : 0 ≤ b) (h2 : b < B 2) (h3 : 0 ≤ n) (h4 : n ≤ bcnt B b) : f_X1_sumOfFirst S q b n = some (bsum B b n) := by
  have a := hw.2.2.2.2.2.2.1 b h1 h2
  have a2 := hw.2.2.2.2.2.1
  unfold f_X1_sumOfFirst
  rw [lp_sum (fun i => bval B b i) n.toNat (fun x i hi => by
      unfold f_X1_sumOfFirst_l5
      dsimp only
      rw [if_pos (ltb_t (by omega) (by omega) (by omega)), if_pos (by omega), hR.2.2.2.2.1 b h1 h2, if_pos (ltb_t (by omega) (by omega) (by omega)), C_valueAt hN hw hR h1 h2 (by omega) (by omega)]
      rfl) (fun x => by
      unfold f_X1_sumOfFirst_l5
      dsimp only
      rw [if_neg (by rw [ltb_f (by omega) (by omega) (by omega)]; decide)]) (by omega)]
  rfl
theorem M_firstOf {N : Int} {T : Mem} {b n : Int} (hN : N ≤ 9) (hw : WF N (T 1)) (h1 : 0 ≤ b) (h2 : b < T 1 2) (h3 : 0 ≤ n) (h4 : n ≤ bcnt (T 1) b) : f_X8_firstOf T b n = some (bsum (T 1) b n) := by
  have a := hw.2.2.2.2.2.2.1 b h1 h2
  have a2 := hw.2.2.2.2.2.1
  unfold f_X8_firstOf
  rw [lp_sum (fun i => bval (T 1) b i) n.toNat (fun x i hi => by
      unfold f_X8_firstOf_l5
      dsimp only
      rw [if_pos (ltb_t (by omega) (by omega) (by omega)), M_valueAt h1 (by omega) (by omega) (by omega)]
      rfl) (fun x => by
      unfold f_X8_firstOf_l5
      dsimp only
      rw [if_neg (by rw [ltb_f (by omega) (by omega) (by omega)]; decide)]) (by omega)]
  rfl
