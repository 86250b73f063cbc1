/-! ===== sums, leading runs, loops ===== -/
def sumN (g : Int → Int) : Nat → Int
  | 0 => 0
  | n + 1 => sumN g n + g n
def ledN (P : Int → Bool) : Nat → Nat
  | 0 => 0
  | n + 1 => if ledN P n = n ∧ P n = true then n + 1 else ledN P n
theorem ledN_le (P : Int → Bool) : ∀ n, ledN P n ≤ n
  | 0 => Nat.le_refl _
  | n + 1 => by
    have := ledN_le P n
    unfold ledN
    split <;> omega
theorem ledN_lt (P : Int → Bool) : ∀ n (i : Nat), i < ledN P n → P i = true
  | 0, i, h => absurd h (Nat.not_lt_zero _)
  | n + 1, i, h => by
    unfold ledN at h
    split at h
    · next hc =>
      by_cases hi : i = n
      · rw [hi]; exact hc.2
      · exact ledN_lt P n i (by omega)
    · exact ledN_lt P n i h
theorem ledN_stop (P : Int → Bool) : ∀ n, ledN P n < n → P (ledN P n) = false
  | 0, h => absurd h (Nat.not_lt_zero _)
  | n + 1, h => by
    have hle := ledN_le P n
    unfold ledN at h ⊢
    split at h
    · omega
    · next hc =>
      rw [if_neg hc]
      by_cases hn : ledN P n = n
      · rw [hn]
        cases hp : P n with
        | false => rfl
        | true => exact absurd ⟨hn, hp⟩ hc
      · exact ledN_stop P n (by omega)
theorem ledN_uniq {P : Int → Bool} {n k : Nat} (h1 : k ≤ n) (h2 : ∀ i : Nat, i < k → P i = true) (h3 : k = n ∨ P k = false) : ledN P n = k := by
  have a := ledN_le P n
  rcases Nat.lt_trichotomy (ledN P n) k with h | h | h
  · have := ledN_stop P n (by omega)
    rw [h2 _ h] at this
    cases this
  · exact h
  · rcases h3 with h3 | h3
    · omega
    · have := ledN_lt P n k h
      rw [h3] at this
      cases this
theorem ledN_min {P : Int → Bool} {m n : Nat} : ledN P (min m n) = min m (ledN P n) := by
  apply ledN_uniq
  · have := ledN_le P n
    omega
  · intro i hi
    exact ledN_lt P n i (by omega)
  · by_cases h : ledN P n < n
    · by_cases h2 : m ≤ ledN P n
      · left; omega
      · right
        have := ledN_stop P n h
        rw [show min m (ledN P n) = ledN P n by omega]
        exact this
    · left
      have := ledN_le P n
      omega
theorem sumN_congr {g h : Int → Int} : ∀ n : Nat, (∀ i : Nat, i < n → g i = h i) → sumN g n = sumN h n
  | 0, _ => rfl
  | n + 1, hh => by
    unfold sumN
    rw [sumN_congr n (fun i hi => hh i (by omega)), hh n (by omega)]
theorem sumN_bnd {g : Int → Int} {lo hi : Int} : ∀ n : Nat, (∀ i : Nat, i < n → lo ≤ g i ∧ g i ≤ hi) → lo * n ≤ sumN g n ∧ sumN g n ≤ hi * n
  | 0, _ => by simp [sumN]
  | n + 1, hh => by
    have a := sumN_bnd n (fun i hi => hh i (by omega))
    have b := hh n (by omega)
    unfold sumN
    have e1 : lo * ((n + 1 : Nat) : Int) = lo * n + lo := by rw [Int.natCast_add]; simp [Int.mul_add]
    have e2 : hi * ((n + 1 : Nat) : Int) = hi * n + hi := by rw [Int.natCast_add]; simp [Int.mul_add]
    omega
theorem lp_seq {σ ρ : Type} {step : σ → Option (σ ⊕ ρ)} (F : Nat → σ) (N : Nat) (R : ρ) (hs : ∀ i, i < N → step (F i) = some (.inl (F (i + 1)))) (he : step (F N) = some (.inr R)) {n : Nat} (hn : N < n) : lp step n (F 0) = some R := by
  have key : ∀ (j i n : Nat), i + j = N → j < n → lp step n (F i) = some R := by
    intro j
    induction j with
    | zero =>
      intro i n hi hn
      cases n with
      | zero => omega
      | succ n =>
        have : i = N := by omega
        subst this
        unfold lp
        rw [he]
    | succ j ih =>
      intro i n hi hn
      cases n with
      | zero => omega
      | succ n =>
        unfold lp
        rw [hs i (by omega)]
        exact ih (i + 1) n (by omega) (by omega)
  exact key N 0 n (by omega) hn
theorem lp_inv {σ ρ : Type} {step : σ → Option (σ ⊕ ρ)} (I : σ → Prop) (μ : σ → Nat) (P : ρ → Prop) (h : ∀ s, I s → (∃ s', step s = some (.inl s') ∧ I s' ∧ μ s' < μ s) ∨ (∃ r, step s = some (.inr r) ∧ P r)) : ∀ (n : Nat) (s : σ), I s → μ s < n → ∃ r, lp step n s = some r ∧ P r := by
  intro n
  induction n with
  | zero => intro s _ h; omega
  | succ n ih =>
    intro s hI hm
    rcases h s hI with ⟨s', h1, h2, h3⟩ | ⟨r, h1, h2⟩
    · obtain ⟨r, a, b⟩ := ih s' h2 (by omega)
      refine ⟨r, ?_, b⟩
      unfold lp
      rw [h1]
      exact a
    · refine ⟨r, ?_, h2⟩
      unfold lp
      rw [h1]
theorem FU_eq : FU = 5000 := rfl
theorem ltb_t {x y : Int} (h : x < y) (h1 : -2147483648 ≤ x) (h2 : y < 2147483648) : ltb x y = true := by
  rw [ltb_lt (by omega) (by omega) (by omega) (by omega)]
  simpa using h
theorem ltb_f {x y : Int} (h : y ≤ x) (h1 : -2147483648 ≤ y) (h2 : x < 2147483648) : ltb x y = false := by
  rw [ltb_lt (by omega) (by omega) (by omega) (by omega)]
  simpa using h
theorem eqb_t {x y : Int} (h : x = y) : eqb x y = true := by
  subst h
  simp [eqb]
theorem eqb_f {x y : Int} (h : x ≠ y) (h1 : -2147483648 ≤ x) (h2 : x < 2147483648) (h3 : -2147483648 ≤ y) (h4 : y < 2147483648) : eqb x y = false := by
  rw [eqb_eq h1 h2 h3 h4]
  simpa using h
theorem gd_t {α : Type} {P : Prop} [Decidable P] {k : Option α} (h : P) : (if P then k else none) = k := if_pos h
theorem mnb_le {x y : Int} (h1 : -2147483648 ≤ x) (h2 : x < 2147483648) (h3 : -2147483648 ≤ y) (h4 : y < 2147483648) : mnb x y = min x y := by
  unfold mnb
  rw [ltb_lt h3 h4 h1 h2]
  by_cases h : y < x
  · simp only [h, decide_true, if_true]; omega
  · simp only [h, decide_false]
    rw [if_neg (by decide)]; omega
theorem mxb_le {x y : Int} (h1 : -2147483648 ≤ x) (h2 : x < 2147483648) (h3 : -2147483648 ≤ y) (h4 : y < 2147483648) : mxb x y = max x y := by
  unfold mxb
  rw [ltb_lt h1 h2 h3 h4]
  by_cases h : x < y
  · simp only [h, decide_true, if_true]; omega
  · simp only [h, decide_false]
    rw [if_neg (by decide)]; omega
/-! ===== a row of numbers: supply, reserve, how many bidders, bidders (cap, how many values, values) ===== -/
def bcap (B : Int → Int) (b : Int) : Int := B (3 + 10 * b)
def bcnt (B : Int → Int) (b : Int) : Int := B (3 + 10 * b + 1)
def bval (B : Int → Int) (b i : Int) : Int := B (3 + 10 * b + 2 + i)
def WF (N : Int) (B : Int → Int) : Prop := 1 ≤ B 0 ∧ B 0 ≤ 30 ∧ 0 ≤ B 1 ∧ B 1 ≤ 99 ∧ 0 ≤ B 2 ∧ B 2 ≤ N ∧ (∀ b, 0 ≤ b → b < B 2 → 0 ≤ bcap B b ∧ bcap B b ≤ 8 ∧ 0 ≤ bcnt B b ∧ bcnt B b ≤ 8) ∧ (∀ b i, 0 ≤ b → b < B 2 → 0 ≤ i → i < bcnt B b → 0 ≤ bval B b i ∧ bval B b i ≤ 99) ∧ ∀ b i, 0 ≤ b → b < B 2 → 0 ≤ i → i + 1 < bcnt B b → bval B b (i + 1) ≤ bval B b i
/-- the book at a cell holds the row's supply, reserve, bidders -/
def RB (S : Mem) (q : Nat) (B : Int → Int) : Prop := S q 0 = B 0 ∧ S q 1 = B 1 ∧ S q 2 = B 2 ∧ (∀ b, 0 ≤ b → b < B 2 → S (q + 2) b = bcap B b) ∧ (∀ b, 0 ≤ b → b < B 2 → S (q + 1) b = bcnt B b) ∧ ∀ b i, 0 ≤ b → b < B 2 → 0 ≤ i → i < bcnt B b → S (q + 3) (b * 8 + i) = bval B b i
def bused (B : Int → Int) (b : Int) : Int := min (bcap B b) (bcnt B b)
/-- values above a price, as far as the cap goes -/
def abv (B : Int → Int) (b p : Int) : Int := (ledN (fun i => decide (p < bval B b i)) (bused B b).toNat : Nat)
def bW (B : Int → Int) (p : Int) : Int := sumN (fun b => abv B b p) (B 2).toNat
theorem abv_bnd {B : Int → Int} {b p : Int} (h : 0 ≤ bused B b) : 0 ≤ abv B b p ∧ abv B b p ≤ bused B b := by
  have := ledN_le (fun i => decide (p < bval B b i)) (bused B b).toNat
  unfold abv
  omega
theorem bused_bnd {N : Int} {B : Int → Int} {b : Int} (hw : WF N B) (h1 : 0 ≤ b) (h2 : b < B 2) : 0 ≤ bused B b ∧ bused B b ≤ 8 ∧ bused B b ≤ bcap B b ∧ bused B b ≤ bcnt B b := by
  have := hw.2.2.2.2.2.2.1 b h1 h2
  unfold bused
  omega
theorem C_valueAt {N : Int} {B : Int → Int} {S : Mem} {q : Nat} {b i : Int} (hN : N ≤ 9) (hw : WF N B) (hR : RB S q B) (h1 : 0 ≤ b) (h2 : b < B 2) (h3 : 0 ≤ i) (h4 : i < bcnt B b) : f_X1_valueAt S q b i = some (bval B b i) := by
  have a := hw.2.2.2.2.2.2.1 b h1 h2
  have a2 := hw.2.2.2.2.2.1
  unfold f_X1_valueAt
  rw [if_pos (by omega), hR.2.2.2.2.2 b i h1 h2 h3 h4]
theorem C_valuesAbove {N : Int} {B : Int → Int} {S : Mem} {q : Nat} {b p : Int} (hN : N ≤ 9) (hw : WF N B) (hR : RB S q B) (h1 : 0 ≤ b) (h2 : b < B 2) (hp1 : -1 ≤ p) (hp2 : p ≤ 99) : f_X1_valuesAbove S q b p = some (ledN (fun i => decide (p < bval B b i)) (bcnt B b).toNat : Nat) := by
  have a := hw.2.2.2.2.2.2.1 b h1 h2
  have a2 := hw.2.2.2.2.2.1
  have hc := hR.2.2.2.2.1 b h1 h2
  have hle := ledN_le (fun i => decide (p < bval B b i)) (bcnt B b).toNat
  unfold f_X1_valuesAbove
  have := lp_seq (step := f_X1_valuesAbove_l2 S q b p) (fun n => (n : Int)) (ledN (fun i => decide (p < bval B b i)) (bcnt B b).toNat) (ledN (fun i => decide (p < bval B b i)) (bcnt B b).toNat : Nat) (fun i hi => by
      have hv := ledN_lt _ _ i hi
      simp only [decide_eq_true_eq] at hv
      have hb := hw.2.2.2.2.2.2.2.1 b i h1 h2 (by omega) (by omega)
      unfold f_X1_valuesAbove_l2
      rw [if_pos (by omega), hc, if_pos (ltb_t (by omega) (by omega) (by omega)), C_valueAt hN hw hR h1 h2 (by omega) (by omega)]
      simp only [Option.bind_some]
      rw [if_pos (ltb_t hv (by omega) (by omega))]
      rfl) (by
      unfold f_X1_valuesAbove_l2
      rw [if_pos (by omega), hc]
      by_cases hl : ledN (fun i => decide (p < bval B b i)) (bcnt B b).toNat < (bcnt B b).toNat
      · have hs := ledN_stop _ _ hl
        simp only [decide_eq_false_iff_not] at hs
        have hb := hw.2.2.2.2.2.2.2.1 b (ledN (fun i => decide (p < bval B b i)) (bcnt B b).toNat : Nat) h1 h2 (by omega) (by omega)
        rw [if_pos (ltb_t (by omega) (by omega) (by omega)), C_valueAt hN hw hR h1 h2 (by omega) (by omega)]
        simp only [Option.bind_some]
        rw [if_neg (by rw [ltb_f (by omega) (by omega) (by omega)]; decide)]
      · rw [if_neg (by rw [ltb_f (by omega) (by omega) (by omega)]; decide)]) (n := FU) (by rw [FU_eq]; omega)
  rw [show ((0 : Nat) : Int) = 0 from rfl] at this
  rw [this]
  rfl
theorem C_wantsOf {N : Int} {B : Int → Int} {S : Mem} {q : Nat} {b p : Int} (hN : N ≤ 9) (hw : WF N B) (hR : RB S q B) (h1 : 0 ≤ b) (h2 : b < B 2) (hp1 : -1 ≤ p) (hp2 : p ≤ 99) : f_X1_wantsOf S q b p = some (abv B b p) := by
  have a := hw.2.2.2.2.2.2.1 b h1 h2
  have a2 := hw.2.2.2.2.2.1
  have hle := ledN_le (fun i => decide (p < bval B b i)) (bcnt B b).toNat
  unfold f_X1_wantsOf
  rw [if_pos (by omega), C_valuesAbove hN hw hR h1 h2 hp1 hp2]
  show some (mnb (S (q + 2) b) ((ledN (fun i => decide (p < bval B b i)) (bcnt B b).toNat : Nat) : Int)) = _
  rw [hR.2.2.2.1 b h1 h2, mnb_le (by omega) (by omega) (by omega) (by omega)]
  unfold abv bused
  rw [show (min (bcap B b) (bcnt B b)).toNat = min (bcap B b).toNat (bcnt B b).toNat by omega, ledN_min]
  congr 1
  omega
theorem C_takesOf {N : Int} {B : Int → Int} {S : Mem} {q : Nat} {b p : Int} (hN : N ≤ 9) (hw : WF N B) (hR : RB S q B) (h1 : 0 ≤ b) (h2 : b < B 2) (hp1 : 0 ≤ p) (hp2 : p ≤ 99) : f_X1_takesOf S q b p = some (abv B b (p - 1)) := by
  have h := C_wantsOf hN hw hR h1 h2 (p := p - 1) (by omega) (by omega)
  unfold f_X1_takesOf
  unfold f_X1_wantsOf at h
  exact h
theorem M_many {T : Mem} : f_X8_many T = some (T 1 2) := by
  unfold f_X8_many
  rw [if_pos (by omega)]
theorem M_capOf {T : Mem} {b : Int} (h1 : 0 ≤ b) (h2 : b < 9) : f_X8_capOf T b = some (bcap (T 1) b) := by
  unfold f_X8_capOf
  rw [if_pos (by omega)]
  rfl
theorem M_valuesOf {T : Mem} {b : Int} (h1 : 0 ≤ b) (h2 : b < 9) : f_X8_valuesOf T b = some (bcnt (T 1) b) := by
  unfold f_X8_valuesOf
  rw [if_pos (by omega)]
  rfl
theorem M_valueAt {T : Mem} {b i : Int} (h1 : 0 ≤ b) (h2 : b < 9) (h3 : 0 ≤ i) (h4 : i < 8) : f_X8_valueAt T b i = some (bval (T 1) b i) := by
  unfold f_X8_valueAt
  rw [if_pos (by omega)]
  rfl
theorem M_less {T : Mem} {x y : Int} (h1 : -2147483648 ≤ x) (h2 : x < 2147483648) (h3 : -2147483648 ≤ y) (h4 : y < 2147483648) : f_X8_less T x y = some (min x y) := by
  unfold f_X8_less
  by_cases h : x < y
  · rw [if_pos (ltb_t h h1 h4)]
    congr 1; omega
  · rw [if_neg (by rw [ltb_f (by omega) h3 h2]; decide)]
    congr 1; omega
theorem M_in {T : Mem} {x lo hi : Int} (h1 : -2147483648 ≤ x) (h2 : x < 2147483648) (h3 : -2147483648 ≤ lo) (h4 : lo < 2147483648) (h5 : -2147483648 ≤ hi) (h6 : hi < 2147483648) : f_X8_in T x lo hi = some (if lo ≤ x ∧ x ≤ hi then 1 else 0) := by
  unfold f_X8_in
  by_cases h : x < lo
  · rw [if_pos (ltb_t h h1 h4), if_neg (by omega)]
  · rw [if_neg (by rw [ltb_f (by omega) h3 h2]; decide)]
    by_cases g : hi < x
    · rw [if_pos (ltb_t g h5 h2), if_neg (by omega)]
    · rw [if_neg (by rw [ltb_f (by omega) h1 h6]; decide), if_pos (by omega)]
theorem M_usedOf {N : Int} {T : Mem} {b : Int} (hN : N ≤ 9) (hw : WF N (T 1)) (h1 : 0 ≤ b) (h2 : b < T 1 2) : f_X8_usedOf T b = some (bused (T 1) b) := by
  have a := hw.2.2.2.2.2.2.1 b h1 h2
  have a2 := hw.2.2.2.2.2.1
  unfold f_X8_usedOf
  rw [M_capOf h1 (by omega)]
  simp only [Option.bind_some]
  rw [M_valuesOf h1 (by omega)]
  simp only [Option.bind_some]
  rw [M_less (by omega) (by omega) (by omega) (by omega)]
  rfl
theorem M_aboveOf {N : Int} {T : Mem} {b p : Int} (hN : N ≤ 9) (hw : WF N (T 1)) (h1 : 0 ≤ b) (h2 : b < T 1 2) (hp1 : -1 ≤ p) (hp2 : p ≤ 99) : f_X8_aboveOf T b p = some (abv (T 1) b p) := by
  have a := hw.2.2.2.2.2.2.1 b h1 h2
  have a2 := hw.2.2.2.2.2.1
  have a3 := bused_bnd hw h1 h2
  have hle := ledN_le (fun i => decide (p < bval (T 1) b i)) (bused (T 1) b).toNat
  unfold f_X8_aboveOf
  have := lp_seq (step := f_X8_aboveOf_l2 T b p) (fun n => (n : Int)) (ledN (fun i => decide (p < bval (T 1) b i)) (bused (T 1) b).toNat) (abv (T 1) b p) (fun i hi => by
      have hv := ledN_lt _ _ i hi
      simp only [decide_eq_true_eq] at hv
      have hb := hw.2.2.2.2.2.2.2.1 b i h1 h2 (by omega) (by omega)
      unfold f_X8_aboveOf_l2
      rw [M_usedOf hN hw h1 h2]
      simp only [Option.bind_some]
      rw [if_pos (ltb_t (by omega) (by omega) (by omega)), M_valueAt h1 (by omega) (by omega) (by omega)]
      simp only [Option.bind_some]
      rw [if_pos (ltb_t hv (by omega) (by omega))]
      rfl) (by
      unfold f_X8_aboveOf_l2
      rw [M_usedOf hN hw h1 h2]
      simp only [Option.bind_some]
      by_cases hl : ledN (fun i => decide (p < bval (T 1) b i)) (bused (T 1) b).toNat < (bused (T 1) b).toNat
      · have hs := ledN_stop _ _ hl
        simp only [decide_eq_false_iff_not] at hs
        have hb := hw.2.2.2.2.2.2.2.1 b (ledN (fun i => decide (p < bval (T 1) b i)) (bused (T 1) b).toNat : Nat) h1 h2 (by omega) (by omega)
        rw [if_pos (ltb_t (by omega) (by omega) (by omega)), M_valueAt h1 (by omega) (by omega) (by omega)]
        simp only [Option.bind_some]
        rw [if_neg (by rw [ltb_f (by omega) (by omega) (by omega)]; decide)]
        rfl
      · rw [if_neg (by rw [ltb_f (by omega) (by omega) (by omega)]; decide)]
        rfl) (n := FU) (by rw [FU_eq]; omega)
  rw [show ((0 : Nat) : Int) = 0 from rfl] at this
  rw [this]
  rfl
