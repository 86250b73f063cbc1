/-! ===== the clock and the rounds, over what was sold ===== -/
def tob (B : Int → Int) (b p : Int) : Int := min (abv B b p) (bfree B b p)
def cl (o : Out) (b to p : Int) : Out := o ++ List.replicate (to - hs o b).toNat (b, p)
def shN (B : Int → Int) (p : Int) (o : Out) : Nat → Out
  | 0 => o
  | k + 1 => cl (shN B p o k) k (tob B k p) p
def sh (B : Int → Int) (p : Int) (o : Out) : Out := shN B p o (B 2).toNat
def outK (B : Int → Int) : Nat → Out
  | 0 => sh B (B 1) []
  | k + 1 => sh B (B 1 + ((k : Int) + 1)) (outK B k)
def ek (B : Int → Int) : Nat := ledN (fun k => decide (B 0 < bW B (B 1 + k))) 100
def en (B : Int → Int) : Int := B 1 + ek B
def oc1 (B : Int → Int) : Out := outK B (ek B)
def rdS (B : Int → Int) (e b : Int) (o : Out) : Out := if ((o.length : Nat) : Int) < B 0 ∧ hs o b < abv B b (e - 1) then o ++ [(b, e)] else o
def rdN (B : Int → Int) (e : Int) (o : Out) : Nat → Out
  | 0 => o
  | k + 1 => rdS B e k (rdN B e o k)
def rd (B : Int → Int) (e : Int) (o : Out) : Out := rdN B e o (B 2).toNat
def rds (B : Int → Int) (e : Int) (o : Out) : Nat → Out
  | 0 => o
  | k + 1 => rd B e (rds B e o k)
def oc (B : Int → Int) : Out := rds B (en B) (oc1 B) 8
theorem hs_cl (o : Out) (b to p c : Int) : hs (cl o b to p) c = if c = b then max (hs o b) to else hs o c := by
  unfold cl
  rw [hs_app, hs_rep]
  by_cases h : c = b
  · subst h
    rw [if_pos rfl, if_pos rfl]
    omega
  · rw [if_neg h, if_neg h]
    omega
theorem hs_shN (B : Int → Int) (p : Int) (o : Out) (c : Int) : ∀ k : Nat, hs (shN B p o k) c = if 0 ≤ c ∧ c < k then max (hs o c) (tob B c p) else hs o c
  | 0 => by
    rw [if_neg (by omega)]
    rfl
  | k + 1 => by
    unfold shN
    rw [hs_cl]
    by_cases h : c = k
    · rw [if_pos h, hs_shN B p o k k, if_neg (by omega), if_pos (by omega), h]
    · rw [if_neg h, hs_shN B p o c k]
      by_cases h2 : 0 ≤ c ∧ c < k
      · rw [if_pos h2, if_pos (by omega)]
      · rw [if_neg h2, if_neg (by omega)]
theorem Owd_cl {n : Int} {o : Out} {b to p : Int} (h : Owd n o) (h1 : 0 ≤ b) (h2 : b < n) : Owd n (cl o b to p) := by
  intro x hx
  unfold cl at hx
  rcases List.mem_append.mp hx with h3 | h3
  · exact h x h3
  · rw [(List.mem_replicate.mp h3).2]; exact ⟨h1, h2⟩
theorem Owd_shN {n : Int} {B : Int → Int} {p : Int} {o : Out} (h : Owd n o) : ∀ k : Nat, (k : Int) ≤ n → Owd n (shN B p o k)
  | 0, _ => h
  | k + 1, hk => Owd_cl (Owd_shN h k (by omega)) (by omega) (by omega)
theorem len_cl (o : Out) (b to p : Int) : o.length ≤ (cl o b to p).length := by
  unfold cl
  rw [List.length_append]
  omega
theorem len_shN (B : Int → Int) (p : Int) (o : Out) : ∀ k j : Nat, (shN B p o k).length ≤ (shN B p o (k + j)).length
  | k, 0 => Nat.le_refl _
  | k, j + 1 => by
    have h := len_shN B p o k j
    have h2 := len_cl (shN B p o (k + j)) ((k + j : Nat) : Int) (tob B ((k + j : Nat) : Int) p) p
    exact Nat.le_trans h h2
theorem Owd_outK {B : Int → Int} (h : 0 ≤ B 2) : ∀ k, Owd (B 2) (outK B k)
  | 0 => Owd_shN Owd_nil _ (by omega)
  | k + 1 => Owd_shN (Owd_outK h k) _ (by omega)
theorem abv_mono {B : Int → Int} {b p p' : Int} (h : p ≤ p') : abv B b p' ≤ abv B b p := by
  unfold abv
  have a := ledN_le (fun i => decide (p' < bval B b i)) (bused B b).toNat
  have b1 := ledN_le (fun i => decide (p < bval B b i)) (bused B b).toNat
  rcases Nat.lt_or_ge (ledN (fun i => decide (p < bval B b i)) (bused B b).toNat) (ledN (fun i => decide (p' < bval B b i)) (bused B b).toNat) with h2 | h2
  · have h3 := ledN_stop (fun i => decide (p < bval B b i)) (bused B b).toNat (by omega)
    have h4 := ledN_lt (fun i => decide (p' < bval B b i)) (bused B b).toNat _ h2
    simp only [decide_eq_false_iff_not, decide_eq_true_eq] at h3 h4
    omega
  · omega
theorem sumN_le {g h : Int → Int} : ∀ n : Nat, (∀ i : Nat, i < n → g i ≤ h i) → sumN g n ≤ sumN h n
  | 0, _ => Int.le_refl _
  | n + 1, hh => by
    have a := sumN_le n (fun i hi => hh i (by omega))
    have b := hh n (by omega)
    unfold sumN
    omega
theorem sumN_gap {g h : Int → Int} (b : Nat) : ∀ n : Nat, b < n → (∀ i : Nat, i < n → g i ≤ h i) → sumN g n - g b ≤ sumN h n - h b
  | 0, hb, _ => by omega
  | n + 1, hb, hh => by
    have c := hh n (by omega)
    unfold sumN
    by_cases hbn : b = n
    · subst hbn
      have a := sumN_le b (fun i hi => hh i (by omega))
      omega
    · have a := sumN_gap b n (by omega) (fun i hi => hh i (by omega))
      omega
theorem bW_mono {B : Int → Int} {p p' : Int} (h : p ≤ p') : bW B p' ≤ bW B p := sumN_le _ (fun i _ => abv_mono h)
theorem bD_mono {B : Int → Int} {b p p' : Int} (h : p ≤ p') (h1 : 0 ≤ b) (h2 : b < B 2) : bW B p' - abv B b p' ≤ bW B p - abv B b p := by
  have := sumN_gap (g := fun b => abv B b p') (h := fun b => abv B b p) b.toNat (B 2).toNat (by omega) (fun i _ => abv_mono h)
  have e : ((b.toNat : Nat) : Int) = b := by omega
  simp only [e] at this
  exact this
theorem abv_99 {N : Int} {B : Int → Int} {b p : Int} (hw : WF N B) (h1 : 0 ≤ b) (h2 : b < B 2) (hp : 99 ≤ p) : abv B b p = 0 := by
  have a := bused_bnd hw h1 h2
  unfold abv
  rcases Nat.eq_zero_or_pos (ledN (fun i => decide (p < bval B b i)) (bused B b).toNat) with h | h
  · rw [h]; rfl
  · have h3 := ledN_lt _ _ 0 h
    have h4 := ledN_le (fun i => decide (p < bval B b i)) (bused B b).toNat
    simp only [decide_eq_true_eq] at h3
    have h5 := hw.2.2.2.2.2.2.2.1 b 0 h1 h2 (by omega) (by omega)
    have e : (((0 : Nat) : Int)) = 0 := rfl
    rw [e] at h3
    omega
theorem bW_99 {N : Int} {B : Int → Int} {p : Int} (hw : WF N B) (hp : 99 ≤ p) : bW B p = 0 := by
  unfold bW
  have a1 := hw.2.2.2.2.1
  rw [sumN_congr (g := fun b => abv B b p) (h := fun _ => 0) _ (fun i hi => abv_99 hw (by omega) (by omega) hp), sumN_zero]
theorem ek_le {N : Int} {B : Int → Int} (hw : WF N B) : B 1 + (ek B : Int) ≤ 99 := by
  have a1 := hw.1
  have a3 := hw.2.2.1
  have a4 := hw.2.2.2.1
  rcases Int.lt_or_le 99 (B 1 + (ek B : Int)) with h | h
  · have h2 := ledN_lt (fun k => decide (B 0 < bW B (B 1 + k))) 100 (99 - B 1).toNat (show _ < ek B by omega)
    simp only [decide_eq_true_eq] at h2
    rw [bW_99 hw (by omega)] at h2
    omega
  · exact h
theorem ek_lt {B : Int → Int} {k : Nat} (h : k < ek B) : B 0 < bW B (B 1 + k) := by
  have h2 := ledN_lt (fun k => decide (B 0 < bW B (B 1 + k))) 100 k h
  simpa using h2
theorem ek_end {N : Int} {B : Int → Int} (hw : WF N B) : bW B (en B) ≤ B 0 := by
  have a := ek_le hw
  have a3 := hw.2.2.1
  have h2 := ledN_stop (fun k => decide (B 0 < bW B (B 1 + k))) 100 (show ek B < 100 by omega)
  simp only [decide_eq_false_iff_not] at h2
  unfold en
  unfold ek at *
  omega
theorem ek_uniq {N : Int} {B : Int → Int} (hw : WF N B) {k : Nat} (h1 : ∀ i : Nat, i < k → B 0 < bW B (B 1 + i)) (h2 : bW B (B 1 + k) ≤ B 0) : ek B = k := by
  have a := ek_le hw
  have a3 := hw.2.2.1
  rcases Nat.lt_trichotomy (ek B) k with h | h | h
  · have := h1 _ h
    have b := ek_end hw
    unfold en at b
    omega
  · exact h
  · have := ek_lt h
    omega
theorem hs_outK_0 {B : Int → Int} {b : Int} (h1 : 0 ≤ b) (h2 : b < B 2) : hs (outK B 0) b = max 0 (tob B b (B 1)) := by
  unfold outK sh
  rw [hs_shN, if_pos (by omega)]
  rfl
theorem hs_outK_s {B : Int → Int} {b : Int} {k : Nat} (h1 : 0 ≤ b) (h2 : b < B 2) : hs (outK B (k + 1)) b = max (hs (outK B k) b) (tob B b (B 1 + ((k : Int) + 1))) := by
  rw [outK]
  unfold sh
  rw [hs_shN, if_pos (by omega)]
theorem tob_lt {B : Int → Int} {b p : Int} (h0 : 0 ≤ abv B b p) (h : B 0 < bW B p) : tob B b p = max 0 (B 0 - bW B p + abv B b p) := by
  unfold tob bfree
  omega
theorem tob_ge {B : Int → Int} {b p : Int} (h0 : 0 ≤ abv B b p) (h : bW B p ≤ B 0) : tob B b p = abv B b p := by
  unfold tob bfree
  omega
theorem hs_outK {N : Int} {B : Int → Int} (hw : WF N B) {b : Int} (h1 : 0 ≤ b) (h2 : b < B 2) : ∀ k : Nat, B 0 < bW B (B 1 + k) → hs (outK B k) b = max 0 (B 0 - bW B (B 1 + k) + abv B b (B 1 + k))
  | 0, h => by
    have a := abv_9 hw h1 h2 (B 1)
    have e : B 1 + ((0 : Nat) : Int) = B 1 := by omega
    rw [e] at h ⊢
    rw [hs_outK_0 h1 h2, tob_lt a.1 h]
    omega
  | k + 1, h => by
    have a := abv_9 hw h1 h2 (B 1 + ((k : Int) + 1))
    have e : B 1 + ((k + 1 : Nat) : Int) = B 1 + ((k : Int) + 1) := by omega
    rw [e] at h ⊢
    have m := bW_mono (B := B) (p := B 1 + k) (p' := B 1 + ((k : Int) + 1)) (by omega)
    have ih := hs_outK hw h1 h2 k (by omega)
    have d := bD_mono (B := B) (p := B 1 + k) (p' := B 1 + ((k : Int) + 1)) (by omega) h1 h2
    rw [hs_outK_s h1 h2, ih, tob_lt a.1 h]
    omega
theorem sumN_cut {a : Int → Int} {d : Int} (hd : 0 ≤ d) : ∀ n : Nat, (∀ i : Nat, i < n → 0 ≤ a i) → 0 ≤ sumN a n ∧ sumN (fun i => max 0 (a i - d)) n ≤ max 0 (sumN a n - d)
  | 0, _ => by
    unfold sumN
    omega
  | n + 1, h => by
    have ih := sumN_cut hd n (fun i hi => h i (by omega))
    have h2 := h n (by omega)
    unfold sumN
    omega
theorem sumN_cut2 {a a' : Int → Int} {d : Int} (hd : 0 ≤ d) : ∀ n : Nat, (∀ i : Nat, i < n → 0 ≤ a' i ∧ a' i ≤ a i) → 0 ≤ sumN a' n ∧ sumN a' n ≤ sumN a n ∧ sumN (fun i => max (max 0 (a i - d)) (a' i)) n ≤ max (sumN a' n) (sumN a n - d)
  | 0, _ => by
    unfold sumN
    omega
  | n + 1, h => by
    have ih := sumN_cut2 hd n (fun i hi => h i (by omega))
    have h2 := h n (by omega)
    unfold sumN
    omega
theorem len_outK {N : Int} {B : Int → Int} (hw : WF N B) {k : Nat} (hk : k ≤ ek B) : (((outK B k).length : Nat) : Int) ≤ B 0 := by
  have a1 := hw.2.2.2.2.1
  have a0 := hw.1
  have ho := Owd_outK a1 k
  have e : ((B 2).toNat : Int) = B 2 := by omega
  rw [len_sum (n := (B 2).toNat) _ (by rw [e]; exact ho)]
  by_cases h : B 0 < bW B (B 1 + k)
  · rw [sumN_congr (h := fun b => max 0 (abv B b (B 1 + k) - (bW B (B 1 + k) - B 0))) _ (fun i hi => by
      rw [hs_outK hw (by omega) (by omega) k h]
      omega)]
    have c := (sumN_cut (a := fun b => abv B b (B 1 + k)) (d := bW B (B 1 + k) - B 0) (by omega) (B 2).toNat (fun i hi => (abv_9 hw (by omega) (by omega) _).1)).2
    have e2 : sumN (fun b => abv B b (B 1 + k)) (B 2).toNat = bW B (B 1 + k) := rfl
    rw [e2] at c
    omega
  · have hke : k = ek B := by
      rcases Nat.lt_or_ge k (ek B) with g | g
      · exact absurd (ek_lt g) h
      · omega
    cases k with
    | zero =>
      rw [sumN_congr (h := fun b => abv B b (B 1)) _ (fun i hi => by
        have g := abv_9 hw (b := i) (by omega) (by omega) (B 1)
        rw [hs_outK_0 (by omega) (by omega), tob_ge g.1 (by simpa using h)]
        omega)]
      have e2 : sumN (fun b => abv B b (B 1)) (B 2).toNat = bW B (B 1) := rfl
      rw [e2]
      have : B 1 + ((0 : Nat) : Int) = B 1 := by omega
      rw [this] at h
      omega
    | succ k =>
      have hprev := ek_lt (B := B) (k := k) (by omega)
      have e3 : B 1 + ((k + 1 : Nat) : Int) = B 1 + ((k : Int) + 1) := by omega
      rw [e3] at h
      rw [sumN_congr (h := fun b => max (max 0 (abv B b (B 1 + k) - (bW B (B 1 + k) - B 0))) (abv B b (B 1 + ((k : Int) + 1)))) _ (fun i hi => by
        have g := abv_9 hw (b := i) (by omega) (by omega) (B 1 + ((k : Int) + 1))
        rw [hs_outK_s (by omega) (by omega), hs_outK hw (by omega) (by omega) k hprev, tob_ge g.1 (by omega)]
        omega)]
      have c := (sumN_cut2 (a := fun b => abv B b (B 1 + k)) (a' := fun b => abv B b (B 1 + ((k : Int) + 1))) (d := bW B (B 1 + k) - B 0) (by omega) (B 2).toNat (fun i hi => ⟨(abv_9 hw (by omega) (by omega) _).1, abv_mono (by omega)⟩)).2.2
      have e2 : sumN (fun b => abv B b (B 1 + k)) (B 2).toNat = bW B (B 1 + k) := rfl
      have e4 : sumN (fun b => abv B b (B 1 + ((k : Int) + 1))) (B 2).toNat = bW B (B 1 + ((k : Int) + 1)) := rfl
      rw [e2, e4] at c
      omega
theorem hs_outK_used {N : Int} {B : Int → Int} (hw : WF N B) {b : Int} (h1 : 0 ≤ b) (h2 : b < B 2) : ∀ k : Nat, hs (outK B k) b ≤ bused B b
  | 0 => by
    have a := bused_bnd hw h1 h2
    have g := abv_bnd (p := B 1) a.1
    rw [hs_outK_0 h1 h2]
    unfold tob
    omega
  | k + 1 => by
    have ih := hs_outK_used hw h1 h2 k
    have a := bused_bnd hw h1 h2
    have g := abv_bnd (p := B 1 + ((k : Int) + 1)) a.1
    rw [hs_outK_s h1 h2]
    unfold tob
    omega
