/-! ===== the greatest values, so many, together ===== -/
theorem andb_1 (x : Int) : andb x 1 = 0 ∨ andb x 1 = 1 := by
  unfold andb
  have h1 : (i32 x &&& i32 1).toBitVec.toNat = (i32 x).toBitVec.toNat % 2 := by
    show ((i32 x).toBitVec &&& (i32 1).toBitVec).toNat = _
    rw [BitVec.toNat_and]
    have e : (i32 1).toBitVec.toNat = 1 := by decide
    rw [e, Nat.and_one_is_mod]
  have h2 : (i32 x &&& i32 1).toInt = ((i32 x &&& i32 1).toBitVec.toNat : Int) := by
    show (i32 x &&& i32 1).toBitVec.toInt = _
    apply BitVec.toInt_eq_toNat_of_lt
    rw [h1]
    omega
  rw [h2, h1]
  omega
/-- greedy from a number down -/
def gr (t : Int → Int) : Nat → Int → Int
  | 0, _ => 0
  | k + 1, left => min left (t k) * k + gr t k (left - min left (t k))
theorem gr_none {t : Int → Int} (h : ∀ v, 0 ≤ t v) : ∀ k, gr t k 0 = 0
  | 0 => rfl
  | k + 1 => by
    have := h k
    unfold gr
    rw [show min 0 (t k) = 0 by omega]
    simp only [Int.zero_mul, Int.sub_zero, Int.zero_add]
    exact gr_none h k
theorem gr_skip {t : Int → Int} {m : Nat} {left : Int} (hl : 0 ≤ left) : ∀ d : Nat, (∀ v : Int, (m : Int) ≤ v → v < ((m + d : Nat) : Int) → t v = 0) → gr t (m + d) left = gr t m left
  | 0, _ => rfl
  | d + 1, h => by
    show min left (t ((m + d : Nat) : Int)) * ((m + d : Nat) : Int) + gr t (m + d) (left - min left (t ((m + d : Nat) : Int))) = _
    rw [h _ (by omega) (by omega), show min left 0 = 0 by omega]
    simp only [Int.zero_mul, Int.sub_zero, Int.zero_add]
    exact gr_skip hl d (fun v h1 h2 => h v h1 (by omega))
theorem gr_congr {t t' : Int → Int} : ∀ (k : Nat) (left : Int), (∀ v : Int, 0 ≤ v → v < (k : Int) → t v = t' v) → gr t k left = gr t' k left
  | 0, _, _ => rfl
  | k + 1, left, h => by
    unfold gr
    rw [h k (by omega) (by omega), gr_congr k _ (fun v h1 h2 => h v h1 (by omega))]
theorem gr_take {t t' : Int → Int} {x : Nat} {left : Int} (hx : x < 100) (hl : 1 ≤ left) (h0 : ∀ v : Int, (x : Int) < v → v < 100 → t v = 0) (h1 : 1 ≤ t x) (ht : ∀ v : Int, t' v = if v = x then t v - 1 else t v) : gr t 100 left = x + gr t' 100 (left - 1) := by
  have a := gr_skip (t := t) (m := x + 1) (left := left) (by omega) (100 - (x + 1)) (fun v a b => h0 v (by omega) (by omega))
  have b := gr_skip (t := t') (m := x + 1) (left := left - 1) (by omega) (100 - (x + 1)) (fun v a b => by rw [ht v, if_neg (by omega)]; exact h0 v (by omega) (by omega))
  rw [show x + 1 + (100 - (x + 1)) = 100 by omega] at a b
  rw [a, b]
  unfold gr
  rw [ht x, if_pos rfl, gr_congr (t := t') (t' := t) x _ (fun v h1 h2 => by rw [ht v, if_neg (by omega)])]
  rw [show min (left - 1) (t x - 1) = min left (t x) - 1 by omega, show left - 1 - (min left (t x) - 1) = left - min left (t x) by omega, Int.sub_mul, Int.one_mul]
  omega
theorem gr_end {t : Int → Int} {x : Nat} {left : Int} (hx : x < 100) (hl : 0 ≤ left) (hn : ∀ v, 0 ≤ t v) (h0 : ∀ v : Int, (x : Int) < v → v < 100 → t v = 0) (h1 : left ≤ t x) : gr t 100 left = left * x := by
  have a := gr_skip (t := t) (m := x + 1) (left := left) (by omega) (100 - (x + 1)) (fun v a b => h0 v (by omega) (by omega))
  rw [show x + 1 + (100 - (x + 1)) = 100 by omega] at a
  rw [a]
  unfold gr
  rw [show min left (t x) = left by omega, Int.sub_self, gr_none hn]
  omega
/-- how often a number stands among so many -/
def cF (f : Int → Int) (a : Int) (m : Nat) (v : Int) : Int := sumN (fun i => if f (a + i) = v then 1 else 0) m
theorem sumN_first (g : Int → Int) : ∀ m : Nat, sumN g (m + 1) = g 0 + sumN (fun i => g (i + 1)) m
  | 0 => by
    unfold sumN
    unfold sumN
    have : ((0 : Nat) : Int) = 0 := rfl
    rw [this]
    omega
  | m + 1 => by
    have ih := sumN_first g m
    rw [sumN, ih, sumN]
    have e : (((m + 1 : Nat)) : Int) = (m : Int) + 1 := by omega
    rw [e]
    omega
theorem cF_first (f : Int → Int) (a : Int) (m : Nat) (v : Int) : cF f a (m + 1) v = (if f a = v then 1 else 0) + cF f (a + 1) m v := by
  unfold cF
  rw [sumN_first]
  rw [show a + 0 = a by omega]
  congr 1
  apply sumN_congr
  intro i hi
  rw [show a + ((i : Int) + 1) = a + 1 + i by omega]
theorem cF_nn (f : Int → Int) (a : Int) (m : Nat) (v : Int) : 0 ≤ cF f a m v := by
  have := (sumN_bnd (g := fun i => if f (a + i) = v then 1 else 0) (lo := 0) (hi := 1) m (fun i hi => by split <;> omega)).1
  unfold cF
  omega
theorem cF_zero {f : Int → Int} {a : Int} {m : Nat} {v : Int} (h : ∀ i : Int, a ≤ i → i < a + m → f i ≠ v) : cF f a m v = 0 := by
  unfold cF
  rw [sumN_congr (h := fun _ => 0) m (fun i hi => if_neg (h _ (by omega) (by omega))), sumN_zero]
theorem sumN_upd {g g' : Int → Int} {c : Nat} : ∀ n : Nat, c < n → (∀ i : Nat, i < n → i ≠ c → g' i = g i) → sumN g' n = sumN g n + (g' c - g c)
  | 0, h, _ => by omega
  | n + 1, h, hh => by
    unfold sumN
    by_cases hc : c = n
    · subst hc
      rw [sumN_congr c (fun i hi => hh i (by omega) (by omega))]
      omega
    · rw [sumN_upd n (by omega) (fun i hi hi2 => hh i (by omega) hi2), hh n (by omega) (fun z => hc z.symm)]
      omega
theorem sumN_nn {g : Int → Int} : ∀ n : Nat, (∀ i : Nat, i < n → 0 ≤ g i) → 0 ≤ sumN g n
  | 0, _ => Int.le_refl _
  | n + 1, h => by
    have a := sumN_nn n (fun i hi => h i (by omega))
    have b := h n (by omega)
    unfold sumN
    omega
theorem sumN_ge {g : Int → Int} {c : Nat} : ∀ n : Nat, c < n → (∀ i : Nat, i < n → 0 ≤ g i) → g c ≤ sumN g n
  | 0, h, _ => by omega
  | n + 1, h, hh => by
    unfold sumN
    have a := sumN_nn n (fun i hi => hh i (by omega))
    have b := hh n (by omega)
    by_cases hc : c = n
    · subst hc; omega
    · have := sumN_ge n (show c < n by omega) (fun i hi => hh i (by omega))
      omega
/-- what is left, by pointers and limits: how often a value stands there -/
def rem (B : Int → Int) (π lim : Int → Int) (v : Int) : Int := sumN (fun b => cF (bval B b) (π b) (lim b - π b).toNat v) (B 2).toNat
def inS (set b : Int) : Prop := eqb (andb (shrb set b) 1) 1 = true
def limS (B : Int → Int) (set b : Int) : Int := if eqb (andb (shrb set b) 1) 1 = true then bused B b else 0
def tW (B : Int → Int) (set units v : Int) : Int := rem B (fun _ => 0) (limS B set) v + if v = B 1 then units else 0
def bworth (B : Int → Int) (set units : Int) : Int := gr (tW B set units) 100 units
theorem limS_bnd {N : Int} {B : Int → Int} {set b : Int} (hw : WF N B) (h1 : 0 ≤ b) (h2 : b < B 2) : 0 ≤ limS B set b ∧ limS B set b ≤ bused B b ∧ limS B set b ≤ bcnt B b ∧ limS B set b ≤ 8 := by
  have a := bused_bnd hw h1 h2
  unfold limS
  split <;> omega
/-- the book's pointers and limits -/
def RP (S : Mem) (q : Nat) (n : Int) (π lim : Int → Int) : Prop := ∀ b, 0 ≤ b → b < n → S (q + 4) b = π b ∧ S (q + 5) b = lim b
def PL (B : Int → Int) (π lim : Int → Int) : Prop := ∀ b, 0 ≤ b → b < B 2 → 0 ≤ π b ∧ π b ≤ lim b ∧ lim b ≤ bcnt B b
theorem C_nextGreatest {N : Int} {B : Int → Int} {S : Mem} {q : Nat} {π lim : Int → Int} {fl : Int} (hN : N ≤ 9) (hw : WF N B) (hR : RB S q B) (hP : RP S q (B 2) π lim) (hL : PL B π lim) (hf1 : -1 ≤ fl) (hf2 : fl ≤ 99) : ∃ r, f_X1_nextGreatest S q fl = some r ∧ ((r = -1 ∧ ∀ b, 0 ≤ b → b < B 2 → π b < lim b → bval B b (π b) ≤ fl) ∨ (0 ≤ r ∧ r < B 2 ∧ π r < lim r ∧ fl < bval B r (π r) ∧ (∀ b, 0 ≤ b → b < B 2 → π b < lim b → bval B b (π b) ≤ bval B r (π r)) ∧ ∀ b, 0 ≤ b → b < r → π b < lim b → bval B b (π b) < bval B r (π r))) := by
  have n0 := hw.2.2.2.2.1
  have n1 := hw.2.2.2.2.2.1
  obtain ⟨r, g1, g2⟩ := lp_rel (step := f_X1_nextGreatest_l7 S q) (fun i (t : Int × Int × Int) => t.2.2 = i ∧ ((t.1 = -1 ∧ t.2.1 = fl ∧ ∀ b, 0 ≤ b → b < (i : Int) → π b < lim b → bval B b (π b) ≤ fl) ∨ (0 ≤ t.1 ∧ t.1 < (i : Int) ∧ π t.1 < lim t.1 ∧ t.2.1 = bval B t.1 (π t.1) ∧ fl < bval B t.1 (π t.1) ∧ (∀ b, 0 ≤ b → b < (i : Int) → π b < lim b → bval B b (π b) ≤ bval B t.1 (π t.1)) ∧ ∀ b, 0 ≤ b → b < t.1 → π b < lim b → bval B b (π b) < bval B t.1 (π t.1)))) (fun (r : Int) => ((r = -1 ∧ ∀ b, 0 ≤ b → b < B 2 → π b < lim b → bval B b (π b) ≤ fl) ∨ (0 ≤ r ∧ r < B 2 ∧ π r < lim r ∧ fl < bval B r (π r) ∧ (∀ b, 0 ≤ b → b < B 2 → π b < lim b → bval B b (π b) ≤ bval B r (π r)) ∧ ∀ b, 0 ≤ b → b < r → π b < lim b → bval B b (π b) < bval B r (π r)))) (B 2).toNat (by
      intro i t hi ⟨e0, e1⟩
      obtain ⟨t1, t2, t3⟩ := t
      dsimp only at e0 e1 ⊢
      subst e0
      have hpb := hP i (by omega) (by omega)
      have hlb := hL i (by omega) (by omega)
      have a := hw.2.2.2.2.2.2.1 i (by omega) (by omega)
      have ht2 : -1 ≤ t2 ∧ t2 ≤ 99 := by
        rcases e1 with ⟨x1, x2, x3⟩ | ⟨x1, x2, x3, x4, x5, x6, x7⟩
        · omega
        · have y1 := hL t1 x1 (by omega)
          have y2 := hw.2.2.2.2.2.2.2.1 t1 (π t1) x1 (by omega) (by omega) (by omega)
          omega
      by_cases hl : π i < lim i
      · have vb := hw.2.2.2.2.2.2.2.1 i (π i) (by omega) (by omega) (by omega) (by omega)
        by_cases hv : t2 < bval B i (π i)
        · refine ⟨((i : Int), bval B i (π i), (i : Int) + 1), ?_, by dsimp only; omega, Or.inr ⟨by dsimp only; omega, by dsimp only; omega, hl, rfl, ?_, fun b h1 h2 h3 => ?_, fun b h1 h2 h3 => ?_⟩⟩
          · unfold f_X1_nextGreatest_l7
            dsimp only
            rw [if_pos (show ltb (i : Int) (S q 2) = true by rw [hR.2.2.1]; exact ltb_t (by omega) (by omega) (by omega)), if_pos (by omega), if_pos (show ltb (S (q + 4) (i : Int)) (S (q + 5) (i : Int)) = true by rw [hpb.1, hpb.2]; exact ltb_t hl (by omega) (by omega)), hpb.1, C_valueAt hN hw hR (by omega) (by omega) (by omega) (by omega)]
            simp only [Option.bind_some]
            rw [if_pos (ltb_t hv (by omega) (by omega))]
            rfl
          · dsimp only
            rcases e1 with ⟨x1, x2, x3⟩ | ⟨x1, x2, x3, x4, x5, x6, x7⟩ <;> omega
          · dsimp only
            by_cases hb : b = i
            · rw [hb]; exact Int.le_refl _
            · rcases e1 with ⟨x1, x2, x3⟩ | ⟨x1, x2, x3, x4, x5, x6, x7⟩
              · have := x3 b h1 (by omega) h3
                omega
              · have := x6 b h1 (by omega) h3
                omega
          · dsimp only at h2 ⊢
            rcases e1 with ⟨x1, x2, x3⟩ | ⟨x1, x2, x3, x4, x5, x6, x7⟩
            · have := x3 b h1 (by omega) h3
              omega
            · have := x6 b h1 (by omega) h3
              omega
        · refine ⟨(t1, t2, (i : Int) + 1), ?_, by dsimp only; omega, ?_⟩
          · unfold f_X1_nextGreatest_l7
            dsimp only
            rw [if_pos (show ltb (i : Int) (S q 2) = true by rw [hR.2.2.1]; exact ltb_t (by omega) (by omega) (by omega)), if_pos (by omega), if_pos (show ltb (S (q + 4) (i : Int)) (S (q + 5) (i : Int)) = true by rw [hpb.1, hpb.2]; exact ltb_t hl (by omega) (by omega)), hpb.1, C_valueAt hN hw hR (by omega) (by omega) (by omega) (by omega)]
            simp only [Option.bind_some]
            rw [if_neg (by rw [ltb_f (by omega) (by omega) (by omega)]; decide)]
            rfl
          · dsimp only
            rcases e1 with ⟨x1, x2, x3⟩ | ⟨x1, x2, x3, x4, x5, x6, x7⟩
            · refine Or.inl ⟨x1, x2, fun b h1 h2 h3 => ?_⟩
              by_cases hb : b = i
              · rw [hb]; omega
              · exact x3 b h1 (by omega) h3
            · refine Or.inr ⟨x1, by omega, x3, x4, x5, fun b h1 h2 h3 => ?_, x7⟩
              by_cases hb : b = i
              · rw [hb]; omega
              · exact x6 b h1 (by omega) h3
      · refine ⟨(t1, t2, (i : Int) + 1), ?_, by dsimp only; omega, ?_⟩
        · unfold f_X1_nextGreatest_l7
          dsimp only
          rw [if_pos (show ltb (i : Int) (S q 2) = true by rw [hR.2.2.1]; exact ltb_t (by omega) (by omega) (by omega)), if_pos (by omega), if_neg (show ¬ ltb (S (q + 4) (i : Int)) (S (q + 5) (i : Int)) = true by rw [hpb.1, hpb.2, ltb_f (by omega) (by omega) (by omega)]; decide)]
          rfl
        · dsimp only
          rcases e1 with ⟨x1, x2, x3⟩ | ⟨x1, x2, x3, x4, x5, x6, x7⟩
          · refine Or.inl ⟨x1, x2, fun b h1 h2 h3 => ?_⟩
            by_cases hb : b = i
            · rw [hb] at h3; omega
            · exact x3 b h1 (by omega) h3
          · refine Or.inr ⟨x1, by omega, x3, x4, x5, fun b h1 h2 h3 => ?_, x7⟩
            by_cases hb : b = i
            · rw [hb] at h3; omega
            · exact x6 b h1 (by omega) h3) (by
      intro t ⟨e0, e1⟩
      obtain ⟨t1, t2, t3⟩ := t
      dsimp only at e0 e1 ⊢
      subst e0
      refine ⟨t1, ?_, ?_⟩
      · unfold f_X1_nextGreatest_l7
        dsimp only
        rw [if_neg (show ¬ ltb (((B 2).toNat : Nat) : Int) (S q 2) = true by rw [hR.2.2.1, ltb_f (by omega) (by omega) (by omega)]; decide)]
      · rcases e1 with ⟨x1, x2, x3⟩ | ⟨x1, x2, x3, x4, x5, x6, x7⟩
        · exact Or.inl ⟨x1, fun b h1 h2 h3 => x3 b h1 (by omega) h3⟩
        · exact Or.inr ⟨x1, by omega, x3, x5, fun b h1 h2 h3 => x6 b h1 (by omega) h3, x7⟩) (n := FU) (by rw [FU_eq]; omega) (s := (-1, fl, 0)) ⟨rfl, Or.inl ⟨rfl, rfl, fun b h1 h2 => by omega⟩⟩
  refine ⟨r, ?_, g2⟩
  unfold f_X1_nextGreatest
  rw [g1]
  rfl
/-- what stays but pointers and limits -/
def FrP (S S' : Mem) (q : Nat) : Prop := ∀ k, k ≠ q + 4 → k ≠ q + 5 → S' k = S k
theorem FrP.book {S S' : Mem} {q : Nat} {B : Int → Int} (h : FrP S S' q) (hR : RB S q B) : RB S' q B := hR.fr (h _ (by omega) (by omega)) (h _ (by omega) (by omega)) (h _ (by omega) (by omega)) (h _ (by omega) (by omega))
theorem rem_nn (B π lim : Int → Int) (v : Int) : 0 ≤ rem B π lim v := sumN_nn _ (fun i _ => cF_nn _ _ _ _)
theorem rem_top {N : Int} {B : Int → Int} {π lim : Int → Int} {x v : Int} (hw : WF N B) (hL : PL B π lim) (h : ∀ b, 0 ≤ b → b < B 2 → π b < lim b → bval B b (π b) ≤ x) (hv : x < v) : rem B π lim v = 0 := by
  have n0 := hw.2.2.2.2.1
  unfold rem
  rw [sumN_congr (h := fun _ => 0) _ (fun i hi => ?_), sumN_zero]
  have a := hL i (by omega) (by omega)
  apply cF_zero
  intro j h1 h2
  have h3 := h i (by omega) (by omega) (by omega)
  have h4 := bval_le (i := π i) (j := j) hw (b := i) (by omega) (by omega) a.1 h1 (by omega)
  omega
theorem rem_step {N : Int} {B : Int → Int} {π π' lim : Int → Int} {r : Int} (hw : WF N B) (hL : PL B π lim) (h1 : 0 ≤ r) (h2 : r < B 2) (h3 : π r < lim r) (hp : ∀ b, π' b = if b = r then π b + 1 else π b) (v : Int) : rem B π lim v = rem B π' lim v + if v = bval B r (π r) then 1 else 0 := by
  have n0 := hw.2.2.2.2.1
  unfold rem
  rw [sumN_upd (g := fun b => cF (bval B b) (π' b) (lim b - π' b).toNat v) (g' := fun b => cF (bval B b) (π b) (lim b - π b).toNat v) (c := r.toNat) (B 2).toNat (by omega) (fun i hi hne => by
    try dsimp only
    rw [hp i, if_neg (by omega)])]
  rw [show ((r.toNat : Nat) : Int) = r by omega, hp r, if_pos rfl]
  have e : (lim r - π r).toNat = (lim r - (π r + 1)).toNat + 1 := by omega
  rw [e, cF_first]
  by_cases hv : v = bval B r (π r)
  · rw [if_pos hv, if_pos hv.symm]; omega
  · rw [if_neg hv, if_neg (fun z => hv z.symm)]; omega
theorem C_worthTo {N : Int} {B : Int → Int} {S : Mem} {q : Nat} {set units : Int} (hN : N ≤ 9) (hw : WF N B) (hR : RB S q B) (hu1 : 0 ≤ units) (hu2 : units ≤ 30) : ∃ S', f_X1_worthTo S q set units = some (bworth B set units, S') ∧ FrP S S' q := by
  have b2 := hw.2.2.1
  have b3 := hw.2.2.2.1
  have n0 := hw.2.2.2.2.1
  have n1 := hw.2.2.2.2.2.1
  obtain ⟨S1, a1, a2, a3⟩ := lp_rel (step := f_X1_worthTo_l2 q set units) (fun i (t : Int × Mem) => t.1 = i ∧ FrP S t.2 q ∧ ∀ b : Int, 0 ≤ b → b < (i : Int) → t.2 (q + 4) b = 0 ∧ t.2 (q + 5) b = limS B set b) (fun (t : Mem) => FrP S t q ∧ RP t q (B 2) (fun _ => 0) (limS B set)) (B 2).toNat (by
      intro i t hi ⟨e0, hF, e1⟩
      obtain ⟨t1, t2⟩ := t
      dsimp only at e0 hF e1 ⊢
      subst e0
      have hR' := hF.book hR
      have a := hw.2.2.2.2.2.2.1 i (by omega) (by omega)
      refine ⟨((i : Int) + 1, wr (wr t2 (q + 4) (i : Int) 0) (q + 5) (i : Int) (limS B set i)), ?_, by dsimp only; omega, fun k h1 h2 => by dsimp only; rw [wr_ne h2, wr_ne h1]; exact hF k h1 h2, fun b h1 h2 => ?_⟩
      · unfold f_X1_worthTo_l2
        dsimp only
        rw [if_pos (show ltb (i : Int) (t2 q 2) = true by rw [hR'.2.2.1]; exact ltb_t (by omega) (by omega) (by omega)), if_pos (by omega)]
        dsimp only [wrk]
        have hus : f_X1_usable (wr t2 (q + 4) (i : Int) 0) q i = some (bused B i) := by
          unfold f_X1_usable
          rw [if_pos (by omega), wr_cell (by omega), wr_cell (by omega), hR'.2.2.2.2.1 i (by omega) (by omega), hR'.2.2.2.1 i (by omega) (by omega), mnb_le (by omega) (by omega) (by omega) (by omega)]
          unfold bused
          congr 1
          omega
        rw [hus]
        unfold limS
        split <;> rfl
      · dsimp only
        by_cases hb : b = i
        · rw [hb, wr_eq, wr_cell (by omega), wr_eq]
          exact ⟨rfl, rfl⟩
        · rw [wr_idx hb, wr_idx hb, wr_idx hb, wr_idx hb]
          exact e1 b h1 (by omega)) (by
      intro t ⟨e0, hF, e1⟩
      obtain ⟨t1, t2⟩ := t
      dsimp only at e0 hF e1 ⊢
      subst e0
      have hR' := hF.book hR
      refine ⟨t2, ?_, hF, fun b h1 h2 => e1 b h1 (by omega)⟩
      unfold f_X1_worthTo_l2
      dsimp only
      rw [if_neg (show ¬ ltb (((B 2).toNat : Nat) : Int) (t2 q 2) = true by rw [hR'.2.2.1, ltb_f (by omega) (by omega) (by omega)]; decide)]) (n := FU) (by rw [FU_eq]; omega) (s := (0, S)) ⟨rfl, fun _ _ _ => rfl, fun b h1 h2 => by omega⟩
  obtain ⟨r, c1, c2⟩ := lp_inv (step := f_X1_worthTo_l52 q units) (fun (t : Int × Int × Mem) => 0 ≤ t.2.1 ∧ t.2.1 ≤ units ∧ FrP S t.2.2 q ∧ ∃ π : Int → Int, RP t.2.2 q (B 2) π (limS B set) ∧ PL B π (limS B set) ∧ t.1 + gr (fun v => rem B π (limS B set) v + if v = B 1 then units else 0) 100 (units - t.2.1) = bworth B set units) (fun t => (units - t.2.1).toNat) (fun r => match r with
      | .inl (x : Int × Mem) => x.1 = bworth B set units ∧ FrP S x.2 q
      | .inr (x : Int × Mem) => x.1 = bworth B set units ∧ FrP S x.2 q) (by
    intro t ⟨e0, e1, hF, π, hP, hL, hs⟩
    obtain ⟨t1, t2, t3⟩ := t
    dsimp only at e0 e1 hF hP hs ⊢
    have hR' := hF.book hR
    have htn : ∀ v, 0 ≤ (fun v => rem B π (limS B set) v + if v = B 1 then units else 0) v := by
      intro v
      have := rem_nn B π (limS B set) v
      dsimp only
      split <;> omega
    by_cases hlt : t2 < units
    · obtain ⟨o, g1, g2⟩ := C_nextGreatest (fl := B 1) hN hw hR' hP hL (by omega) b3
      rcases g2 with ⟨g2, g3⟩ | ⟨g2, g3, g4, g5, g6, g7⟩
      · right
        subst g2
        refine ⟨.inr (t1 + (units - t2) * B 1, t3), ?_, ?_, hF⟩
        · unfold f_X1_worthTo_l52
          dsimp only
          rw [if_pos (ltb_t hlt (by omega) (by omega)), hR'.2.1, g1]
          simp only [Option.bind_some]
          rw [if_pos (eqb_t rfl)]
        · dsimp only
          have hge := gr_end (t := fun v => rem B π (limS B set) v + if v = B 1 then units else 0) (x := (B 1).toNat) (left := units - t2) (by omega) (by omega) htn (fun v h1 h2 => by
            try dsimp only
            rw [if_neg (by omega), rem_top hw hL g3 (by omega)]
            rfl) (by
            try dsimp only
            rw [if_pos (by omega)]
            have := rem_nn B π (limS B set) ((B 1).toNat : Int)
            omega)
          rw [show (((B 1).toNat : Nat) : Int) = B 1 by omega] at hge
          rw [hge] at hs
          exact hs
      · left
        have hlb := hL o g2 g3
        have vb := hw.2.2.2.2.2.2.2.1 o (π o) g2 g3 hlb.1 (by omega)
        have hpo := hP o g2 g3
        refine ⟨(t1 + bval B o (π o), t2 + 1, wr t3 (q + 4) o (π o + 1)), ?_, ⟨by dsimp only; omega, by dsimp only; omega, fun k h1 h2 => by dsimp only; rw [wr_ne h1]; exact hF k h1 h2, fun b => if b = o then π b + 1 else π b, fun b h1 h2 => ?_, fun b h1 h2 => ?_, ?_⟩, by dsimp only; omega⟩
        · unfold f_X1_worthTo_l52
          dsimp only
          rw [if_pos (ltb_t hlt (by omega) (by omega)), hR'.2.1, g1]
          simp only [Option.bind_some]
          rw [if_neg (by rw [eqb_f (by omega) (by omega) (by omega) (by omega) (by omega)]; decide), if_pos (by omega), hpo.1, C_valueAt hN hw hR' g2 g3 hlb.1 (by omega)]
          rfl
        · dsimp only
          have hpb := hP b h1 h2
          by_cases hb : b = o
          · subst hb
            rw [wr_eq, if_pos rfl, wr_cell (by omega)]
            exact ⟨rfl, hpb.2⟩
          · rw [wr_idx hb, if_neg hb, wr_idx hb]
            exact hpb
        · dsimp only
          have := hL b h1 h2
          by_cases hb : b = o
          · subst hb
            rw [if_pos rfl]; omega
          · rw [if_neg hb]; exact this
        · dsimp only
          have hstep := rem_step (π' := fun b => if b = o then π b + 1 else π b) (r := o) hw hL g2 g3 g4 (fun b => rfl)
          have hg := gr_take (t := fun v => rem B π (limS B set) v + if v = B 1 then units else 0) (t' := fun v => rem B (fun b => if b = o then π b + 1 else π b) (limS B set) v + if v = B 1 then units else 0) (x := (bval B o (π o)).toNat) (left := units - t2) (by omega) (by omega) (fun v h1 h2 => by
            try dsimp only
            rw [if_neg (by omega), rem_top hw hL g6 (by omega)]
            rfl) (by
            try dsimp only
            rw [hstep, if_pos (by omega)]
            have := rem_nn B (fun b => if b = o then π b + 1 else π b) (limS B set) ((bval B o (π o)).toNat : Int)
            split <;> omega) (fun v => by
            try dsimp only
            rw [hstep v]
            by_cases hv : v = bval B o (π o)
            · rw [if_pos (show v = (((bval B o (π o)).toNat : Nat) : Int) by omega), if_pos hv]; omega
            · rw [if_neg (show ¬ v = (((bval B o (π o)).toNat : Nat) : Int) by omega), if_neg hv]; omega)
          rw [show (((bval B o (π o)).toNat : Nat) : Int) = bval B o (π o) by omega] at hg
          rw [show units - (t2 + 1) = units - t2 - 1 by omega]
          rw [hg] at hs
          omega
    · right
      refine ⟨.inl (t1, t3), ?_, ?_, hF⟩
      · unfold f_X1_worthTo_l52
        dsimp only
        rw [if_neg (by rw [ltb_f (by omega) (by omega) (by omega)]; decide)]
      · dsimp only
        rw [show units - t2 = 0 by omega, gr_none htn] at hs
        omega) FU (0, 0, S1) ⟨Int.le_refl _, hu1, a2, fun _ => 0, a3, fun b h1 h2 => by
      have := limS_bnd (set := set) hw h1 h2
      dsimp only
      omega, by
      dsimp only
      rw [Int.zero_add, Int.sub_zero]
      rfl⟩ (by rw [FU_eq]; dsimp only; omega)
  unfold f_X1_worthTo
  rw [a1]
  simp only [Option.bind_some]
  rw [c1]
  cases r with
  | inl x =>
    refine ⟨x.2, ?_, c2.2⟩
    show some (x.1, x.2) = _
    rw [c2.1]
  | inr x =>
    refine ⟨x.2, ?_, c2.2⟩
    show some x = _
    rw [← c2.1]
