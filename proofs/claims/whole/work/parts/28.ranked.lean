/-! ===== the values in their order ===== -/
def LB (f : Int → Nat) (v : Int) : Nat → List (Int × Int)
  | 0 => []
  | n + 1 => LB f v n ++ List.replicate (f n) ((n : Int), v)
def LV (f : Int → Int → Nat) (n : Nat) : Nat → List (Int × Int)
  | 0 => []
  | k + 1 => LB (f k) k n ++ LV f n k
theorem LB_congr {f g : Int → Nat} {v : Int} : ∀ n : Nat, (∀ b : Int, 0 ≤ b → b < n → f b = g b) → LB f v n = LB g v n
  | 0, _ => rfl
  | n + 1, h => by
    show LB f v n ++ _ = LB g v n ++ _
    rw [LB_congr n (fun b h1 h2 => h b h1 (by omega)), h n (by omega) (by omega)]
theorem LB_nil {f : Int → Nat} {v : Int} : ∀ n : Nat, (∀ b : Int, 0 ≤ b → b < n → f b = 0) → LB f v n = []
  | 0, _ => rfl
  | n + 1, h => by
    show LB f v n ++ _ = []
    rw [LB_nil n (fun b h1 h2 => h b h1 (by omega)), h n (by omega) (by omega)]
    rfl
theorem LB_take {f g : Int → Nat} {v : Int} {r : Int} : ∀ n : Nat, 0 ≤ r → r < n → (∀ b : Int, 0 ≤ b → b < n → f b = g b + if b = r then 1 else 0) → (∀ b : Int, 0 ≤ b → b < r → f b = 0) → LB f v n = (r, v) :: LB g v n
  | 0, h1, h2, _, _ => by omega
  | n + 1, h1, h2, h, h0 => by
    show LB f v n ++ List.replicate (f n) ((n : Int), v) = (r, v) :: (LB g v n ++ List.replicate (g n) ((n : Int), v))
    by_cases hr : r = n
    · have e1 : LB f v n = [] := LB_nil n (fun b x y => h0 b x (by omega))
      have e2 : LB g v n = [] := LB_nil n (fun b x y => by
        have a := h b x (by omega)
        have c := h0 b x (by omega)
        omega)
      have e3 := h n (by omega) (by omega)
      rw [if_pos hr.symm] at e3
      rw [e1, e2, e3, List.replicate_succ, hr]
      rfl
    · have e3 := h n (by omega) (by omega)
      rw [if_neg (fun z => hr z.symm)] at e3
      rw [LB_take n h1 (by omega) (fun b x y => h b x (by omega)) h0, e3]
      rfl
theorem LV_congr {f g : Int → Int → Nat} {n : Nat} : ∀ k : Nat, (∀ v b : Int, 0 ≤ v → v < k → 0 ≤ b → b < n → f v b = g v b) → LV f n k = LV g n k
  | 0, _ => rfl
  | k + 1, h => by
    show LB (f k) k n ++ LV f n k = LB (g k) k n ++ LV g n k
    rw [LV_congr k (fun v b a1 a2 => h v b a1 (by omega)), LB_congr n (fun b a1 a2 => h k b (by omega) (by omega) a1 a2)]
theorem LV_nil {f : Int → Int → Nat} {n : Nat} : ∀ k : Nat, (∀ v b : Int, 0 ≤ v → v < k → 0 ≤ b → b < n → f v b = 0) → LV f n k = []
  | 0, _ => rfl
  | k + 1, h => by
    show LB (f k) k n ++ LV f n k = []
    rw [LV_nil k (fun v b a1 a2 => h v b a1 (by omega)), LB_nil n (fun b a1 a2 => h k b (by omega) (by omega) a1 a2)]
    rfl
theorem LV_take {f g : Int → Int → Nat} {n : Nat} {w r : Int} (r1 : 0 ≤ r) (r2 : r < n) : ∀ k : Nat, 0 ≤ w → w < k → (∀ v b : Int, 0 ≤ v → v < k → 0 ≤ b → b < n → f v b = g v b + if v = w ∧ b = r then 1 else 0) → (∀ v b : Int, w < v → v < k → 0 ≤ b → b < n → f v b = 0) → (∀ b : Int, 0 ≤ b → b < r → f w b = 0) → LV f n k = (r, w) :: LV g n k
  | 0, h1, h2, _, _, _ => by omega
  | k + 1, h1, h2, h, h0, h3 => by
    show LB (f k) k n ++ LV f n k = (r, w) :: (LB (g k) k n ++ LV g n k)
    by_cases hw : w = k
    · have e1 : LB (f k) k n = (r, (k : Int)) :: LB (g k) k n := LB_take n r1 r2 (fun b x y => by
        have a := h k b (by omega) (by omega) x y
        rw [a]
        by_cases hb : b = r
        · rw [if_pos hb, if_pos ⟨hw.symm, hb⟩]
        · rw [if_neg hb, if_neg (fun z => hb z.2)]) (fun b x y => by rw [← hw]; exact h3 b x y)
      have e2 : LV f n k = LV g n k := LV_congr k (fun v b x y z u => by
        have a := h v b x (by omega) z u
        rw [if_neg (by omega)] at a
        omega)
      rw [e1, e2, hw]
      rfl
    · have e1 : LB (f k) k n = [] := LB_nil n (fun b x y => h0 k b (by omega) (by omega) x y)
      have e2 : LB (g k) k n = [] := LB_nil n (fun b x y => by
        have a := h k b (by omega) (by omega) x y
        have c := h0 k b (by omega) (by omega) x y
        omega)
      rw [e1, e2, LV_take r1 r2 k h1 (by omega) (fun v b x y z u => h v b x (by omega) z u) (fun v b x y z u => h0 v b x (by omega) z u) h3]
      rfl
/-- what is left, by value and bidder -/
def sg (B : Int → Int) (π : Int → Int) (v b : Int) : Nat := (cF (bval B b) (π b) (bcnt B b - π b).toNat v).toNat
def LL (B : Int → Int) (π : Int → Int) : List (Int × Int) := LV (sg B π) (B 2).toNat 100
theorem LL_end {N : Int} {B : Int → Int} {π : Int → Int} (hw : WF N B) (hL : PL B π (bcnt B)) (h : ∀ b, 0 ≤ b → b < B 2 → π b < bcnt B b → bval B b (π b) ≤ -1) : LL B π = [] := by
  have n0 := hw.2.2.2.2.1
  refine LV_nil 100 (fun v b a1 a2 a3 a4 => ?_)
  have hp := hL b a3 (by omega)
  by_cases hx : π b < bcnt B b
  · have := h b a3 (by omega) hx
    have c := bval_bnd hw (i := π b) a3 (by omega) hp.1 hx
    omega
  · unfold sg
    rw [show (bcnt B b - π b).toNat = 0 by omega]
    rfl
theorem sg_zero {N : Int} {B : Int → Int} {π : Int → Int} (hw : WF N B) (hL : PL B π (bcnt B)) {b v : Int} (h1 : 0 ≤ b) (h2 : b < B 2) (h : π b < bcnt B b → bval B b (π b) < v) : sg B π v b = 0 := by
  have hp := hL b h1 h2
  unfold sg
  rw [cF_zero (fun i x y => by
    have := bval_mono hw (i := π b) h1 h2 (i - π b).toNat hp.1 (by omega)
    rw [show π b + (((i - π b).toNat : Nat) : Int) = i by omega] at this
    have := h (by omega)
    omega)]
  rfl
theorem LL_take {N : Int} {B : Int → Int} {π π' : Int → Int} {r : Int} (hw : WF N B) (hL : PL B π (bcnt B)) (h1 : 0 ≤ r) (h2 : r < B 2) (h3 : π r < bcnt B r) (h4 : ∀ b, 0 ≤ b → b < B 2 → π b < bcnt B b → bval B b (π b) ≤ bval B r (π r)) (h5 : ∀ b, 0 ≤ b → b < r → π b < bcnt B b → bval B b (π b) < bval B r (π r)) (hp : ∀ b, π' b = if b = r then π b + 1 else π b) : LL B π = (r, bval B r (π r)) :: LL B π' := by
  have pr := hL r h1 h2
  have vb := bval_bnd hw (i := π r) h1 h2 pr.1 h3
  refine LV_take h1 (by omega) 100 vb.1 (by omega) (fun v b a1 a2 a3 a4 => ?_) (fun v b a1 a2 a3 a4 => ?_) (fun b a1 a2 => ?_)
  · unfold sg
    rw [hp b]
    by_cases hb : b = r
    · subst hb
      have nn := cF_nn (bval B b) (π b + 1) (bcnt B b - (π b + 1)).toNat v
      rw [if_pos rfl, show (bcnt B b - π b).toNat = (bcnt B b - (π b + 1)).toNat + 1 by omega, cF_first]
      by_cases hv : bval B b (π b) = v
      · rw [if_pos hv, if_pos ⟨hv.symm, rfl⟩]
        omega
      · rw [if_neg hv, if_neg (fun z => hv z.1.symm)]
        omega
    · rw [if_neg hb, if_neg (fun z => hb z.2)]
      rfl
  · exact sg_zero hw hL a3 (by omega) (fun hx => by have := h4 b a3 (by omega) hx; omega)
  · exact sg_zero hw hL a1 (by omega) (fun hx => h5 b a1 a2 hx)
/-- how the system gets to the one asked for -/
theorem C_rankedOwner {N : Int} {B : Int → Int} {S : Mem} {q : Nat} {a : Int} (hN : N ≤ 9) (hw : WF N B) (hR : RB S q B) (ha : 0 ≤ a) (ha2 : a < 2147483648) : ∃ r S', f_X1_rankedOwner S q a = some (r, S') ∧ FrP S S' q ∧ ((r = -1 ∧ (LL B (fun _ => 0))[a.toNat]? = none) ∨ (0 ≤ r ∧ r < B 2 ∧ 0 ≤ S' (q + 4) r ∧ S' (q + 4) r < bcnt B r ∧ (LL B (fun _ => 0))[a.toNat]? = some (r, bval B r (S' (q + 4) r)))) := by
  have n0 := hw.2.2.2.2.1
  have n1 := hw.2.2.2.2.2.1
  obtain ⟨S1, a1, a2, a3⟩ := lp_rel (step := f_X1_rankedOwner_l2 q a) (fun i (t : Int × Mem) => t.1 = i ∧ FrP S t.2 q ∧ ∀ b : Int, 0 ≤ b → b < (i : Int) → t.2 (q + 4) b = 0 ∧ t.2 (q + 5) b = bcnt B b) (fun (t : Mem) => FrP S t q ∧ RP t q (B 2) (fun _ => 0) (bcnt B)) (B 2).toNat (by
      intro i t hi ⟨e0, hF, e1⟩
      obtain ⟨t1, t2⟩ := t
      dsimp only at e0 hF e1 ⊢
      subst e0
      have hR' := hF.book hR
      refine ⟨((i : Int) + 1, wr (wr t2 (q + 4) (i : Int) 0) (q + 5) (i : Int) (bcnt B i)), ?_, rfl, fun k h1 h2 => by dsimp only; rw [wr_ne h2, wr_ne h1]; exact hF k h1 h2, fun b h1 h2 => ?_⟩
      · unfold f_X1_rankedOwner_l2
        dsimp only
        rw [if_pos (show ltb (i : Int) (t2 q 2) = true by rw [hR'.2.2.1]; exact ltb_t (by omega) (by omega) (by omega)), if_pos (by omega)]
        dsimp only [wrk]
        rw [wr_cell (by omega), hR'.2.2.2.2.1 i (by omega) (by omega)]
      · dsimp only
        by_cases hb : b = i
        · rw [hb, wr_eq, wr_cell (by omega), wr_eq]
          exact ⟨rfl, rfl⟩
        · rw [wr_idx hb, wr_idx hb, wr_idx hb, wr_idx hb]
          exact e1 b h1 (by omega)) (by
      intro t ⟨e0, hF, e1⟩
      obtain ⟨t1, t2⟩ := t
      dsimp only at e0 hF e1 ⊢
      subst e0
      have hR' := hF.book hR
      refine ⟨t2, ?_, hF, fun b h1 h2 => e1 b h1 (by omega)⟩
      unfold f_X1_rankedOwner_l2
      dsimp only
      rw [if_neg (show ¬ ltb (((B 2).toNat : Nat) : Int) (t2 q 2) = true by rw [hR'.2.2.1]; exact nl (by omega) (by omega) (by omega))]) (n := FU) (by rw [FU_eq]; omega) (s := (0, S)) ⟨rfl, fun _ _ _ => rfl, fun b h1 h2 => by omega⟩
  have hL0 : PL B (fun _ => 0) (bcnt B) := fun b x y => by
    have := bcnt_bnd hw x y
    exact ⟨Int.le_refl _, this.2.2.1, Int.le_refl _⟩
  obtain ⟨r0, g0, g00⟩ := C_nextGreatest (fl := -1) hN hw (a2.book hR) a3 hL0 (by decide) (by decide)
  -- what is next, told with what is left
  let NX : Int → (Int → Int) → Prop := fun r π => (r = -1 ∧ ∀ b, 0 ≤ b → b < B 2 → π b < bcnt B b → bval B b (π b) ≤ -1) ∨ (0 ≤ r ∧ r < B 2 ∧ π r < bcnt B r ∧ -1 < bval B r (π r) ∧ (∀ b, 0 ≤ b → b < B 2 → π b < bcnt B b → bval B b (π b) ≤ bval B r (π r)) ∧ ∀ b, 0 ≤ b → b < r → π b < bcnt B b → bval B b (π b) < bval B r (π r))
  let tot : Mem → Nat := fun t => (sumN (fun b => bcnt B b - t (q + 4) b) (B 2).toNat).toNat
  obtain ⟨rr, c1, c2, c3⟩ := lp_inv (step := f_X1_rankedOwner_l43 q a) (fun (t : Int × Int × Mem) => FrP S t.2.2 q ∧ 0 ≤ t.2.1 ∧ t.2.1 ≤ a ∧ ∃ π : Int → Int, RP t.2.2 q (B 2) π (bcnt B) ∧ PL B π (bcnt B) ∧ NX t.1 π ∧ (LL B (fun _ => 0))[a.toNat]? = (LL B π)[(a - t.2.1).toNat]?) (fun t => tot t.2.2 + (if t.1 = -1 then 0 else 1)) (fun (r : Int × Mem) => FrP S r.2 q ∧ ((r.1 = -1 ∧ (LL B (fun _ => 0))[a.toNat]? = none) ∨ (0 ≤ r.1 ∧ r.1 < B 2 ∧ 0 ≤ r.2 (q + 4) r.1 ∧ r.2 (q + 4) r.1 < bcnt B r.1 ∧ (LL B (fun _ => 0))[a.toNat]? = some (r.1, bval B r.1 (r.2 (q + 4) r.1))))) (by
    intro t ⟨hF, e0, e1, π, hP, hL, hX, hA⟩
    obtain ⟨t1, t2, t3⟩ := t
    dsimp only at hF e0 e1 hP hX hA ⊢
    have hR' := hF.book hR
    unfold f_X1_rankedOwner_l43
    dsimp only
    rcases hX with ⟨x0, x1⟩ | ⟨x0, x1, x2, x3, x4, x5⟩
    · subst x0
      right
      refine ⟨(-1, t3), ?_, hF, Or.inl ⟨rfl, ?_⟩⟩
      · rw [if_pos (show eqb (-1) (-1) = true by decide)]
        split <;> rfl
      · rw [hA, LL_end hw hL x1]
        rfl
    · have pr := hL t1 x0 x1
      have e4 : t3 (q + 4) t1 = π t1 := (hP t1 x0 x1).1
      by_cases ht : t2 < a
      · left
        have hp' : ∀ b, (fun b => if b = t1 then π b + 1 else π b) b = if b = t1 then π b + 1 else π b := fun b => rfl
        have hL' : PL B (fun b => if b = t1 then π b + 1 else π b) (bcnt B) := fun b y z => by
          have := hL b y z
          dsimp only
          by_cases hb : b = t1
          · rw [if_pos hb]
            subst hb
            omega
          · rw [if_neg hb]
            exact this
        have hF' : FrP S (wr t3 (q + 4) t1 (π t1 + 1)) q := fun k y z => by rw [wr_ne y]; exact hF k y z
        have hP' : RP (wr t3 (q + 4) t1 (π t1 + 1)) q (B 2) (fun b => if b = t1 then π b + 1 else π b) (bcnt B) := fun b y z => by
          have := hP b y z
          dsimp only
          refine ⟨?_, by rw [wr_cell (by omega)]; exact this.2⟩
          by_cases hb : b = t1
          · rw [if_pos hb, hb, wr_eq]
          · rw [if_neg hb, wr_idx hb]
            exact this.1
        obtain ⟨r2, g1, g2⟩ := C_nextGreatest (fl := -1) hN hw (hF'.book hR) hP' hL' (by decide) (by decide)
        refine ⟨(r2, t2 + 1, wr t3 (q + 4) t1 (π t1 + 1)), ?_, ⟨hF', by dsimp only; omega, by dsimp only; omega, _, hP', hL', g2, ?_⟩, ?_⟩
        · rw [if_pos (ltb_t ht (by omega) (by omega)), if_neg (nq (show t1 ≠ -1 by omega) (by omega) (by omega) (by omega) (by omega)), if_pos (by omega), e4]
          dsimp only [wrk]
          rw [g1]
          rfl
        · rw [hA, LL_take hw hL x0 x1 x2 x4 x5 hp']
          dsimp only
          rw [show (a - t2).toNat = (a - (t2 + 1)).toNat + 1 by omega]
          rfl
        · have hu := sumN_upd (g := fun b => bcnt B b - t3 (q + 4) b) (g' := fun b => bcnt B b - wr t3 (q + 4) t1 (π t1 + 1) (q + 4) b) (c := t1.toNat) (B 2).toNat (by omega) (fun i _ hi => by
            rw [wr_idx (by omega)])
          rw [show ((t1.toNat : Nat) : Int) = t1 by omega, wr_eq, e4] at hu
          have hs0 : 0 ≤ sumN (fun b => bcnt B b - wr t3 (q + 4) t1 (π t1 + 1) (q + 4) b) (B 2).toNat := sumN_nn _ (fun i hi => by
            have a1 := hL' i (by omega) (by omega)
            have a2 := (hP' i (by omega) (by omega)).1
            dsimp only at a1 a2 ⊢
            omega)
          show (sumN (fun b => bcnt B b - wr t3 (q + 4) t1 (π t1 + 1) (q + 4) b) (B 2).toNat).toNat + (if r2 = -1 then 0 else 1) < (sumN (fun b => bcnt B b - t3 (q + 4) b) (B 2).toNat).toNat + (if t1 = -1 then 0 else 1)
          rw [if_neg (show t1 ≠ -1 by omega)]
          split <;> omega
      · right
        refine ⟨(t1, t3), ?_, hF, Or.inr ⟨x0, x1, ?_, ?_, ?_⟩⟩
        · rw [if_neg (nl (by omega) (by omega) (by omega))]
        · dsimp only; rw [e4]; exact pr.1
        · dsimp only; rw [e4]; exact x2
        · dsimp only; rw [e4, hA, LL_take hw hL x0 x1 x2 x4 x5 (fun b => rfl), show (a - t2).toNat = 0 by omega]
          rfl) FU (r0, 0, S1) ⟨a2, Int.le_refl _, ha, _, a3, hL0, g00, by dsimp only; rw [Int.sub_zero]⟩ (by
      have hs1 := sumN_bnd (g := fun b => bcnt B b - S1 (q + 4) b) (lo := 0) (hi := 8) (B 2).toNat (fun i hi => by
        have := bcnt_bnd hw (b := i) (by omega) (by omega)
        have := (a3 i (by omega) (by omega)).1
        dsimp only at this ⊢
        omega)
      show (sumN (fun b => bcnt B b - S1 (q + 4) b) (B 2).toNat).toNat + (if r0 = -1 then 0 else 1) < FU
      rw [FU_eq]
      split <;> omega)
  refine ⟨rr.1, rr.2, ?_, c2, c3⟩
  unfold f_X1_rankedOwner
  rw [a1, Option.bind_some, g0, Option.bind_some, c1, Option.bind_some]
/-- the reference counts along the same row -/
def ans (w : Int) (x : Int × Int) : Int := if w = 0 then x.1 else x.2
theorem get_app {α : Type} (l l' : List α) (k : Nat) : (l ++ l')[k]? = if k < l.length then l[k]? else l'[k - l.length]? := by
  rw [List.getElem?_append]
theorem M_rank1 {N : Int} {T : Mem} {b v w left : Int} (hN : N ≤ 9) (hw : WF N (T 1)) (h1 : 0 ≤ b) (h2 : b < T 1 2) (hv : 0 ≤ v ∧ v ≤ 99) (hl : 0 ≤ left ∧ left < 2147483648) (hw1 : 0 ≤ w ∧ w ≤ 1) : ∃ r, lp (f_X8_ranked_l41 T w v b) FU (left, 0) = some r ∧ (match (List.replicate (sg (T 1) (fun _ => 0) v b) (b, v))[left.toNat]? with
    | some x => r = .inr (ans w x)
    | none => r = .inl (left - sg (T 1) (fun _ => 0) v b) ∧ ((sg (T 1) (fun _ => 0) v b : Nat) : Int) ≤ left) := by
  have n1 := hw.2.2.2.2.2.1
  have c := bcnt_bnd hw h1 h2
  have sgE : ((sg (T 1) (fun _ => 0) v b : Nat) : Int) = cF (bval (T 1) b) 0 (bcnt (T 1) b).toNat v := by
    have := cF_nn (bval (T 1) b) 0 (bcnt (T 1) b).toNat v
    unfold sg
    rw [Int.sub_zero]
    dsimp only
    omega
  have mono : ∀ m d : Nat, cF (bval (T 1) b) 0 m v ≤ cF (bval (T 1) b) 0 (m + d) v := by
    intro m d
    induction d with
    | zero => exact Int.le_refl _
    | succ d ih =>
      rw [show m + (d + 1) = (m + d) + 1 by omega, cF_add1]
      split <;> omega
  obtain ⟨r, g1, g2⟩ := lp_inv (step := f_X8_ranked_l41 T w v b) (fun t => ∃ i : Nat, (i : Int) ≤ bcnt (T 1) b ∧ t = (left - cF (bval (T 1) b) 0 i v, (i : Int)) ∧ cF (bval (T 1) b) 0 i v ≤ left) (fun t => (bcnt (T 1) b - t.2).toNat) (fun r => (r = .inr (ans w (b, v)) ∧ left < cF (bval (T 1) b) 0 (bcnt (T 1) b).toNat v) ∨ (r = .inl (left - cF (bval (T 1) b) 0 (bcnt (T 1) b).toNat v) ∧ cF (bval (T 1) b) 0 (bcnt (T 1) b).toNat v ≤ left)) (by
    intro t ⟨i, hi, e, hc⟩
    subst e
    have nn := cF_nn (bval (T 1) b) 0 i v
    unfold f_X8_ranked_l41
    dsimp only
    rw [M_valuesOf h1 (by omega)]
    simp only [Option.bind_some]
    by_cases hlt : (i : Int) < bcnt (T 1) b
    · have vb := bval_bnd hw (i := i) h1 h2 (by omega) hlt
      have ca := cF_add1 (bval (T 1) b) i v
      rw [if_pos (ltb_t hlt (by omega) (by omega)), M_valueAt h1 (by omega) (by omega) (by omega)]
      simp only [Option.bind_some]
      by_cases hq : bval (T 1) b i = v
      · rw [if_pos (eqb_t hq)]
        rw [if_pos hq] at ca
        by_cases hz : left - cF (bval (T 1) b) 0 i v = 0
        · rw [if_pos (eqb_t hz)]
          right
          refine ⟨.inr (ans w (b, v)), ?_, Or.inl ⟨rfl, ?_⟩⟩
          · rcases (show w = 0 ∨ w = 1 by omega) with e | e <;> subst e
            · rw [if_pos e00]; rfl
            · rw [if_neg n10]; rfl
          · have := mono (i + 1) ((bcnt (T 1) b).toNat - (i + 1))
            rw [show i + 1 + ((bcnt (T 1) b).toNat - (i + 1)) = (bcnt (T 1) b).toNat by omega] at this
            omega
        · rw [if_neg (nq hz (by omega) (by omega) (by omega) (by omega))]
          refine Or.inl ⟨_, rfl, ⟨i + 1, by omega, ?_, by omega⟩, by dsimp only; omega⟩
          rw [ca]
          exact Prod.ext (by dsimp only; omega) rfl
      · rw [if_neg (nq hq (by omega) (by omega) (by omega) (by omega))]
        rw [if_neg hq] at ca
        refine Or.inl ⟨_, rfl, ⟨i + 1, by omega, ?_, by omega⟩, by dsimp only; omega⟩
        rw [ca, Int.add_zero]
        rfl
    · rw [if_neg (nl (by omega) (by omega) (by omega))]
      have ei : i = (bcnt (T 1) b).toNat := by omega
      subst ei
      exact Or.inr ⟨_, rfl, Or.inr ⟨rfl, hc⟩⟩) FU (left, 0) ⟨0, by omega, by show _ = (left - 0, _); rw [Int.sub_zero]; rfl, by show (0 : Int) ≤ left; omega⟩ (by dsimp only; rw [FU_eq]; omega)
  refine ⟨r, g1, ?_⟩
  rw [← sgE] at g2
  rcases g2 with ⟨e, h3⟩ | ⟨e, h3⟩
  · rw [List.getElem?_replicate, if_pos (by omega)]
    exact e
  · rw [List.getElem?_replicate, if_neg (by omega)]
    exact ⟨e, h3⟩
theorem M_rank2 {N : Int} {T : Mem} {v w left : Int} (hN : N ≤ 9) (hw : WF N (T 1)) (hv : 0 ≤ v ∧ v ≤ 99) (hl : 0 ≤ left ∧ left < 2147483648) (hw1 : 0 ≤ w ∧ w ≤ 1) : ∃ r, lp (f_X8_ranked_l29 T w v) FU (left, 0) = some r ∧ (match (LB (sg (T 1) (fun _ => 0) v) v (T 1 2).toNat)[left.toNat]? with
    | some x => r = .inr (ans w x)
    | none => r = .inl (left - ((LB (sg (T 1) (fun _ => 0) v) v (T 1 2).toNat).length : Nat)) ∧ (((LB (sg (T 1) (fun _ => 0) v) v (T 1 2).toNat).length : Nat) : Int) ≤ left) := by
  have n0 := hw.2.2.2.2.1
  have n1 := hw.2.2.2.2.2.1
  have pre : ∀ m d : Nat, ∃ l, LB (sg (T 1) (fun _ => 0) v) v (m + d) = LB (sg (T 1) (fun _ => 0) v) v m ++ l := by
    intro m d
    induction d with
    | zero => exact ⟨[], by rw [List.append_nil]; rfl⟩
    | succ d ih =>
      obtain ⟨l, e⟩ := ih
      refine ⟨l ++ List.replicate (sg (T 1) (fun _ => 0) v ((m + d : Nat) : Int)) (((m + d : Nat) : Int), v), ?_⟩
      show LB _ v (m + d) ++ List.replicate (sg (T 1) (fun _ => 0) v ((m + d : Nat) : Int)) (((m + d : Nat) : Int), v) = _
      rw [e, List.append_assoc]
  obtain ⟨r, g1, g2⟩ := lp_inv (step := f_X8_ranked_l29 T w v) (fun t => ∃ i : Nat, (i : Int) ≤ T 1 2 ∧ t = (left - ((LB (sg (T 1) (fun _ => 0) v) v i).length : Nat), (i : Int)) ∧ (((LB (sg (T 1) (fun _ => 0) v) v i).length : Nat) : Int) ≤ left) (fun t => (T 1 2 - t.2).toNat) (fun r => (match (LB (sg (T 1) (fun _ => 0) v) v (T 1 2).toNat)[left.toNat]? with
    | some x => r = .inr (ans w x)
    | none => r = .inl (left - ((LB (sg (T 1) (fun _ => 0) v) v (T 1 2).toNat).length : Nat)) ∧ (((LB (sg (T 1) (fun _ => 0) v) v (T 1 2).toNat).length : Nat) : Int) ≤ left)) (by
    intro t ⟨i, hi, e, hc⟩
    subst e
    unfold f_X8_ranked_l29
    dsimp only
    rw [M_many]
    simp only [Option.bind_some]
    by_cases hlt : (i : Int) < T 1 2
    · obtain ⟨r, a1, a2⟩ := M_rank1 (T := T) (b := i) (v := v) (w := w) (left := left - ((LB (sg (T 1) (fun _ => 0) v) v i).length : Nat)) hN hw (by omega) hlt hv (by omega) hw1
      rw [if_pos (ltb_t hlt (by omega) (by omega)), a1]
      simp only [Option.bind_some]
      have hs1 : LB (sg (T 1) (fun _ => 0) v) v (i + 1) = LB (sg (T 1) (fun _ => 0) v) v i ++ List.replicate (sg (T 1) (fun _ => 0) v i) ((i : Int), v) := rfl
      cases hx : (List.replicate (sg (T 1) (fun _ => 0) v i) ((i : Int), v))[(left - ((LB (sg (T 1) (fun _ => 0) v) v i).length : Nat)).toNat]? with
      | some x =>
        rw [hx] at a2
        dsimp only at a2
        subst a2
        right
        refine ⟨.inr (ans w x), rfl, ?_⟩
        obtain ⟨l, el⟩ := pre (i + 1) ((T 1 2).toNat - (i + 1))
        rw [show i + 1 + ((T 1 2).toNat - (i + 1)) = (T 1 2).toNat by omega] at el
        have hlen := (List.getElem?_eq_some_iff.mp hx).1
        have : (LB (sg (T 1) (fun _ => 0) v) v (T 1 2).toNat)[left.toNat]? = some x := by
          rw [el, hs1, List.append_assoc, get_app, if_neg (by omega), get_app, if_pos (by omega), show left.toNat - (LB (sg (T 1) (fun _ => 0) v) v i).length = (left - ((LB (sg (T 1) (fun _ => 0) v) v i).length : Nat)).toNat by omega, hx]
        rw [this]
      | none =>
        rw [hx] at a2
        dsimp only at a2
        obtain ⟨a2, a3⟩ := a2
        subst a2
        have hlen : (LB (sg (T 1) (fun _ => 0) v) v (i + 1)).length = (LB (sg (T 1) (fun _ => 0) v) v i).length + sg (T 1) (fun _ => 0) v i := by
          rw [hs1, List.length_append, List.length_replicate]
        refine Or.inl ⟨_, rfl, ⟨i + 1, by omega, ?_, by omega⟩, by dsimp only; omega⟩
        rw [hlen]
        exact Prod.ext (by dsimp only; omega) rfl
    · have ei : i = (T 1 2).toNat := by omega
      subst ei
      rw [if_neg (nl (by omega) (by omega) (by omega))]
      right
      refine ⟨_, rfl, ?_⟩
      rw [List.getElem?_eq_none (by omega)]
      exact ⟨rfl, hc⟩) FU (left, 0) ⟨0, by omega, by show _ = (left - ((0 : Nat) : Int), _); rw [show left - ((0 : Nat) : Int) = left by omega]; rfl, by show ((0 : Nat) : Int) ≤ left; omega⟩ (by dsimp only; rw [FU_eq]; omega)
  exact ⟨r, g1, g2⟩
theorem M_rank3 {N : Int} {T : Mem} {w : Int} (hN : N ≤ 9) (hw : WF N (T 1)) (hw1 : 0 ≤ w ∧ w ≤ 1) : ∀ (k : Nat) (left : Int) (n : Nat), k ≤ 100 → 0 ≤ left → left < 2147483648 → k < n → ∃ r, lp (f_X8_ranked_l21 T w) n (left, (k : Int) - 1) = some r ∧ (match (LV (sg (T 1) (fun _ => 0)) (T 1 2).toNat k)[left.toNat]? with
    | some x => r = .inr (ans w x)
    | none => r = .inl ()) := by
  intro k
  induction k with
  | zero =>
    intro left n _ h1 h2 hn
    obtain ⟨m, rfl⟩ : ∃ m, n = m + 1 := ⟨n - 1, by omega⟩
    refine ⟨.inl (), ?_, ?_⟩
    · unfold lp f_X8_ranked_l21
      dsimp only
      rw [if_pos (ltb_t (by omega) (by omega) (by omega))]
    · rw [show LV (sg (T 1) (fun _ => 0)) (T 1 2).toNat 0 = [] from rfl, List.getElem?_nil]
  | succ k ih =>
    intro left n hk h1 h2 hn
    obtain ⟨m, rfl⟩ : ∃ m, n = m + 1 := ⟨n - 1, by omega⟩
    obtain ⟨r, a1, a2⟩ := M_rank2 (T := T) (v := k) (w := w) (left := left) hN hw (by omega) ⟨h1, h2⟩ hw1
    have hstep : f_X8_ranked_l21 T w (left, ((k + 1 : Nat) : Int) - 1) = lct r (fun r64 => some (.inl (r64, ((k + 1 : Nat) : Int) - 1 + (-1)))) (fun u65 => some (.inr (.inr u65))) := by
      unfold f_X8_ranked_l21
      dsimp only
      rw [if_neg (nl (by omega) (by omega) (by omega)), show ((k + 1 : Nat) : Int) - 1 = (k : Int) by omega, a1]
      rfl
    have hs1 : LV (sg (T 1) (fun _ => 0)) (T 1 2).toNat (k + 1) = LB (sg (T 1) (fun _ => 0) k) k (T 1 2).toNat ++ LV (sg (T 1) (fun _ => 0)) (T 1 2).toNat k := rfl
    cases hx : (LB (sg (T 1) (fun _ => 0) k) k (T 1 2).toNat)[left.toNat]? with
    | some x =>
      rw [hx] at a2
      dsimp only at a2
      subst a2
      refine ⟨.inr (ans w x), ?_, ?_⟩
      · unfold lp
        rw [hstep]
        rfl
      · have hlen := (List.getElem?_eq_some_iff.mp hx).1
        rw [hs1, get_app, if_pos hlen, hx]
    | none =>
      rw [hx] at a2
      dsimp only at a2
      obtain ⟨a2, a3⟩ := a2
      subst a2
      obtain ⟨r, b1, b2⟩ := ih (left - ((LB (sg (T 1) (fun _ => 0) k) k (T 1 2).toNat).length : Nat)) m (by omega) (by omega) (by omega) (by omega)
      refine ⟨r, ?_, ?_⟩
      · unfold lp
        rw [hstep]
        show lp _ m (_, ((k + 1 : Nat) : Int) - 1 + (-1)) = _
        rw [show ((k + 1 : Nat) : Int) - 1 + (-1) = (k : Int) - 1 by omega]
        exact b1
      · rw [hs1, get_app, if_neg (by omega), show left.toNat - (LB (sg (T 1) (fun _ => 0) k) k (T 1 2).toNat).length = (left - ((LB (sg (T 1) (fun _ => 0) k) k (T 1 2).toNat).length : Nat)).toNat by omega]
        exact b2
/-- as many as there are values -/
theorem sumN_swap (f : Int → Int → Int) (m : Nat) : ∀ n : Nat, sumN (fun i => sumN (fun j => f i j) m) n = sumN (fun j => sumN (fun i => f i j) n) m
  | 0 => by
    rw [show sumN (fun j => sumN (fun i => f i j) 0) m = sumN (fun _ => 0) m from rfl, sumN_zero]
    rfl
  | n + 1 => by
    rw [sumN_s, sumN_swap f m n]
    rw [← sumN_add]
    rfl
theorem LB_len (f : Int → Nat) (v : Int) : ∀ n : Nat, (((LB f v n).length : Nat) : Int) = sumN (fun b => (f b : Nat)) n
  | 0 => rfl
  | n + 1 => by
    rw [sumN_s, ← LB_len f v n, show LB f v (n + 1) = LB f v n ++ List.replicate (f n) ((n : Int), v) from rfl, List.length_append, List.length_replicate]
    omega
theorem LV_len (f : Int → Int → Nat) (n : Nat) : ∀ k : Nat, (((LV f n k).length : Nat) : Int) = sumN (fun v => sumN (fun b => (f v b : Nat)) n) k
  | 0 => rfl
  | k + 1 => by
    rw [sumN_s, ← LV_len f n k, ← LB_len (f k) k n, show LV f n (k + 1) = LB (f k) k n ++ LV f n k from rfl, List.length_append]
    omega
theorem LL_len {N : Int} {B : Int → Int} (hw : WF N B) : (((LL B (fun _ => 0)).length : Nat) : Int) = sumN (fun b => bcnt B b) (B 2).toNat := by
  unfold LL
  rw [LV_len, sumN_swap]
  apply sumN_congr
  intro b hb
  have c := bcnt_bnd hw (b := b) (by omega) (by omega)
  rw [sumN_congr (h := fun v => sumN (fun i => if bval B b i = v then 1 else 0) (bcnt B b).toNat) 100 (fun v hv => by
    have := cF_nn (bval B b) 0 (bcnt B b).toNat v
    unfold sg
    rw [Int.sub_zero]
    rw [show (((cF (bval B b) 0 (bcnt B b).toNat v).toNat : Nat) : Int) = cF (bval B b) 0 (bcnt B b).toNat v by omega]
    unfold cF
    apply sumN_congr
    intro i hi
    rw [Int.zero_add]), sumN_swap]
  rw [sumN_congr (h := fun _ => 1) (bcnt B b).toNat (fun i hi => by
    have vb := bval_bnd hw (b := b) (i := i) (by omega) (by omega) (by omega) (by omega)
    rw [sumN_congr (h := fun v => if v = bval B b i then 1 else 0) 100 (fun v hv => by
      by_cases h : bval B b i = v
      · rw [if_pos h, if_pos h.symm]
      · rw [if_neg h, if_neg (fun z => h z.symm)]), sumN_ind, if_pos (by omega)])]
  have := sumN_bnd (g := fun _ => 1) (lo := 1) (hi := 1) (bcnt B b).toNat (fun i hi => by omega)
  omega
theorem C_valuesOfAll {N : Int} {B : Int → Int} {S : Mem} {q : Nat} (hN : N ≤ 9) (hw : WF N B) (hR : RB S q B) : f_X1_valuesOfAll S q = some (sumN (fun b => bcnt B b) (B 2).toNat) := by
  have n0 := hw.2.2.2.2.1
  have n1 := hw.2.2.2.2.2.1
  unfold f_X1_valuesOfAll
  rw [lp_sum (fun b => bcnt B b) (B 2).toNat (fun x i hi => by
    unfold f_X1_valuesOfAll_l4
    dsimp only
    rw [hR.2.2.1, if_pos (ltb_t (by omega) (by omega) (by omega)), if_pos (by omega), hR.2.2.2.2.1 i (by omega) (by omega)]) (fun x => by
    unfold f_X1_valuesOfAll_l4
    dsimp only
    rw [hR.2.2.1, if_neg (nl (by omega) (by omega) (by omega))]) (by omega)]
  rfl
theorem Q_ranked {S T : Mem} {a w : Int} (h : Rel S T) (ha : R32 a) (hw : R32 w) : ∃ r S', f_X7_ranked S a w = some (r, S') ∧ f_X8_ranked T a w = some r ∧ Rel S' T := by
  have n0 := h.1.2.2.2.2.1
  have n1 := h.1.2.2.2.2.2.1
  unfold f_X7_ranked f_X8_ranked
  by_cases h0 : a < 0
  · rw [if_pos (ltb_t h0 ha.1 (by omega)), if_pos (ltb_t h0 ha.1 (by omega))]
    exact ⟨_, _, rfl, rfl, h⟩
  · have q := nl (x := a) (y := 0) (by omega) (by omega) ha.2
    rw [if_neg q, if_neg q, M_inL hw (by decide) (by decide), C_valuesOfAll (by decide) h.1 h.2.1]
    simp only [Option.bind_some]
    have sb := sumN_bnd (g := fun b => bcnt (T 1) b) (lo := 0) (hi := 8) (T 1 2).toNat (fun i hi => by
      have := bcnt_bnd h.1 (b := i) (by omega) (by omega)
      omega)
    have ll := LL_len h.1
    by_cases h1 : 0 ≤ w ∧ w ≤ 1
    · rw [if_pos h1, if_neg e10]
      obtain ⟨r, a1, a2⟩ := M_rank3 (T := T) (w := w) (by decide) h.1 h1 100 a FU (by omega) (by omega) ha.2 (by rw [FU_eq]; omega)
      rw [show (((100 : Nat) : Int) - 1) = 99 by decide] at a1
      rw [a1]
      simp only [Option.bind_some]
      rw [show LV (sg (T 1) (fun _ => 0)) (T 1 2).toNat 100 = LL (T 1) (fun _ => 0) from rfl] at a2
      obtain ⟨o, S', c1, c2, c3⟩ := C_rankedOwner (q := 5) (a := a) (by decide) h.1 h.2.1 (by omega) ha.2
      have hR : Rel S' T := h.ag (AgC.fp (Or.inl rfl) c2) AgM.rf
      by_cases hl : a < sumN (fun b => bcnt (T 1) b) (T 1 2).toNat
      · rw [if_pos (ltb_t hl (by omega) (by omega))]
        unfold f_X1_rankedValue
        rw [c1]
        simp only [Option.bind_some]
        rcases c3 with ⟨e, e2⟩ | ⟨o1, o2, o3, o4, e2⟩
        · rw [e2] at a2
          dsimp only at a2
          subst a2 e
          rw [if_pos (show eqb (-1) (-1) = true by decide)]
          rcases (show w = 0 ∨ w = 1 by omega) with e | e <;> subst e
          · rw [if_pos e00]
            exact ⟨_, _, rfl, rfl, hR⟩
          · rw [if_neg n10, if_pos n11]
            exact ⟨_, _, rfl, rfl, hR⟩
        · rw [e2] at a2
          dsimp only at a2
          subst a2
          rw [if_neg (nq (show o ≠ -1 by omega) (by omega) (by omega) (by omega) (by omega)), if_pos (show 0 ≤ o ∧ o < 9 by omega), C_valueAt (q := 5) (by decide) h.1 hR.2.1 o1 o2 o3 o4]
          rcases (show w = 0 ∨ w = 1 by omega) with e | e <;> subst e
          · rw [if_pos e00]
            exact ⟨_, _, rfl, rfl, hR⟩
          · rw [if_neg n10, if_pos n11]
            exact ⟨_, _, rfl, rfl, hR⟩
      · rw [if_neg (nl (by omega) (by omega) ha.2)]
        rw [List.getElem?_eq_none (by omega)] at a2
        dsimp only at a2
        subst a2
        exact ⟨_, _, rfl, rfl, h⟩
    · rw [if_neg h1, if_pos e00, if_neg (hw.ne (by omega) (by decide) (by decide)), if_neg (hw.ne (by omega) (by decide) (by decide))]
      split
      · exact ⟨_, _, rfl, rfl, h⟩
      · exact ⟨_, _, rfl, rfl, h⟩
