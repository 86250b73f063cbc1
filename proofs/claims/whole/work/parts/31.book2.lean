/-! ===== one value more, one value less, in the book ===== -/
theorem C_insLoop {S : Mem} {q : Nat} {b v c : Int} {g : Int → Int} (h1 : 0 ≤ b) (h2 : b < 9) (hc : 0 ≤ c ∧ c ≤ 7) (hv : 0 ≤ v ∧ v ≤ 99) (he : ∀ i, 0 ≤ i → i < c → S (q + 3) (b * 8 + i) = g i) (hb : ∀ i, 0 ≤ i → i < c → 0 ≤ g i ∧ g i ≤ 99) (p : Int) (hp : 0 ≤ p ∧ p ≤ c) (hp1 : ∀ i, 0 ≤ i → i < p → v ≤ g i) (hp2 : ∀ i, p ≤ i → i < c → g i < v) : ∃ S', lp (f_X1_insertValue_l43 q b v (b * 8)) FU (c, S) = some (p, S') ∧ (∀ k, k ≠ q + 3 → S' k = S k) ∧ ∀ x, S' (q + 3) x = if b * 8 + p < x ∧ x ≤ b * 8 + c then S (q + 3) (x - 1) else S (q + 3) x := by
  obtain ⟨r, g1, g2, g3, g4⟩ := lp_rel (step := f_X1_insertValue_l43 q b v (b * 8)) (fun i (t : Int × Mem) => t.1 = c - i ∧ (∀ k, k ≠ q + 3 → t.2 k = S k) ∧ ∀ x, t.2 (q + 3) x = if b * 8 + (c - i) < x ∧ x ≤ b * 8 + c then S (q + 3) (x - 1) else S (q + 3) x) (fun (r : Int × Mem) => r.1 = p ∧ (∀ k, k ≠ q + 3 → r.2 k = S k) ∧ ∀ x, r.2 (q + 3) x = if b * 8 + p < x ∧ x ≤ b * 8 + c then S (q + 3) (x - 1) else S (q + 3) x) (c - p).toNat (by
    intro i t hi ⟨e0, e1, e2⟩
    obtain ⟨t1, t2⟩ := t
    dsimp only at e0 e1 e2 ⊢
    subst e0
    have ev : t2 (q + 3) (b * 8 + (c - i) - 1) = g (c - i - 1) := by
      rw [e2, if_neg (by omega), ← he (c - i - 1) (by omega) (by omega)]
      congr 1
      omega
    have l := hp2 (c - i - 1) (by omega) (by omega)
    have l2 := hb (c - i - 1) (by omega) (by omega)
    refine ⟨(c - i + (-1), wr t2 (q + 3) (b * 8 + (c - i)) (t2 (q + 3) (b * 8 + (c - i) - 1))), ?_, by dsimp only; omega, fun k hk => by dsimp only; rw [wr_ne hk]; exact e1 k hk, fun x => ?_⟩
    · unfold f_X1_insertValue_l43
      dsimp only
      rw [if_pos (ltb_t (by omega) (by omega) (by omega)), if_pos (by omega), if_pos (show ltb (t2 (q + 3) (b * 8 + (c - i) - 1)) v = true by rw [ev]; exact ltb_t l (by omega) (by omega)), if_pos (by omega)]
      rfl
    · dsimp only
      rw [wr_at]
      by_cases hx : x = b * 8 + (c - i)
      · rw [if_pos hx, if_pos (by omega), e2, if_neg (by omega), hx]
      · rw [if_neg hx, e2]
        by_cases h : b * 8 + (c - i) < x ∧ x ≤ b * 8 + c
        · rw [if_pos h, if_pos (by omega)]
        · rw [if_neg h, if_neg (by omega)]) (by
    intro t ⟨e0, e1, e2⟩
    obtain ⟨t1, t2⟩ := t
    dsimp only at e0 e1 e2 ⊢
    have ep : t1 = p := by omega
    subst ep
    rw [show c - (((c - t1).toNat : Nat) : Int) = t1 by omega] at e2
    refine ⟨(t1, t2), ?_, rfl, e1, e2⟩
    unfold f_X1_insertValue_l43
    dsimp only
    by_cases h0 : 0 < t1
    · have ev : t2 (q + 3) (b * 8 + t1 - 1) = g (t1 - 1) := by
        rw [e2, if_neg (by omega), ← he (t1 - 1) (by omega) (by omega)]
        congr 1
        omega
      have l := hp1 (t1 - 1) (by omega) (by omega)
      have l2 := hb (t1 - 1) (by omega) (by omega)
      rw [if_pos (ltb_t h0 (by omega) (by omega)), if_pos (by omega), if_neg (show ¬ ltb (t2 (q + 3) (b * 8 + t1 - 1)) v = true by rw [ev]; exact nl l (by omega) (by omega))]
    · rw [if_neg (nl (by omega) (by omega) (by omega))]) (n := FU) (by rw [FU_eq]; omega) (s := (c, S)) ⟨by dsimp only; omega, fun _ _ => rfl, fun x => by rw [if_neg (by omega)]⟩
  exact ⟨r.2, by rw [g1, ← g2], g3, g4⟩
theorem comes_0 {B : Int → Int} {b v : Int} (h1 : 0 ≤ b) (hc : 0 ≤ bcnt B b) : comesR B b v 0 = B 0 ∧ comesR B b v 1 = B 1 ∧ comesR B b v 2 = B 2 := by
  have pb := pos_bnd (v := v) hc
  unfold comesR
  refine ⟨?_, ?_, ?_⟩ <;> rw [if_neg (by omega), if_neg (by omega), if_neg (by omega)]
theorem comes_cap {B : Int → Int} {b v c : Int} (h1 : 0 ≤ b) (hc : 0 ≤ bcnt B b ∧ bcnt B b < 8) (h3 : 0 ≤ c) : bcap (comesR B b v) c = bcap B c ∧ bcnt (comesR B b v) c = (if c = b then bcnt B b + 1 else bcnt B c) ∧ ∀ i, 0 ≤ i → i < 8 → bval (comesR B b v) c i = if c = b ∧ i ≤ bcnt B b then (if i < pos B b v then bval B b i else if i = pos B b v then v else bval B b (i - 1)) else bval B c i := by
  have pb := pos_bnd (v := v) hc.1
  refine ⟨?_, ?_, fun i i0 i1 => ?_⟩
  · unfold bcap comesR
    rw [if_neg (by omega), if_neg (by omega), if_neg (by omega)]
  · by_cases h : c = b
    · subst h
      rw [if_pos rfl]
      show (if _ then _ else _) = _
      rw [if_pos rfl]
    · rw [if_neg h]
      show (if (3 + 10 * c + 1 : Int) = 3 + 10 * b + 1 then _ else if (3 + 10 * c + 1 : Int) = _ then _ else if _ then _ else _) = _
      rw [if_neg (by omega), if_neg (by omega), if_neg (by omega)]
      rfl
  · show (if (3 + 10 * c + 2 + i : Int) = 3 + 10 * b + 1 then bcnt B b + 1 else if (3 + 10 * c + 2 + i : Int) = 3 + 10 * b + 2 + pos B b v then v else if 3 + 10 * b + 2 + pos B b v < 3 + 10 * c + 2 + i ∧ 3 + 10 * c + 2 + i ≤ 3 + 10 * b + 2 + bcnt B b then B (3 + 10 * c + 2 + i - 1) else B (3 + 10 * c + 2 + i)) = _
    rw [if_neg (by omega)]
    by_cases h : c = b ∧ i ≤ bcnt B b
    · obtain ⟨e, h⟩ := h
      subst e
      rw [if_pos (show c = c ∧ i ≤ bcnt B c from ⟨rfl, h⟩)]
      by_cases h5 : i < pos B c v
      · rw [if_neg (by omega), if_neg (by omega), if_pos h5]
        rfl
      · rw [if_neg h5]
        by_cases h6 : i = pos B c v
        · rw [if_pos (by omega), if_pos h6]
        · rw [if_neg (by omega), if_pos (by omega), if_neg h6]
          unfold bval
          congr 1
          omega
    · rw [if_neg h, if_neg (by omega), if_neg (by omega)]
      rfl
theorem comes_WF {N : Int} {B : Int → Int} {b v : Int} (hw : WF N B) (h1 : 0 ≤ b) (h2 : b < B 2) (h3 : bcnt B b < 8) (hv : 0 ≤ v ∧ v ≤ 99) : WF N (comesR B b v) := by
  have c0 := bcnt_bnd hw h1 h2
  have pb := pos_bnd (v := v) c0.2.2.1
  obtain ⟨z0, z1, z2⟩ := comes_0 (v := v) h1 c0.2.2.1
  have hw' := hw
  obtain ⟨a0, a1, a2, a3, a4, a5, a6, a7, a8⟩ := hw
  have key : ∀ c i, 0 ≤ c → c < B 2 → 0 ≤ i → i < bcnt (comesR B b v) c → 0 ≤ bval (comesR B b v) c i ∧ bval (comesR B b v) c i ≤ 99 := by
    intro c i x y z u
    have k := comes_cap (v := v) h1 ⟨c0.2.2.1, h3⟩ x
    have cb := a6 c x y
    rw [k.2.1] at u
    by_cases hc : c = b
    · subst hc
      rw [if_pos rfl] at u
      rw [k.2.2 i z (by omega), if_pos ⟨rfl, by omega⟩]
      by_cases h5 : i < pos B c v
      · rw [if_pos h5]; exact a7 c i x y z (by omega)
      · rw [if_neg h5]
        by_cases h6 : i = pos B c v
        · rw [if_pos h6]; exact hv
        · rw [if_neg h6]; exact a7 c (i - 1) x y (by omega) (by omega)
    · rw [if_neg hc] at u
      rw [k.2.2 i z (by omega), if_neg (fun w => hc w.1)]
      exact a7 c i x y z u
  refine ⟨by omega, by omega, by omega, by omega, by omega, by omega, fun c x y => ?_, fun c i x y z u => key c i x (by omega) z u, fun c i x y z u => ?_⟩
  · have k := comes_cap (v := v) h1 ⟨c0.2.2.1, h3⟩ x
    have cb := a6 c x (by omega)
    rw [k.1, k.2.1]
    by_cases hc : c = b
    · subst hc
      rw [if_pos rfl]
      omega
    · rw [if_neg hc]
      exact cb
  · have k := comes_cap (v := v) h1 ⟨c0.2.2.1, h3⟩ x
    have cb := a6 c x (by omega)
    rw [k.2.1] at u
    by_cases hc : c = b
    · subst hc
      rw [if_pos rfl] at u
      rw [k.2.2 i z (by omega), k.2.2 (i + 1) (by omega) (by omega), if_pos (show c = c ∧ i + 1 ≤ bcnt B c from ⟨rfl, by omega⟩), if_pos (show c = c ∧ i ≤ bcnt B c from ⟨rfl, by omega⟩)]
      by_cases h5 : i + 1 < pos B c v
      · rw [if_pos h5, if_pos (by omega)]
        exact a8 c i x h2 z (by omega)
      · rw [if_neg h5]
        by_cases h6 : i + 1 = pos B c v
        · rw [if_pos h6, if_pos (by omega)]
          exact pos_in z (by omega)
        · rw [if_neg h6]
          by_cases h7 : i = pos B c v
          · rw [if_neg (by omega), if_pos h7, show i + 1 - 1 = i by omega]
            have := pos_after hw' (v := v) h1 h2 (i := i) (by omega) (by omega)
            omega
          · rw [if_neg (by omega), if_neg h7, show i + 1 - 1 = (i - 1) + 1 by omega]
            exact a8 c (i - 1) x h2 (by omega) (by omega)
    · rw [if_neg hc] at u
      rw [k.2.2 i z (by omega), k.2.2 (i + 1) (by omega) (by omega), if_neg (fun w => hc w.1), if_neg (fun w => hc w.1)]
      exact a8 c i x (by omega) z u
theorem C_insertValue {N : Int} {B : Int → Int} {S : Mem} {q : Nat} {b v : Int} (hN : N ≤ 9) (hw : WF N B) (hR : RB S q B) (h1 : 0 ≤ b) (h2 : b < B 2) (h3 : bcnt B b < 8) (hv : 0 ≤ v ∧ v ≤ 99) : ∃ S', f_X1_insertValue S q b v = some S' ∧ RB S' q (comesR B b v) ∧ FrB S S' q := by
  have n1 := hw.2.2.2.2.2.1
  have c0 := bcnt_bnd hw h1 h2
  have pb := pos_bnd (v := v) c0.2.2.1
  have ec := hR.2.2.2.2.1 b h1 h2
  obtain ⟨S1, g1, g2, g3⟩ := C_insLoop (S := S) (q := q) (b := b) (v := v) (c := bcnt B b) (g := bval B b) h1 (by omega) (by omega) hv (fun i x y => hR.2.2.2.2.2 b i h1 h2 x y) (fun i x y => bval_bnd hw h1 h2 x y) (pos B b v) pb (fun i x y => pos_in x y) (fun i x y => pos_after hw h1 h2 x y)
  obtain ⟨z0, z1, z2⟩ := comes_0 (v := v) h1 c0.2.2.1
  refine ⟨wr (wr S1 (q + 3) (b * 8 + pos B b v) v) (q + 1) b (bcnt B b + 1), ?_, ⟨?_, ?_, ?_, fun c x y => ?_, fun c x y => ?_, fun c i x y z u => ?_⟩, fun k k0 k1 k2 k3 => ?_⟩
  · unfold f_X1_insertValue
    rw [if_pos (by omega), ec, if_pos (ltb_t h3 (by omega) (by omega)), mnb_le (by omega) (by omega) (by omega) (by omega), show min (bcnt B b) 7 = bcnt B b by omega, g1, Option.bind_some]
    dsimp only
    rw [if_pos (by omega)]
    dsimp only [wrk]
    rw [if_pos (by omega), wr_cell (by omega), g2 (q + 1) (by omega), ec, mnb_le (by omega) (by omega) (by omega) (by omega), show min (bcnt B b + 1) 8 = bcnt B b + 1 by omega]
  · rw [wr_cell (by omega), wr_cell (by omega), g2 q (by omega), z0]; exact hR.1
  · rw [wr_cell (by omega), wr_cell (by omega), g2 q (by omega), z1]; exact hR.2.1
  · rw [wr_cell (by omega), wr_cell (by omega), g2 q (by omega), z2]; exact hR.2.2.1
  · have k := comes_cap (v := v) h1 ⟨c0.2.2.1, h3⟩ x
    rw [wr_cell (by omega), wr_cell (by omega), g2 (q + 2) (by omega), k.1]
    exact hR.2.2.2.1 c x (by omega)
  · have k := comes_cap (v := v) h1 ⟨c0.2.2.1, h3⟩ x
    rw [k.2.1, wr_at]
    by_cases hc : c = b
    · rw [if_pos hc, if_pos hc]
    · rw [if_neg hc, if_neg hc, wr_cell (by omega), g2 (q + 1) (by omega)]
      exact hR.2.2.2.2.1 c x (by omega)
  · have k := comes_cap (v := v) h1 ⟨c0.2.2.1, h3⟩ x
    have cb := bcnt_bnd hw x (show c < B 2 by omega)
    rw [k.2.1] at u
    rw [wr_cell (by omega), wr_at]
    by_cases hc : c = b
    · subst hc
      rw [if_pos rfl] at u
      rw [k.2.2 i z (by omega), if_pos (show c = c ∧ i ≤ bcnt B c from ⟨rfl, by omega⟩)]
      by_cases h6 : i = pos B c v
      · rw [if_pos (by omega), if_neg (by omega), if_pos h6]
      · rw [if_neg (by omega), g3]
        by_cases h5 : i < pos B c v
        · rw [if_neg (by omega), if_pos h5]
          exact hR.2.2.2.2.2 c i x h2 z (by omega)
        · rw [if_pos (by omega), if_neg h5, if_neg h6]
          have := hR.2.2.2.2.2 c (i - 1) x h2 (by omega) (by omega)
          rw [← this]
          congr 1
          omega
    · rw [if_neg hc] at u
      rw [k.2.2 i z (by omega), if_neg (show ¬ (c = b ∧ i ≤ bcnt B b) from fun w => hc w.1), if_neg (by omega), g3, if_neg (by omega)]
      exact hR.2.2.2.2.2 c i x (by omega) z u
  · rw [wr_ne k1, wr_ne k3]
    exact g2 k k3
/-! values go from a place on -/
def cutR (B : Int → Int) (b i m : Int) : Int → Int := fun j => if j = 3 + 10 * b + 1 then bcnt B b - m else if 3 + 10 * b + 2 + i ≤ j ∧ j < 3 + 10 * b + 2 + bcnt B b - m then B (j + m) else B j
theorem cut_one (B : Int → Int) (b i : Int) : cutR B b i 1 = dropsR B b i := rfl
theorem cut_0 {B : Int → Int} {b i m : Int} (h1 : 0 ≤ b) (h3 : 0 ≤ i) : cutR B b i m 0 = B 0 ∧ cutR B b i m 1 = B 1 ∧ cutR B b i m 2 = B 2 := by
  unfold cutR
  refine ⟨?_, ?_, ?_⟩ <;> rw [if_neg (by omega), if_neg (by omega)]
theorem cut_cap {B : Int → Int} {b i m c : Int} (h1 : 0 ≤ b) (h3 : 0 ≤ i) (hm : 0 ≤ m) (hc : bcnt B b ≤ 8) (h4 : 0 ≤ c) : bcap (cutR B b i m) c = bcap B c ∧ bcnt (cutR B b i m) c = (if c = b then bcnt B b - m else bcnt B c) ∧ ∀ j, 0 ≤ j → j < 8 → bval (cutR B b i m) c j = if c = b ∧ i ≤ j ∧ j < bcnt B b - m then bval B b (j + m) else bval B c j := by
  refine ⟨?_, ?_, fun j j0 j1 => ?_⟩
  · unfold bcap cutR
    rw [if_neg (by omega), if_neg (by omega)]
  · by_cases h : c = b
    · subst h
      rw [if_pos rfl]
      show (if _ then _ else _) = _
      rw [if_pos rfl]
    · rw [if_neg h]
      show (if (3 + 10 * c + 1 : Int) = 3 + 10 * b + 1 then _ else if _ then _ else _) = _
      rw [if_neg (by omega), if_neg (by omega)]
      rfl
  · show (if (3 + 10 * c + 2 + j : Int) = 3 + 10 * b + 1 then bcnt B b - m else if 3 + 10 * b + 2 + i ≤ 3 + 10 * c + 2 + j ∧ 3 + 10 * c + 2 + j < 3 + 10 * b + 2 + bcnt B b - m then B (3 + 10 * c + 2 + j + m) else B (3 + 10 * c + 2 + j)) = _
    rw [if_neg (by omega)]
    by_cases h : c = b ∧ i ≤ j ∧ j < bcnt B b - m
    · rw [if_pos h, if_pos (by omega), h.1]
      unfold bval
      congr 1
      omega
    · rw [if_neg h, if_neg (by omega)]
      rfl
theorem cut_WF {N : Int} {B : Int → Int} {b i m : Int} (hw : WF N B) (h1 : 0 ≤ b) (h2 : b < B 2) (h3 : 0 ≤ i) (hm : 0 ≤ m) (h4 : i + m ≤ bcnt B b) : WF N (cutR B b i m) := by
  have c0 := bcnt_bnd hw h1 h2
  obtain ⟨z0, z1, z2⟩ := cut_0 (B := B) (m := m) h1 h3
  have hw' := hw
  obtain ⟨a0, a1, a2, a3, a4, a5, a6, a7, a8⟩ := hw
  refine ⟨by omega, by omega, by omega, by omega, by omega, by omega, fun c x y => ?_, fun c j x y z u => ?_, fun c j x y z u => ?_⟩
  · have k := cut_cap (B := B) (i := i) (m := m) h1 h3 hm c0.2.2.2 x
    have cb := a6 c x (by omega)
    rw [k.1, k.2.1]
    by_cases hc : c = b
    · subst hc
      rw [if_pos rfl]
      omega
    · rw [if_neg hc]
      exact cb
  · have k := cut_cap (B := B) (i := i) (m := m) h1 h3 hm c0.2.2.2 x
    have cb := a6 c x (by omega)
    rw [k.2.1] at u
    by_cases hc : c = b
    · subst hc
      rw [if_pos rfl] at u
      rw [k.2.2 j z (by omega)]
      split
      · exact a7 c (j + m) x h2 (by omega) (by omega)
      · exact a7 c j x h2 z (by omega)
    · rw [if_neg hc] at u
      rw [k.2.2 j z (by omega), if_neg (fun w => hc w.1)]
      exact a7 c j x (by omega) z u
  · have k := cut_cap (B := B) (i := i) (m := m) h1 h3 hm c0.2.2.2 x
    have cb := a6 c x (by omega)
    rw [k.2.1] at u
    by_cases hc : c = b
    · subst hc
      rw [if_pos rfl] at u
      rw [k.2.2 j z (by omega), k.2.2 (j + 1) (by omega) (by omega)]
      by_cases h5 : i ≤ j
      · rw [if_pos (by omega), if_pos (by omega), show j + 1 + m = (j + m) + 1 by omega]
        exact a8 c (j + m) x h2 (by omega) (by omega)
      · rw [if_neg (show ¬ (c = c ∧ i ≤ j ∧ j < bcnt B c - m) by omega)]
        by_cases h6 : i ≤ j + 1
        · rw [if_pos (by omega)]
          have := bval_mono hw' h1 h2 (m + 1).toNat j z (by omega)
          rw [show j + (((m + 1).toNat : Nat) : Int) = j + 1 + m by omega] at this
          exact this
        · rw [if_neg (by omega)]
          exact a8 c j x h2 z (by omega)
    · rw [if_neg hc] at u
      rw [k.2.2 j z (by omega), k.2.2 (j + 1) (by omega) (by omega), if_neg (fun w => hc w.1), if_neg (fun w => hc w.1)]
      exact a8 c j x (by omega) z u
theorem C_dropValues {N : Int} {B : Int → Int} {S : Mem} {q : Nat} {b i m : Int} (hN : N ≤ 9) (hw : WF N B) (hR : RB S q B) (h1 : 0 ≤ b) (h2 : b < B 2) (h3 : 0 ≤ i) (hm : 0 ≤ m) (h4 : i + m ≤ bcnt B b) : ∃ S', f_X1_dropValues S q b i m = some S' ∧ RB S' q (cutR B b i m) ∧ (∀ k, k ≠ q + 1 → k ≠ q + 3 → S' k = S k) := by
  have n1 := hw.2.2.2.2.2.1
  have c0 := bcnt_bnd hw h1 h2
  have ec := hR.2.2.2.2.1 b h1 h2
  obtain ⟨z0, z1, z2⟩ := cut_0 (B := B) (m := m) h1 h3
  refine ⟨wr (cpy S (q + 3) (b * 8 + i + m) (q + 3) (b * 8 + i) (bcnt B b - i - m)) (q + 1) b (bcnt B b - m), ?_, ⟨?_, ?_, ?_, fun c x y => ?_, fun c x y => ?_, fun c j x y z u => ?_⟩, fun k k1 k3 => ?_⟩
  · unfold f_X1_dropValues
    rw [if_pos (by omega), ec, if_pos (by omega)]
    dsimp only [cpyk, wrk]
    rw [cpy_ne (by omega), ec]
  · rw [wr_cell (by omega), cpy_ne (by omega), z0]; exact hR.1
  · rw [wr_cell (by omega), cpy_ne (by omega), z1]; exact hR.2.1
  · rw [wr_cell (by omega), cpy_ne (by omega), z2]; exact hR.2.2.1
  · have k := cut_cap (B := B) (i := i) (m := m) h1 h3 hm c0.2.2.2 x
    rw [wr_cell (by omega), cpy_ne (by omega), k.1]
    exact hR.2.2.2.1 c x (by omega)
  · have k := cut_cap (B := B) (i := i) (m := m) h1 h3 hm c0.2.2.2 x
    rw [k.2.1, wr_at]
    by_cases hc : c = b
    · rw [if_pos hc, if_pos hc]
    · rw [if_neg hc, if_neg hc, cpy_ne (by omega)]
      exact hR.2.2.2.2.1 c x (by omega)
  · have k := cut_cap (B := B) (i := i) (m := m) h1 h3 hm c0.2.2.2 x
    have cb := bcnt_bnd hw x (show c < B 2 by omega)
    rw [k.2.1] at u
    rw [wr_cell (by omega), cpy_at]
    by_cases hc : c = b
    · subst hc
      rw [if_pos rfl] at u
      rw [k.2.2 j z (by omega)]
      by_cases h5 : i ≤ j
      · rw [if_pos (by omega), if_pos (by omega)]
        have := hR.2.2.2.2.2 c (j + m) x h2 (by omega) (by omega)
        rw [← this]
        congr 1
        omega
      · rw [if_neg (by omega), if_neg (by omega)]
        exact hR.2.2.2.2.2 c j x h2 z (by omega)
    · rw [if_neg hc] at u
      rw [k.2.2 j z (by omega), if_neg (show ¬ (c = b ∧ i ≤ j ∧ j < bcnt B b - m) from fun w => hc w.1), if_neg (by omega)]
      exact hR.2.2.2.2.2 c j x (by omega) z u
  · rw [wr_ne k1, cpy_ne k3]
