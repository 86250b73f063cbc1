/-! ===== the system's book: taken, one bidder less, one value more or less ===== -/
def FrB (S S' : Mem) (q : Nat) : Prop := ∀ k, k ≠ q → k ≠ q + 1 → k ≠ q + 2 → k ≠ q + 3 → S' k = S k
theorem FrB.rf {S : Mem} {q : Nat} : FrB S S q := fun _ _ _ _ _ => rfl
theorem FrB.tr {S S1 S2 : Mem} {q : Nat} (h : FrB S S1 q) (g : FrB S1 S2 q) : FrB S S2 q := fun k a b c d => (g k a b c d).trans (h k a b c d)
/-- two rows that say the same -/
def Sm (B B' : Int → Int) : Prop := B' 0 = B 0 ∧ B' 1 = B 1 ∧ B' 2 = B 2 ∧ ∀ b, 0 ≤ b → b < B 2 → bcap B' b = bcap B b ∧ bcnt B' b = bcnt B b ∧ ∀ i, 0 ≤ i → i < bcnt B b → bval B' b i = bval B b i
theorem RB.sm {S : Mem} {q : Nat} {B B' : Int → Int} (h : RB S q B) (g : Sm B B') : RB S q B' := by
  obtain ⟨a1, a2, a3, a4, a5, a6⟩ := h
  obtain ⟨g1, g2, g3, g4⟩ := g
  refine ⟨by rw [g1]; exact a1, by rw [g2]; exact a2, by rw [g3]; exact a3, fun b x y => ?_, fun b x y => ?_, fun b i x y z u => ?_⟩
  · rw [(g4 b x (by omega)).1]; exact a4 b x (by omega)
  · rw [(g4 b x (by omega)).2.1]; exact a5 b x (by omega)
  · have c := g4 b x (by omega)
    rw [c.2.2 i z (by omega)]
    exact a6 b i x (by omega) z (by omega)
theorem WF.sm {N : Int} {B B' : Int → Int} (h : WF N B) (g : Sm B B') : WF N B' := by
  obtain ⟨a0, a1, a2, a3, a4, a5, a6, a7, a8⟩ := h
  obtain ⟨g1, g2, g3, g4⟩ := g
  refine ⟨by omega, by omega, by omega, by omega, by omega, by omega, fun b x y => ?_, fun b i x y z u => ?_, fun b i x y z u => ?_⟩
  · have c := g4 b x (by omega)
    rw [c.1, c.2.1]
    exact a6 b x (by omega)
  · have c := g4 b x (by omega)
    rw [c.2.2 i z (by omega)]
    exact a7 b i x (by omega) z (by omega)
  · have c := g4 b x (by omega)
    rw [c.2.2 i z (by omega), c.2.2 (i + 1) (by omega) (by omega)]
    exact a8 b i x (by omega) z (by omega)
theorem cpy_ne {S : Mem} {q0 q1 k : Nat} {sp dp n : Int} (h : k ≠ q1) : cpy S q0 sp q1 dp n k = S k := by
  funext j
  unfold cpy
  rw [if_neg (fun z => h z.1)]
theorem cpy_at (S : Mem) (q0 q1 : Nat) (sp dp n x : Int) : cpy S q0 sp q1 dp n q1 x = if dp ≤ x ∧ x < dp + n then S q0 (sp + (x - dp)) else S q1 x := by
  unfold cpy
  by_cases h : dp ≤ x ∧ x < dp + n
  · rw [if_pos ⟨rfl, h⟩, if_pos h]
  · rw [if_neg (fun z => h z.2), if_neg h]
theorem wr_at (S : Mem) (q : Nat) (i v x : Int) : wr S q i v q x = if x = i then v else S q x := by
  by_cases h : x = i
  · rw [if_pos h, h, wr_eq]
  · rw [if_neg h, wr_idx h]
theorem C_setLike {S : Mem} {th q : Nat} {a c : Int} (hd : th = q ∨ th + 3 < q ∨ q + 3 < th) (h1 : 0 ≤ a) (h2 : a < 9) (h3 : 0 ≤ c) (h4 : c < 9) : ∃ S', f_X1_setLike S th a q c = some S' ∧ (∀ k, k ≠ th + 1 → k ≠ th + 2 → k ≠ th + 3 → S' k = S k) ∧ (∀ x, S' (th + 1) x = if x = a then S (q + 1) c else S (th + 1) x) ∧ (∀ x, S' (th + 2) x = if x = a then S (q + 2) c else S (th + 2) x) ∧ ∀ x, S' (th + 3) x = if a * 8 ≤ x ∧ x < a * 8 + 8 then S (q + 3) (c * 8 + (x - a * 8)) else S (th + 3) x := by
  refine ⟨cpy (wr (wr S (th + 1) a (S (q + 1) c)) (th + 2) a (S (q + 2) c)) (q + 3) (c * 8) (th + 3) (a * 8) 8, ?_, fun k k1 k2 k3 => ?_, fun x => ?_, fun x => ?_, fun x => ?_⟩
  · unfold f_X1_setLike
    rw [if_pos ⟨h3, h4⟩, if_pos ⟨h1, h2⟩]
    dsimp only [wrk]
    rw [wr_cell (k := q + 2) (by omega), if_pos (by omega)]
    rfl
  · rw [cpy_ne k3, wr_ne k2, wr_ne k1]
  · rw [cpy_ne (by omega), wr_cell (by omega), wr_at]
  · rw [cpy_ne (by omega), wr_at, wr_cell (by omega)]
  · rw [cpy_at, wr_cell (by omega), wr_cell (by omega), wr_cell (k := th + 3) (by omega), wr_cell (k := th + 3) (by omega)]
theorem C_takeFrom {N : Int} {B : Int → Int} {S : Mem} {th q : Nat} (hd : th + 3 < q ∨ q + 3 < th) (hN : N ≤ 9) (hw : WF N B) (hR : RB S q B) : ∃ S', f_X1_takeFrom S th q = some S' ∧ RB S' th B ∧ FrB S S' th := by
  have n0 := hw.2.2.2.2.1
  have n1 := hw.2.2.2.2.2.1
  let S0 := wr (wr (wr S th 0 (S q 0)) th 1 (S q 1)) th 2 (S q 2)
  have z : ∀ k, k ≠ th → S0 k = S k := fun k hk => by show wr _ _ _ _ k = _; rw [wr_ne hk, wr_ne hk, wr_ne hk]
  obtain ⟨S', g1, g2, g3, g4⟩ := lp_rel (step := f_X1_takeFrom_l26 th q) (fun i (t : Int × Mem) => t.1 = i ∧ t.2 th = S0 th ∧ (∀ k, k ≠ th → k ≠ th + 1 → k ≠ th + 2 → k ≠ th + 3 → t.2 k = S k) ∧ ∀ b, 0 ≤ b → b < (i : Int) → t.2 (th + 1) b = S (q + 1) b ∧ t.2 (th + 2) b = S (q + 2) b ∧ ∀ j, 0 ≤ j → j < 8 → t.2 (th + 3) (b * 8 + j) = S (q + 3) (b * 8 + j)) (fun (t : Mem) => t th = S0 th ∧ (∀ k, k ≠ th → k ≠ th + 1 → k ≠ th + 2 → k ≠ th + 3 → t k = S k) ∧ ∀ b, 0 ≤ b → b < B 2 → t (th + 1) b = S (q + 1) b ∧ t (th + 2) b = S (q + 2) b ∧ ∀ j, 0 ≤ j → j < 8 → t (th + 3) (b * 8 + j) = S (q + 3) (b * 8 + j)) (B 2).toNat (by
    intro i t hi ⟨e0, e1, e2, e3⟩
    obtain ⟨t1, t2⟩ := t
    dsimp only at e0 e1 e2 e3 ⊢
    subst e0
    obtain ⟨u, u1, u2, u3, u4, u5⟩ := C_setLike (S := t2) (th := th) (q := q) (a := i) (c := i) (by omega) (by omega) (by omega) (by omega) (by omega)
    refine ⟨((i : Int) + 1, u), ?_, rfl, ?_, fun k k0 k1 k2 k3 => ?_, fun b b0 b1 => ?_⟩
    · unfold f_X1_takeFrom_l26
      dsimp only
      have en : t2 th 2 = B 2 := by
        rw [e1]
        show wr _ th 2 _ th 2 = _
        rw [wr_eq]
        exact hR.2.2.1
      rw [if_pos (show ltb (i : Int) (t2 th 2) = true by rw [en]; exact ltb_t (by omega) (by omega) (by omega)), u1]
      rfl
    · dsimp only
      rw [u2 th (by omega) (by omega) (by omega)]
      exact e1
    · dsimp only
      rw [u2 k k1 k2 k3]
      exact e2 k k0 k1 k2 k3
    · dsimp only
      have r1 := e2 (q + 1) (by omega) (by omega) (by omega) (by omega)
      have r2 := e2 (q + 2) (by omega) (by omega) (by omega) (by omega)
      have r3 := e2 (q + 3) (by omega) (by omega) (by omega) (by omega)
      by_cases hb : b = i
      · subst hb
        refine ⟨by rw [u3, if_pos rfl, r1], by rw [u4, if_pos rfl, r2], fun j j0 j1 => ?_⟩
        rw [u5, if_pos (by omega), r3]
        congr 1
        omega
      · have r := e3 b b0 (by omega)
        refine ⟨by rw [u3, if_neg hb]; exact r.1, by rw [u4, if_neg hb]; exact r.2.1, fun j j0 j1 => ?_⟩
        rw [u5, if_neg (by omega)]
        exact r.2.2 j j0 j1) (by
    intro t ⟨e0, e1, e2, e3⟩
    obtain ⟨t1, t2⟩ := t
    dsimp only at e0 e1 e2 e3 ⊢
    subst e0
    refine ⟨t2, ?_, e1, e2, fun b b0 b1 => e3 b b0 (by omega)⟩
    unfold f_X1_takeFrom_l26
    dsimp only
    have en : t2 th 2 = B 2 := by
      rw [e1]
      show wr _ th 2 _ th 2 = _
      rw [wr_eq]
      exact hR.2.2.1
    rw [if_neg (show ¬ ltb (((B 2).toNat : Nat) : Int) (t2 th 2) = true by rw [en]; exact nl (by omega) (by omega) (by omega))]) (n := FU) (by rw [FU_eq]; omega) (s := (0, S0)) ⟨rfl, rfl, fun k k0 _ _ _ => z k k0, fun b b0 b1 => by omega⟩
  refine ⟨S', ?_, ⟨?_, ?_, ?_, fun b b0 b1 => ?_, fun b b0 b1 => ?_, fun b i b0 b1 i0 i1 => ?_⟩, g3⟩
  · unfold f_X1_takeFrom
    dsimp only [wrk]
    rw [wr_cell (k := q) (by omega), wr_cell (k := q) (by omega), wr_cell (k := q) (by omega), g1]
    rfl
  · rw [g2]
    show wr _ th 2 _ th 0 = _
    rw [wr_idx (by decide), wr_idx (by decide), wr_eq]
    exact hR.1
  · rw [g2]
    show wr _ th 2 _ th 1 = _
    rw [wr_idx (by decide), wr_eq]
    exact hR.2.1
  · rw [g2]
    show wr _ th 2 _ th 2 = _
    rw [wr_eq]
    exact hR.2.2.1
  · rw [(g4 b b0 b1).2.1]
    exact hR.2.2.2.1 b b0 b1
  · rw [(g4 b b0 b1).1]
    exact hR.2.2.2.2.1 b b0 b1
  · have c := bcnt_bnd hw b0 b1
    rw [(g4 b b0 b1).2.2 i i0 (by omega)]
    exact hR.2.2.2.2.2 b i b0 b1 i0 i1
/-! one bidder less -/
theorem goes_cap {B : Int → Int} {a c : Int} (h1 : 0 ≤ a) (h3 : 0 ≤ c) (h4 : c < B 2 - 1) : bcap (goesR B a) c = bcap B (if c < a then c else c + 1) ∧ bcnt (goesR B a) c = bcnt B (if c < a then c else c + 1) ∧ ∀ i, 0 ≤ i → i < 8 → bval (goesR B a) c i = bval B (if c < a then c else c + 1) i := by
  unfold bcap bcnt bval goesR
  by_cases hc : c < a
  · rw [if_pos hc]
    refine ⟨?_, ?_, fun i i0 i1 => ?_⟩ <;> rw [if_neg (by omega), if_neg (by omega)]
  · rw [if_neg hc]
    refine ⟨?_, ?_, fun i i0 i1 => ?_⟩ <;> rw [if_neg (by omega), if_pos (by omega)] <;> congr 1 <;> omega
theorem goes_0 {B : Int → Int} {a : Int} (h1 : 0 ≤ a) : goesR B a 0 = B 0 ∧ goesR B a 1 = B 1 ∧ goesR B a 2 = B 2 - 1 := by
  unfold goesR
  refine ⟨?_, ?_, ?_⟩
  · rw [if_neg (by decide), if_neg (by omega)]
  · rw [if_neg (by decide), if_neg (by omega)]
  · rw [if_pos rfl]
theorem goes_WF {N : Int} {B : Int → Int} {a : Int} (hw : WF N B) (h1 : 0 ≤ a) (h2 : a < B 2) : WF N (goesR B a) := by
  obtain ⟨a0, a1, a2, a3, a4, a5, a6, a7, a8⟩ := hw
  obtain ⟨z0, z1, z2⟩ := goes_0 (B := B) h1
  refine ⟨by omega, by omega, by omega, by omega, by omega, by omega, fun b x y => ?_, fun b i x y z u => ?_, fun b i x y z u => ?_⟩
  · have c := goes_cap (B := B) h1 x (by omega)
    rw [c.1, c.2.1]
    exact a6 _ (by split <;> omega) (by split <;> omega)
  · have c := goes_cap (B := B) h1 x (by omega)
    rw [c.2.1] at u
    have k := a6 (if b < a then b else b + 1) (by split <;> omega) (by split <;> omega)
    rw [c.2.2 i z (by omega)]
    exact a7 _ i (by split <;> omega) (by split <;> omega) z u
  · have c := goes_cap (B := B) h1 x (by omega)
    rw [c.2.1] at u
    have k := a6 (if b < a then b else b + 1) (by split <;> omega) (by split <;> omega)
    rw [c.2.2 i z (by omega), c.2.2 (i + 1) (by omega) (by omega)]
    exact a8 _ i (by split <;> omega) (by split <;> omega) z u
theorem C_removeBidder {N : Int} {B : Int → Int} {S : Mem} {q : Nat} {a : Int} (hN : N ≤ 9) (hw : WF N B) (hR : RB S q B) (h1 : 0 ≤ a) (h2 : a < B 2) : ∃ S', f_X1_removeBidder S q a = some S' ∧ RB S' q (goesR B a) ∧ FrB S S' q := by
  have n0 := hw.2.2.2.2.1
  have n1 := hw.2.2.2.2.2.1
  obtain ⟨S1, g1, g2, g3, g4, g5, g6⟩ := lp_rel (step := f_X1_removeBidder_l2 q) (fun i (t : Int × Mem) => t.1 = a + i ∧ t.2 q = S q ∧ (∀ k, k ≠ q → k ≠ q + 1 → k ≠ q + 2 → k ≠ q + 3 → t.2 k = S k) ∧ (∀ c, t.2 (q + 1) c = if a ≤ c ∧ c < a + i then S (q + 1) (c + 1) else S (q + 1) c) ∧ (∀ c, t.2 (q + 2) c = if a ≤ c ∧ c < a + i then S (q + 2) (c + 1) else S (q + 2) c) ∧ ∀ x, t.2 (q + 3) x = if a * 8 ≤ x ∧ x < (a + i) * 8 then S (q + 3) (x + 8) else S (q + 3) x) (fun (t : Mem) => t q = S q ∧ (∀ k, k ≠ q → k ≠ q + 1 → k ≠ q + 2 → k ≠ q + 3 → t k = S k) ∧ (∀ c, t (q + 1) c = if a ≤ c ∧ c < B 2 - 1 then S (q + 1) (c + 1) else S (q + 1) c) ∧ (∀ c, t (q + 2) c = if a ≤ c ∧ c < B 2 - 1 then S (q + 2) (c + 1) else S (q + 2) c) ∧ ∀ x, t (q + 3) x = if a * 8 ≤ x ∧ x < (B 2 - 1) * 8 then S (q + 3) (x + 8) else S (q + 3) x) (B 2 - 1 - a).toNat (by
    intro i t hi ⟨e0, e1, e2, e3, e4, e5⟩
    obtain ⟨t1, t2⟩ := t
    dsimp only at e0 e1 e2 e3 e4 e5 ⊢
    subst e0
    obtain ⟨u, u1, u2, u3, u4, u5⟩ := C_setLike (S := t2) (th := q) (q := q) (a := a + i) (c := a + i + 1) (Or.inl rfl) (by omega) (by omega) (by omega) (by omega)
    refine ⟨(a + i + 1, u), ?_, by dsimp only; omega, ?_, fun k k0 k1 k2 k3 => ?_, fun c => ?_, fun c => ?_, fun x => ?_⟩
    · unfold f_X1_removeBidder_l2
      dsimp only
      rw [if_pos (show ltb (a + i + 1) (t2 q 2) = true by rw [e1, hR.2.2.1]; exact ltb_t (by omega) (by omega) (by omega)), u1]
      rfl
    · dsimp only
      rw [u2 q (by omega) (by omega) (by omega)]
      exact e1
    · dsimp only
      rw [u2 k k1 k2 k3]
      exact e2 k k0 k1 k2 k3
    · dsimp only
      rw [u3]
      by_cases hc : c = a + i
      · rw [if_pos hc, if_pos (by omega), e3, if_neg (by omega), hc]
      · rw [if_neg hc, e3]
        by_cases h : a ≤ c ∧ c < a + i
        · rw [if_pos h, if_pos (by omega)]
        · rw [if_neg h, if_neg (by omega)]
    · dsimp only
      rw [u4]
      by_cases hc : c = a + i
      · rw [if_pos hc, if_pos (by omega), e4, if_neg (by omega), hc]
      · rw [if_neg hc, e4]
        by_cases h : a ≤ c ∧ c < a + i
        · rw [if_pos h, if_pos (by omega)]
        · rw [if_neg h, if_neg (by omega)]
    · dsimp only
      rw [u5]
      by_cases hc : (a + i) * 8 ≤ x ∧ x < (a + i) * 8 + 8
      · rw [if_pos hc, if_pos (by omega), e5, if_neg (by omega)]
        congr 1
        omega
      · rw [if_neg hc, e5]
        by_cases h : a * 8 ≤ x ∧ x < (a + i) * 8
        · rw [if_pos h, if_pos (by omega)]
        · rw [if_neg h, if_neg (by omega)]) (by
    intro t ⟨e0, e1, e2, e3, e4, e5⟩
    obtain ⟨t1, t2⟩ := t
    dsimp only at e0 e1 e2 e3 e4 e5 ⊢
    subst e0
    have ea : a + (((B 2 - 1 - a).toNat : Nat) : Int) = B 2 - 1 := by omega
    rw [ea] at e3 e4 e5
    refine ⟨t2, ?_, e1, e2, e3, e4, e5⟩
    unfold f_X1_removeBidder_l2
    dsimp only
    rw [if_neg (show ¬ ltb (a + (((B 2 - 1 - a).toNat : Nat) : Int) + 1) (t2 q 2) = true by rw [e1, hR.2.2.1]; exact nl (by omega) (by omega) (by omega))]) (n := FU) (by rw [FU_eq]; omega) (s := (a, S)) ⟨by dsimp only; omega, rfl, fun _ _ _ _ _ => rfl, fun c => by rw [if_neg (by omega)], fun c => by rw [if_neg (by omega)], fun x => by rw [if_neg (by omega)]⟩
  obtain ⟨z0, z1, z2⟩ := goes_0 (B := B) h1
  refine ⟨wr S1 q 2 (B 2 - 1), ?_, ⟨?_, ?_, ?_, fun b b0 b1 => ?_, fun b b0 b1 => ?_, fun b i b0 b1 i0 i1 => ?_⟩, fun k k0 k1 k2 k3 => ?_⟩
  · unfold f_X1_removeBidder
    rw [g1, Option.bind_some]
    dsimp only [wrk]
    rw [g2, hR.2.2.1]
  · rw [wr_idx (by decide), g2, z0]; exact hR.1
  · rw [wr_idx (by decide), g2, z1]; exact hR.2.1
  · rw [wr_eq, z2]
  · have c := goes_cap (B := B) h1 b0 (by omega)
    rw [wr_cell (by omega), c.1, g5]
    by_cases hb : b < a
    · rw [if_neg (by omega), if_pos hb]
      exact hR.2.2.2.1 b b0 (by omega)
    · rw [if_pos (by omega), if_neg hb]
      exact hR.2.2.2.1 (b + 1) (by omega) (by omega)
  · have c := goes_cap (B := B) h1 b0 (by omega)
    rw [wr_cell (by omega), c.2.1, g4]
    by_cases hb : b < a
    · rw [if_neg (by omega), if_pos hb]
      exact hR.2.2.2.2.1 b b0 (by omega)
    · rw [if_pos (by omega), if_neg hb]
      exact hR.2.2.2.2.1 (b + 1) (by omega) (by omega)
  · have c := goes_cap (B := B) h1 b0 (by omega)
    rw [c.2.1] at i1
    by_cases hb : b < a
    · rw [if_pos hb] at i1 c
      have k := bcnt_bnd hw b0 (show b < B 2 by omega)
      rw [wr_cell (by omega), c.2.2 i i0 (by omega), g6, if_neg (by omega)]
      exact hR.2.2.2.2.2 b i b0 (by omega) i0 i1
    · rw [if_neg hb] at i1 c
      have k := bcnt_bnd hw (show 0 ≤ b + 1 by omega) (show b + 1 < B 2 by omega)
      rw [wr_cell (by omega), c.2.2 i i0 (by omega), g6, if_pos (by omega)]
      have := hR.2.2.2.2.2 (b + 1) i (by omega) (by omega) i0 i1
      rw [← this]
      congr 1
      omega
  · rw [wr_ne k0]
    exact g3 k k0 k1 k2 k3
