/-! ===== two in one ===== -/
def insR (B : Int → Int) (b v : Int) : Int → Int := if bcnt B b < 8 then comesR B b v else if bval B b 7 < v then comesR (dropsR B b 7) b v else B
theorem drop7 {N : Int} {B : Int → Int} {b : Int} (hw : WF N B) (h1 : 0 ≤ b) (h2 : b < B 2) (h8 : bcnt B b = 8) : WF N (dropsR B b 7) ∧ dropsR B b 7 2 = B 2 ∧ bcnt (dropsR B b 7) b = 7 ∧ (∀ c, 0 ≤ c → bcap (dropsR B b 7) c = bcap B c) ∧ (∀ c, 0 ≤ c → c ≠ b → bcnt (dropsR B b 7) c = bcnt B c) ∧ ∀ c i, 0 ≤ c → 0 ≤ i → i < 8 → bval (dropsR B b 7) c i = bval B c i := by
  rw [← cut_one]
  refine ⟨cut_WF hw h1 h2 (by decide) (by decide) (by omega), (cut_0 h1 (by decide)).2.2, ?_, fun c x => (cut_cap h1 (by decide) (by decide) (by omega) x).1, fun c x y => ?_, fun c i x z u => ?_⟩
  · rw [(cut_cap h1 (by decide) (by decide) (by omega) h1).2.1, if_pos rfl, h8]
    rfl
  · rw [(cut_cap h1 (by decide) (by decide) (by omega) x).2.1, if_neg y]
  · rw [(cut_cap h1 (by decide) (by decide) (by omega) x).2.2 i z u, if_neg (by omega)]
/-- what one more value leaves as it is -/
theorem ins_keeps {N : Int} {B : Int → Int} {b v : Int} (hN : N ≤ 9) (hw : WF N B) (h1 : 0 ≤ b) (h2 : b < B 2) (hv : 0 ≤ v ∧ v ≤ 99) : WF N (insR B b v) ∧ insR B b v 0 = B 0 ∧ insR B b v 1 = B 1 ∧ insR B b v 2 = B 2 ∧ (∀ c, 0 ≤ c → bcap (insR B b v) c = bcap B c) ∧ (∀ c, 0 ≤ c → c ≠ b → bcnt (insR B b v) c = bcnt B c ∧ ∀ i, 0 ≤ i → i < 8 → bval (insR B b v) c i = bval B c i) ∧ ∀ j, (j < 0 ∨ 93 ≤ j) → insR B b v j = B j := by
  have n1 := hw.2.2.2.2.2.1
  have cb := bcnt_bnd hw h1 h2
  unfold insR
  by_cases h8 : bcnt B b < 8
  · rw [if_pos h8]
    obtain ⟨z0, z1, z2⟩ := comes_0 (v := v) h1 cb.2.2.1
    have pb := pos_bnd (v := v) cb.2.2.1
    refine ⟨comes_WF hw h1 h2 h8 hv, z0, z1, z2, fun c x => (comes_cap h1 ⟨cb.2.2.1, h8⟩ x).1, fun c x y => ⟨?_, fun i i0 i1 => ?_⟩, fun j hj => ?_⟩
    · rw [(comes_cap h1 ⟨cb.2.2.1, h8⟩ x).2.1, if_neg y]
    · rw [(comes_cap h1 ⟨cb.2.2.1, h8⟩ x).2.2 i i0 i1, if_neg (fun z => y z.1)]
    · unfold comesR
      rw [if_neg (by omega), if_neg (by omega), if_neg (by omega)]
  · rw [if_neg h8]
    by_cases hl : bval B b 7 < v
    · rw [if_pos hl]
      obtain ⟨d1, d2, d3, d4, d5, d6⟩ := drop7 hw h1 h2 (by omega)
      obtain ⟨y0, y1, y2⟩ := cut_0 (B := B) (m := 1) (i := 7) h1 (by decide)
      rw [cut_one] at y0 y1 y2
      obtain ⟨z0, z1, z2⟩ := comes_0 (B := dropsR B b 7) (v := v) h1 (by omega)
      have pb := pos_bnd (B := dropsR B b 7) (b := b) (v := v) (by omega)
      refine ⟨comes_WF d1 h1 (by omega) (by omega) hv, z0.trans y0, z1.trans y1, z2.trans y2, fun c x => ((comes_cap h1 (by omega) x).1).trans (d4 c x), fun c x y => ⟨?_, fun i i0 i1 => ?_⟩, fun j hj => ?_⟩
      · rw [(comes_cap h1 (by omega) x).2.1, if_neg y]; exact d5 c x y
      · rw [(comes_cap h1 (by omega) x).2.2 i i0 i1, if_neg (fun z => y z.1)]; exact d6 c i x i0 i1
      · unfold comesR
        rw [if_neg (by omega), if_neg (by omega), if_neg (by omega)]
        unfold dropsR
        rw [if_neg (by omega), if_neg (by omega)]
    · rw [if_neg hl]
      exact ⟨hw, rfl, rfl, rfl, fun _ _ => rfl, fun _ _ _ => ⟨rfl, fun _ _ _ => rfl⟩, fun _ _ => rfl⟩
def RBv (S : Mem) (q : Nat) (B : Int → Int) : Prop := S q 0 = B 0 ∧ S q 1 = B 1 ∧ S q 2 = B 2 ∧ (∀ b, 0 ≤ b → b < B 2 → S (q + 1) b = bcnt B b) ∧ ∀ b i, 0 ≤ b → b < B 2 → 0 ≤ i → i < bcnt B b → S (q + 3) (b * 8 + i) = bval B b i
theorem C_insV {N : Int} {B : Int → Int} {S : Mem} {q : Nat} {b v : Int} (hN : N ≤ 9) (hw : WF N B) (hR : RBv S q B) (h1 : 0 ≤ b) (h2 : b < B 2) (hv : 0 ≤ v ∧ v ≤ 99) : ∃ S', f_X1_insertValue S q b v = some S' ∧ RBv S' q (insR B b v) ∧ (∀ k, k ≠ q + 1 → k ≠ q + 3 → S' k = S k) := by
  have n1 := hw.2.2.2.2.2.1
  have c0 := bcnt_bnd hw h1 h2
  have ec := hR.2.2.2.1 b h1 h2
  -- the row that the value comes into
  have main : ∀ B1 : Int → Int, WF N B1 → B1 0 = B 0 → B1 1 = B 1 → B1 2 = B 2 → bcnt B1 b = min (bcnt B b) 7 → (∀ c, 0 ≤ c → c ≠ b → bcnt B1 c = bcnt B c) → (∀ c i, 0 ≤ c → 0 ≤ i → i < 8 → bval B1 c i = bval B c i) → (bcnt B b < 8 ∨ bval B b 7 < v) → ∃ S', f_X1_insertValue S q b v = some S' ∧ RBv S' q (comesR B1 b v) ∧ (∀ k, k ≠ q + 1 → k ≠ q + 3 → S' k = S k) := by
    intro B1 hw1 y0 y1 y2 y3 y4 y5 hor
    have pb := pos_bnd (B := B1) (b := b) (v := v) (by omega)
    obtain ⟨S1, g1, g2, g3⟩ := C_insLoop (S := S) (q := q) (b := b) (v := v) (c := bcnt B1 b) (g := bval B1 b) h1 (by omega) (by omega) hv (fun i x y => by rw [y5 b i h1 x (by omega)]; exact hR.2.2.2.2 b i h1 h2 x (by omega)) (fun i x y => bval_bnd hw1 h1 (by omega) x y) (pos B1 b v) pb (fun i x y => pos_in x y) (fun i x y => pos_after hw1 h1 (by omega) x y)
    obtain ⟨z0, z1, z2⟩ := comes_0 (B := B1) (v := v) h1 (by omega)
    have h3 : bcnt B1 b < 8 := by omega
    refine ⟨wr (wr S1 (q + 3) (b * 8 + pos B1 b v) v) (q + 1) b (bcnt B1 b + 1), ?_, ⟨?_, ?_, ?_, fun c x y => ?_, fun c i x y z u => ?_⟩, fun k k1 k3 => ?_⟩
    · have tail : ((lp (f_X1_insertValue_l43 q b v (b * 8)) FU (bcnt B1 b, S)).bind fun r9 => if (0 : Int) ≤ (b * 8) + r9.1 ∧ ((b * 8) + r9.1) < 72 then (wrk r9.2 (q + 3) ((b * 8) + r9.1) v fun S24 => if (0 : Int) ≤ b ∧ b < 9 then (wrk S24 (q + 1) b (mnb ((S24 (q + 1) b) + 1) 8) fun S27 => some S27) else none) else none) = some (wr (wr S1 (q + 3) (b * 8 + pos B1 b v) v) (q + 1) b (bcnt B1 b + 1)) := by
        rw [g1, Option.bind_some]
        dsimp only
        rw [if_pos (by omega)]
        dsimp only [wrk]
        rw [if_pos (by omega), wr_cell (by omega), g2 (q + 1) (by omega), ec, mnb_le (by omega) (by omega) (by omega) (by omega), show min (bcnt B b + 1) 8 = bcnt B1 b + 1 by omega]
      unfold f_X1_insertValue
      rw [if_pos (by omega), ec, mnb_le (by omega) (by omega) (by omega) (by omega), ← y3]
      by_cases h8 : bcnt B b < 8
      · rw [if_pos (ltb_t h8 (by omega) (by omega))]
        exact tail
      · have e7 : S (q + 3) (b * 8 + bcnt B1 b) = bval B b 7 := by
          rw [show bcnt B1 b = 7 by omega]
          exact hR.2.2.2.2 b 7 h1 h2 (by decide) (by omega)
        have vb := bval_bnd hw (i := 7) h1 h2 (by decide) (by omega)
        rw [if_neg (nl (x := bcnt B b) (y := 8) (by omega) (by omega) (by omega)), if_pos (by omega), if_pos (show ltb (S (q + 3) (b * 8 + bcnt B1 b)) v = true by rw [e7]; exact ltb_t (by omega) (by omega) (by omega))]
        exact tail
    · rw [wr_cell (by omega), wr_cell (by omega), g2 q (by omega), z0, y0]; exact hR.1
    · rw [wr_cell (by omega), wr_cell (by omega), g2 q (by omega), z1, y1]; exact hR.2.1
    · rw [wr_cell (by omega), wr_cell (by omega), g2 q (by omega), z2, y2]; exact hR.2.2.1
    · have k := comes_cap (B := B1) (v := v) h1 ⟨by omega, h3⟩ x
      rw [k.2.1, wr_at]
      by_cases hc : c = b
      · rw [if_pos hc, if_pos hc]
      · rw [if_neg hc, if_neg hc, wr_cell (by omega), g2 (q + 1) (by omega), y4 c x hc]
        exact hR.2.2.2.1 c x (by omega)
    · have k := comes_cap (B := B1) (v := v) h1 ⟨by omega, h3⟩ x
      have cb := bcnt_bnd hw1 x (show c < B1 2 by omega)
      rw [k.2.1] at u
      rw [wr_cell (by omega), wr_at]
      by_cases hc : c = b
      · subst hc
        rw [if_pos rfl] at u
        rw [k.2.2 i z (by omega), if_pos (show c = c ∧ i ≤ bcnt B1 c from ⟨rfl, by omega⟩)]
        by_cases h6 : i = pos B1 c v
        · rw [if_pos (by omega), if_neg (by omega), if_pos h6]
        · rw [if_neg (by omega), g3]
          by_cases h5 : i < pos B1 c v
          · rw [if_neg (by omega), if_pos h5, y5 c i x z (by omega)]
            exact hR.2.2.2.2 c i x h2 z (by omega)
          · rw [if_pos (by omega), if_neg h5, if_neg h6, y5 c (i - 1) x (by omega) (by omega)]
            have := hR.2.2.2.2 c (i - 1) x h2 (by omega) (by omega)
            rw [← this]
            congr 1
            omega
      · rw [if_neg hc] at u
        rw [k.2.2 i z (by omega), if_neg (show ¬ (c = b ∧ i ≤ bcnt B1 b) from fun w => hc w.1), if_neg (by omega), g3, if_neg (by omega), y5 c i x z (by omega)]
        rw [y4 c x hc] at u
        exact hR.2.2.2.2 c i x (by omega) z u
    · rw [wr_ne k1, wr_ne k3]
      exact g2 k k3
  unfold insR
  by_cases h8 : bcnt B b < 8
  · rw [if_pos h8]
    exact main B hw rfl rfl rfl (by omega) (fun _ _ _ => rfl) (fun _ _ _ _ _ => rfl) (Or.inl h8)
  · rw [if_neg h8]
    by_cases hl : bval B b 7 < v
    · rw [if_pos hl]
      obtain ⟨d1, d2, d3, d4, d5, d6⟩ := drop7 hw h1 h2 (by omega)
      obtain ⟨y0, y1, y2⟩ := cut_0 (B := B) (m := 1) (i := 7) h1 (by decide)
      rw [cut_one] at y0 y1 y2
      exact main (dropsR B b 7) d1 y0 y1 y2 (by omega) d5 d6 (Or.inr hl)
    · rw [if_neg hl]
      refine ⟨S, ?_, hR, fun _ _ _ => rfl⟩
      have e7 : S (q + 3) (b * 8 + 7) = bval B b 7 := hR.2.2.2.2 b 7 h1 h2 (by decide) (by omega)
      have vb := bval_bnd hw (i := 7) h1 h2 (by decide) (by omega)
      unfold f_X1_insertValue
      rw [if_pos (by omega), ec, mnb_le (by omega) (by omega) (by omega) (by omega), if_neg (nl (x := bcnt B b) (y := 8) (by omega) (by omega) (by omega)), show min (bcnt B b) 7 = 7 by omega, if_pos (by omega), if_neg (show ¬ ltb (S (q + 3) (b * 8 + 7)) v = true by rw [e7]; exact nl (by omega) (by omega) (by omega))]
/-- the row after the first values of the other came -/
def mgR (B : Int → Int) (a c : Int) : Nat → Int → Int
  | 0 => B
  | n + 1 => insR (mgR B a c n) a (bval B c n)
theorem mg_keeps {N : Int} {B : Int → Int} {a c : Int} (hN : N ≤ 9) (hw : WF N B) (h1 : 0 ≤ a) (h2 : a < B 2) (h3 : 0 ≤ c) (h4 : c < B 2) : ∀ n : Nat, (n : Int) ≤ bcnt B c → WF N (mgR B a c n) ∧ mgR B a c n 0 = B 0 ∧ mgR B a c n 1 = B 1 ∧ mgR B a c n 2 = B 2 ∧ (∀ b, 0 ≤ b → bcap (mgR B a c n) b = bcap B b) ∧ (∀ b, 0 ≤ b → b ≠ a → bcnt (mgR B a c n) b = bcnt B b ∧ ∀ i, 0 ≤ i → i < 8 → bval (mgR B a c n) b i = bval B b i) ∧ ∀ j, (j < 0 ∨ 93 ≤ j) → mgR B a c n j = B j
  | 0, _ => ⟨hw, rfl, rfl, rfl, fun _ _ => rfl, fun _ _ _ => ⟨rfl, fun _ _ _ => rfl⟩, fun _ _ => rfl⟩
  | n + 1, hn => by
    obtain ⟨i0, i1, i2, i3, i4, i5, i6⟩ := mg_keeps hN hw h1 h2 h3 h4 n (by omega)
    have vb := bval_bnd hw (i := n) h3 h4 (by omega) (by omega)
    obtain ⟨k0, k1, k2, k3, k4, k5, k6⟩ := ins_keeps hN i0 h1 (by omega) vb
    refine ⟨k0, k1.trans i1, k2.trans i2, k3.trans i3, fun b x => (k4 b x).trans (i4 b x), fun b x y => ⟨(k5 b x y).1.trans (i5 b x y).1, fun i u v => ((k5 b x y).2 i u v).trans ((i5 b x y).2 i u v)⟩, fun j hj => (k6 j hj).trans (i6 j hj)⟩
theorem M_ins {α : Type} {N : Int} {T : Mem} {b v : Int} (K : Mem → Option α) (hN : N ≤ 9) (hw : WF N (T 1)) (h1 : 0 ≤ b) (h2 : b < T 1 2) (hv : 0 ≤ v ∧ v ≤ 99) : ∃ T', ((f_X8_valuesOf T b).bind fun r33 => Option.bind (α := Mem) (if eqb r33 8 = true then ((f_X8_valueAt T b 7).bind fun r49 => if ltb r49 v = true then ((f_X8_valuesOf T b).bind fun r52 => Option.bind (α := Mem) (if eqb r52 8 = true then ((f_X8_drops T b 7).bind fun S60 => some S60) else (some T)) fun j54 => (f_X8_comes j54 b v).bind fun S57 => some S57) else (some T)) else ((f_X8_valuesOf T b).bind fun r39 => Option.bind (α := Mem) (if eqb r39 8 = true then ((f_X8_drops T b 7).bind fun S47 => some S47) else (some T)) fun j41 => (f_X8_comes j41 b v).bind fun S44 => some S44)) fun j35 => K j35) = K T' ∧ T' 1 = insR (T 1) b v ∧ Fr1 T T' := by
  have n1 := hw.2.2.2.2.2.1
  have cb := bcnt_bnd hw h1 h2
  rw [M_valuesOf h1 (by omega), Option.bind_some]
  unfold insR
  by_cases h8 : bcnt (T 1) b = 8
  · rw [if_pos (eqb_t h8), M_valueAt h1 (by omega) (by decide) (by decide), Option.bind_some, if_neg (show ¬ bcnt (T 1) b < 8 by omega)]
    have vb := bval_bnd hw (i := 7) h1 h2 (by decide) (by omega)
    by_cases hl : bval (T 1) b 7 < v
    · rw [if_pos (ltb_t hl (by omega) (by omega)), if_pos hl, Option.bind_some, if_pos (eqb_t h8)]
      obtain ⟨T1, a1, a2, a3⟩ := M_drops (T := T) (b := b) (i := 7) h1 (by omega) (by decide) (by omega) (by omega)
      obtain ⟨d1, d2, d3, d4, d5, d6⟩ := drop7 hw h1 h2 h8
      obtain ⟨T2, b1, b2, b3⟩ := M_comes (T := T1) (b := b) (v := v) (N := N) hN (by rw [a2]; exact d1) h1 (by rw [a2]; omega) (by rw [a2]; omega) hv
      rw [a2] at b2
      refine ⟨T2, ?_, b2, fun k hk => (b3 k hk).trans (a3 k hk)⟩
      rw [a1, Option.bind_some, Option.bind_some, b1]
      rfl
    · rw [if_neg (nl (x := bval (T 1) b 7) (y := v) (by omega) (by omega) (by omega)), if_neg hl]
      exact ⟨T, rfl, rfl, fun _ _ => rfl⟩
  · have q := nq h8 (by omega) (by omega) (by omega) (by omega)
    rw [if_neg q, Option.bind_some, if_neg q, Option.bind_some, if_pos (show bcnt (T 1) b < 8 by omega)]
    obtain ⟨T2, b1, b2, b3⟩ := M_comes (T := T) (b := b) (v := v) (N := N) hN hw h1 h2 (by omega) hv
    refine ⟨T2, ?_, b2, b3⟩
    rw [b1]
    rfl
theorem M_merge {T : Mem} {a c y3 y4 : Int} (hw : WF 8 (T 1)) (h1 : 0 ≤ a) (h2 : a < T 1 2) (h3 : 0 ≤ c) (h4 : c < T 1 2) (hne : a ≠ c) : ∃ T', lp (f_X8_collude_l84 a c y3 y4) FU (0, T) = some T' ∧ T' 1 = mgR (T 1) a c (bcnt (T 1) c).toNat ∧ Fr1 T T' := by
  have n1 := hw.2.2.2.2.2.1
  have cc := bcnt_bnd hw h3 h4
  exact lp_rel (step := f_X8_collude_l84 a c y3 y4) (fun i (t : Int × Mem) => t.1 = i ∧ t.2 1 = mgR (T 1) a c i ∧ Fr1 T t.2) (fun (t : Mem) => t 1 = mgR (T 1) a c (bcnt (T 1) c).toNat ∧ Fr1 T t) (bcnt (T 1) c).toNat (by
    intro i t hi ⟨e0, e1, e2⟩
    obtain ⟨t1, t2⟩ := t
    dsimp only at e0 e1 e2 ⊢
    subst e0
    obtain ⟨k0, _, _, k3, _, k5, _⟩ := mg_keeps (by decide) hw h1 h2 h3 h4 i (by omega)
    have ec : bcnt (t2 1) c = bcnt (T 1) c := by rw [e1]; exact (k5 c h3 (fun z => hne z.symm)).1
    have ev : bval (t2 1) c i = bval (T 1) c i := by rw [e1]; exact (k5 c h3 (fun z => hne z.symm)).2 i (by omega) (by omega)
    have vb := bval_bnd hw (i := i) h3 h4 (by omega) (by omega)
    obtain ⟨u, u1, u2, u3⟩ := M_ins (α := (Int × Mem) ⊕ Mem) (T := t2) (b := a) (v := bval (T 1) c i) (N := 8) (fun j35 => some (.inl ((i : Int) + 1, j35))) (by decide) (by rw [e1]; exact k0) h1 (by rw [e1]; omega) vb
    refine ⟨((i : Int) + 1, u), ?_, rfl, by dsimp only; rw [u2, e1]; rfl, fun x hx => (u3 x hx).trans (e2 x hx)⟩
    unfold f_X8_collude_l84
    dsimp only
    rw [M_valuesOf h3 (by omega), ec, Option.bind_some, if_pos (ltb_t (by omega) (by omega) (by omega)), M_valueAt h3 (by omega) (by omega) (by omega), ev, Option.bind_some]
    exact u1) (by
    intro t ⟨e0, e1, e2⟩
    obtain ⟨t1, t2⟩ := t
    dsimp only at e0 e1 e2 ⊢
    subst e0
    obtain ⟨k0, _, _, k3, _, k5, _⟩ := mg_keeps (by decide) hw h1 h2 h3 h4 (bcnt (T 1) c).toNat (by omega)
    have ec : bcnt (t2 1) c = bcnt (T 1) c := by rw [e1]; exact (k5 c h3 (fun z => hne z.symm)).1
    refine ⟨t2, ?_, e1, e2⟩
    unfold f_X8_collude_l84
    dsimp only
    rw [M_valuesOf h3 (by omega), ec, Option.bind_some, if_neg (nl (by omega) (by omega) (by omega))]) (n := FU) (by rw [FU_eq]; omega) (s := (0, T)) ⟨rfl, rfl, fun _ _ => rfl⟩
/-! another cap -/
theorem capR_eq {B : Int → Int} {a x : Int} (h1 : 0 ≤ a) : (wrR B (3 + 10 * a) x) 0 = B 0 ∧ (wrR B (3 + 10 * a) x) 1 = B 1 ∧ (wrR B (3 + 10 * a) x) 2 = B 2 ∧ (∀ c, 0 ≤ c → bcap (wrR B (3 + 10 * a) x) c = (if c = a then x else bcap B c) ∧ bcnt (wrR B (3 + 10 * a) x) c = bcnt B c) ∧ ∀ c i, 0 ≤ c → 0 ≤ i → i < 8 → bval (wrR B (3 + 10 * a) x) c i = bval B c i := by
  refine ⟨wrR_ne (by omega), wrR_ne (by omega), wrR_ne (by omega), fun c c0 => ⟨?_, wrR_ne (by omega)⟩, fun c i c0 i0 i1 => wrR_ne (by omega)⟩
  by_cases h : c = a
  · subst h
    rw [if_pos rfl]
    exact wrR_eq _ _ _
  · rw [if_neg h]
    exact wrR_ne (by omega)
theorem capR_WF {N : Int} {B : Int → Int} {a x : Int} (hw : WF N B) (h1 : 0 ≤ a) (hx : 0 ≤ x ∧ x ≤ 8) : WF N (wrR B (3 + 10 * a) x) := by
  obtain ⟨a0, a1, a2, a3, a4, a5, a6, a7, a8⟩ := hw
  obtain ⟨z0, z1, z2, z3, z4⟩ := capR_eq (B := B) (x := x) h1
  refine ⟨by omega, by omega, by omega, by omega, by omega, by omega, fun c x y => ?_, fun c i x y z u => ?_, fun c i x y z u => ?_⟩
  · have k := a6 c x (by omega)
    rw [(z3 c x).1, (z3 c x).2]
    split <;> omega
  · have k := a6 c x (by omega)
    rw [(z3 c x).2] at u
    rw [z4 c i x z (by omega)]
    exact a7 c i x (by omega) z u
  · have k := a6 c x (by omega)
    rw [(z3 c x).2] at u
    rw [z4 c i x z (by omega), z4 c (i + 1) x (by omega) (by omega)]
    exact a8 c i x (by omega) z u
theorem capR_RB {N : Int} {B : Int → Int} {S : Mem} {q : Nat} {a x : Int} (hw : WF N B) (hR : RB S q B) (h1 : 0 ≤ a) : RB (wr S (q + 2) a x) q (wrR B (3 + 10 * a) x) := by
  obtain ⟨z0, z1, z2, z3, z4⟩ := capR_eq (B := B) (x := x) h1
  refine ⟨by rw [wr_cell (by omega), z0]; exact hR.1, by rw [wr_cell (by omega), z1]; exact hR.2.1, by rw [wr_cell (by omega), z2]; exact hR.2.2.1, fun c x y => ?_, fun c x y => ?_, fun c i x y z u => ?_⟩
  · rw [wr_at, (z3 c x).1]
    by_cases hc : c = a
    · rw [if_pos hc, if_pos hc]
    · rw [if_neg hc, if_neg hc]; exact hR.2.2.2.1 c x (by omega)
  · rw [wr_cell (by omega), (z3 c x).2]; exact hR.2.2.2.2.1 c x (by omega)
  · have k := bcnt_bnd hw x (show c < B 2 by omega)
    rw [(z3 c x).2] at u
    rw [wr_cell (by omega), z4 c i x z (by omega)]
    exact hR.2.2.2.2.2 c i x (by omega) z u
theorem C_merge {B : Int → Int} {S : Mem} {q : Nat} {a c : Int} (hw : WF 8 B) (hR : RB S q B) (h1 : 0 ≤ a) (h2 : a < B 2) (h3 : 0 ≤ c) (h4 : c < B 2) (hne : a ≠ c) : ∃ S', f_X1_merge S q a c = some S' ∧ RB S' q (mgR (wrR B (3 + 10 * a) (min 8 (bcap B a + bcap B c))) a c (bcnt B c).toNat) ∧ FrB S S' q := by
  have n1 := hw.2.2.2.2.2.1
  have ca := bcnt_bnd hw h1 h2
  have cc := bcnt_bnd hw h3 h4
  have hw1 := capR_WF (x := min 8 (bcap B a + bcap B c)) hw h1 (by omega)
  obtain ⟨z0, z1, z2, z3, z4⟩ := capR_eq (B := B) (x := min 8 (bcap B a + bcap B c)) h1
  have ecc : bcnt (wrR B (3 + 10 * a) (min 8 (bcap B a + bcap B c))) c = bcnt B c := (z3 c h3).2
  generalize hB1 : wrR B (3 + 10 * a) (min 8 (bcap B a + bcap B c)) = B1 at *
  have hV : RBv S q B1 := by
    refine ⟨by rw [z0]; exact hR.1, by rw [z1]; exact hR.2.1, by rw [z2]; exact hR.2.2.1, fun b x y => ?_, fun b i x y z u => ?_⟩
    · rw [(z3 b x).2]; exact hR.2.2.2.2.1 b x (by omega)
    · have k := bcnt_bnd hw x (show b < B 2 by omega)
      rw [(z3 b x).2] at u
      rw [z4 b i x z (by omega)]
      exact hR.2.2.2.2.2 b i x (by omega) z u
  obtain ⟨S1, g1, g2, g3⟩ := lp_rel (step := f_X1_merge_l2 q a c) (fun i (t : Int × Mem) => t.1 = i ∧ RBv t.2 q (mgR B1 a c i) ∧ ∀ k, k ≠ q + 1 → k ≠ q + 3 → t.2 k = S k) (fun (t : Mem) => RBv t q (mgR B1 a c (bcnt B c).toNat) ∧ ∀ k, k ≠ q + 1 → k ≠ q + 3 → t k = S k) (bcnt B c).toNat (by
    intro i t hi ⟨e0, e1, e2⟩
    obtain ⟨t1, t2⟩ := t
    dsimp only at e0 e1 e2 ⊢
    subst e0
    obtain ⟨k0, _, _, k3, _, k5, _⟩ := mg_keeps (by decide) hw1 h1 (by omega) h3 (by omega) i (by omega)
    have ec : t2 (q + 1) c = bcnt B c := by
      rw [e1.2.2.2.1 c h3 (by omega), (k5 c h3 (fun z => hne z.symm)).1]
      exact ecc
    have ev : t2 (q + 3) (c * 8 + i) = bval B1 c i := by
      rw [e1.2.2.2.2 c i h3 (by omega) (by omega) (by rw [(k5 c h3 (fun z => hne z.symm)).1]; omega)]
      exact (k5 c h3 (fun z => hne z.symm)).2 i (by omega) (by omega)
    have vb := bval_bnd hw1 (i := i) h3 (by omega) (by omega) (by omega)
    obtain ⟨u, u1, u2, u3⟩ := C_insV (S := t2) (q := q) (b := a) (v := bval B1 c i) (N := 8) (by decide) k0 e1 h1 (by omega) vb
    refine ⟨((i : Int) + 1, u), ?_, rfl, u2, fun k a1 a2 => (u3 k a1 a2).trans (e2 k a1 a2)⟩
    unfold f_X1_merge_l2 f_X1_valueAt
    dsimp only
    rw [if_pos (by omega), if_pos (show ltb (i : Int) (t2 (q + 1) c) = true by rw [ec]; exact ltb_t (by omega) (by omega) (by omega)), if_pos (by omega), ev, Option.bind_some, u1]
    rfl) (by
    intro t ⟨e0, e1, e2⟩
    obtain ⟨t1, t2⟩ := t
    dsimp only at e0 e1 e2 ⊢
    subst e0
    obtain ⟨k0, _, _, k3, _, k5, _⟩ := mg_keeps (by decide) hw1 h1 (by omega) h3 (by omega) (bcnt B c).toNat (by omega)
    have ec : t2 (q + 1) c = bcnt B c := by
      rw [e1.2.2.2.1 c h3 (by omega), (k5 c h3 (fun z => hne z.symm)).1]
      exact ecc
    refine ⟨t2, ?_, e1, e2⟩
    unfold f_X1_merge_l2
    dsimp only
    rw [if_pos (by omega), if_neg (show ¬ ltb (((bcnt B c).toNat : Nat) : Int) (t2 (q + 1) c) = true by rw [ec]; exact nl (by omega) (by omega) (by omega))]) (n := FU) (by rw [FU_eq]; omega) (s := (0, S)) ⟨rfl, hV, fun _ _ _ => rfl⟩
  obtain ⟨k0, _, _, k3, k4, k5, _⟩ := mg_keeps (by decide) hw1 h1 (by omega) h3 (by omega) (bcnt B c).toNat (by omega)
  have pa : S1 (q + 2) a = bcap B a := by rw [g3 (q + 2) (by omega) (by omega)]; exact hR.2.2.2.1 a h1 h2
  have pc : S1 (q + 2) c = bcap B c := by rw [g3 (q + 2) (by omega) (by omega)]; exact hR.2.2.2.1 c h3 h4
  refine ⟨wr S1 (q + 2) a (min 8 (bcap B a + bcap B c)), ?_, ⟨by rw [wr_cell (by omega)]; exact g2.1, by rw [wr_cell (by omega)]; exact g2.2.1, by rw [wr_cell (by omega)]; exact g2.2.2.1, fun b x y => ?_, fun b x y => by rw [wr_cell (by omega)]; exact g2.2.2.2.1 b x y, fun b i x y z u => by rw [wr_cell (by omega)]; exact g2.2.2.2.2 b i x y z u⟩, fun k k0 k1 k2 k3 => by rw [wr_ne k2]; exact g3 k k1 k3⟩
  · unfold f_X1_merge
    rw [g1, Option.bind_some, if_pos (by omega), if_pos (by omega), pa, pc, mnb_le (by omega) (by omega) (by omega) (by omega)]
    rfl
  · rw [wr_at, k4 b x, (z3 b x).1]
    by_cases hb : b = a
    · rw [if_pos hb, if_pos hb]
    · rw [if_neg hb, if_neg hb, g3 (q + 2) (by omega) (by omega)]
      exact hR.2.2.2.1 b x (by omega)
theorem Q_collude {S T : Mem} {a c k : Int} (h : Rel S T) (ha : R32 a) (hc : R32 c) (hk : R32 k) : ∃ r S' T', f_X7_collude S a c k = some (r, S') ∧ f_X8_collude T a c k = some (r, T') ∧ Rel S' T' := by
  have n1 := h.1.2.2.2.2.2.1
  unfold f_X7_collude f_X8_collude
  rw [Q_hasTwo h ha hc, (Q_has h ha).2, (Q_has h hc).2, C_isKind hk, M_isKind hk]
  simp only [Option.bind_some]
  by_cases h1 : 0 ≤ a ∧ a < T 1 2
  · by_cases h2 : 0 ≤ c ∧ c < T 1 2
    · by_cases h4 : a = c
      · rw [if_neg (show ¬ ((0 ≤ a ∧ a < T 1 2) ∧ (0 ≤ c ∧ c < T 1 2) ∧ a ≠ c) from fun z => z.2.2 h4), if_pos h1, if_neg e10, if_pos h2, if_neg e10, if_pos (eqb_t h4), if_pos e00]
        exact ⟨_, _, _, rfl, rfl, h⟩
      · rw [if_pos (show (0 ≤ a ∧ a < T 1 2) ∧ (0 ≤ c ∧ c < T 1 2) ∧ a ≠ c from ⟨h1, h2, h4⟩), if_pos h1, if_neg e10, if_pos h2, if_neg e10, if_neg (nq h4 ha.1 ha.2 hc.1 hc.2), if_neg e10]
        by_cases h3 : 0 ≤ k ∧ k ≤ 3
        · rw [if_pos h3, if_neg e10, if_neg e10]
          have ca := bcnt_bnd h.1 h1.1 h1.2
          have cc := bcnt_bnd h.1 h2.1 h2.2
          obtain ⟨S1, s1, s2, s3⟩ := Q_now h
          obtain ⟨T1, t1, t2, t3⟩ := Q_runs s2
          obtain ⟨S2, u1, u2⟩ := C_payment (by decide) h.1 s3 h1.1 h1.2 h3.1 h3.2
          have hR2 : Rel S2 T := s2.ag (AgC.fp (Or.inl rfl) u2) AgM.rf
          obtain ⟨S3, s4, s5, s6⟩ := Q_now hR2
          obtain ⟨S4, u3, u4⟩ := C_payment (by decide) h.1 s6 h2.1 h2.2 h3.1 h3.2
          have hR4 : Rel S4 T := s5.ag (AgC.fp (Or.inl rfl) u4) AgM.rf
          obtain ⟨T2, v1, v2⟩ := M_paysOf (by decide) h.1 t2 h1.1 h1.2 h3.1 h3.2
          obtain ⟨T3, v3, v4⟩ := M_paysOf (by decide) h.1 (t2.ft v2) h2.1 h2.2 h3.1 h3.2
          have e3 : T3 1 = T 1 := ((t2.ft v2).ft v4).1
          have hR43 : Rel S4 T3 := (hR4.ag AgC.rf (show AgM T T1 from ?agm)).ag AgC.rf ((AgM.ft v2).tr (AgM.ft v4))
          case agm =>
            obtain ⟨T1', w1, w2, w3⟩ := DM.of (T := T) (by decide) h.1
            rw [w1] at t1
            cases t1
            exact AgM.fr w3
          have hcap : 0 ≤ min 8 (bcap (T 1) a + bcap (T 1) c) ∧ min 8 (bcap (T 1) a + bcap (T 1) c) ≤ 8 := by omega
          have hw1 := capR_WF (x := min 8 (bcap (T 1) a + bcap (T 1) c)) h.1 h1.1 hcap
          obtain ⟨z0, z1, z2, z3, z4⟩ := capR_eq (B := T 1) (x := min 8 (bcap (T 1) a + bcap (T 1) c)) h1.1
          have p := Asd.put T3
          have p1 : fl T3 3 0 126 (fun j => T3 1 j) 1 = T 1 := by rw [p.1, e3]
          have A4 : Asd T3 (wr (fl T3 3 0 126 (fun j => T3 1 j)) 1 (3 + 10 * a) (min 8 (bcap (T 1) a + bcap (T 1) c))) (wrR (T 1) (3 + 10 * a) (min 8 (bcap (T 1) a + bcap (T 1) c))) := p.row (by rw [wr_row, p1]) (fun k hk => wr_ne hk) (fun j hj => by rw [e3]; exact wrR_ne (by omega))
          obtain ⟨T5, m1, m2, m3⟩ := M_merge (T := wr (fl T3 3 0 126 (fun j => T3 1 j)) 1 (3 + 10 * a) (min 8 (bcap (T 1) a + bcap (T 1) c))) (a := a) (c := c) (y3 := k) (y4 := pay (T 1) a k + pay (T 1) c k) (by rw [A4.1]; exact hw1) h1.1 (by rw [A4.1, z2]; exact h1.2) h2.1 (by rw [A4.1, z2]; exact h2.2) h4
          rw [A4.1, (z3 c h2.1).2] at m2
          obtain ⟨k0, _, _, k3, _, _, k6⟩ := mg_keeps (by decide) hw1 h1.1 (by rw [z2]; exact h1.2) h2.1 (by rw [z2]; exact h2.2) (bcnt (T 1) c).toNat (by rw [(z3 c h2.1).2]; omega)
          have A5 : Asd T3 T5 (mgR (wrR (T 1) (3 + 10 * a) (min 8 (bcap (T 1) a + bcap (T 1) c))) a c (bcnt (T 1) c).toNat) := A4.row m2 m3 (fun j hj => k6 j (by omega))
          obtain ⟨S5, a1, a2, a3⟩ := C_takeFrom (th := 19) (q := 5) (by omega) (by decide) h.1 hR4.2.1
          obtain ⟨S6, b1, b2, b3⟩ := C_merge (q := 19) h.1 a2 h1.1 h1.2 h2.1 h2.2 h4
          generalize hM : mgR (wrR (T 1) (3 + 10 * a) (min 8 (bcap (T 1) a + bcap (T 1) c))) a c (bcnt (T 1) c).toNat = BM at *
          have kM : BM 2 = T 1 2 := by rw [k3]; exact z2
          obtain ⟨S7, d1, d2, d3⟩ := C_removeBidder (q := 19) (by decide) k0 b2 h2.1 (by omega)
          obtain ⟨T6, f1, f2, f3⟩ := M_goes (T := T5) (a := c) (by rw [m2]; omega) h2.1 (by rw [m2]; omega)
          rw [m2] at f2
          have A6 : Asd T3 T6 (goesR BM c) := A5.row f2 f3 (fun j hj => goes_out h2.1 (by omega) hj)
          have hw7 := goes_WF k0 h2.1 (show c < BM 2 by omega)
          have z27 : goesR BM c 2 = BM 2 - 1 := (goes_0 h2.1).2.2
          obtain ⟨S8, g1, g2, g3⟩ := DC.of (S := S7) (α := 18) (by decide) hw7 d2
          obtain ⟨T7, l1, l2, l3⟩ := DM.of (T := T6) (N := 8) (by decide) (by rw [f2]; exact hw7)
          rw [f2] at l2
          have ag8 : AgC S4 S8 := (((AgC.fb a3).tr (AgC.fb b3)).tr (AgC.fb d3)).tr (AgC.fc g3)
          have hj : ∃ j, 0 ≤ j ∧ j < goesR BM c 2 ∧ (if ltb c a = true then some (a - 1) else some a) = some j := by
            by_cases hl : c < a
            · exact ⟨a - 1, by omega, by omega, if_pos (ltb_t hl hc.1 ha.2)⟩
            · exact ⟨a, by omega, by omega, if_neg (nl (by omega) ha.1 hc.2)⟩
          obtain ⟨j, j0, j1, j2⟩ := hj
          obtain ⟨S9, o1, o2⟩ := C_payment (by decide) hw7 g2 j0 j1 h3.1 h3.2
          obtain ⟨T8, q1, q2⟩ := M_paysOf (by decide) hw7 l2 j0 j1 h3.1 h3.2
          obtain ⟨T9, r1, r2, _⟩ := ((A6.fr l3).ft q2).back
          rw [s1, Option.bind_some, u1, Option.bind_some]
          dsimp only
          rw [s4, Option.bind_some, u3, Option.bind_some]
          dsimp only
          rw [a1, Option.bind_some, b1, Option.bind_some, d1, Option.bind_some, g1, Option.bind_some]
          unfold f_X7_placeWithout
          rw [j2, Option.bind_some, o1, Option.bind_some, t1, Option.bind_some, v1, Option.bind_some]
          dsimp only
          rw [v3, Option.bind_some]
          dsimp only
          rw [M_putsAside, Option.bind_some, M_capOf h1.1 (by omega), M_capOf h2.1 (by omega), p1, Option.bind_some, Option.bind_some, M_less (by omega) (by omega) (by omega) (by omega), Option.bind_some, if_pos (by omega)]
          dsimp only [wrk]
          rw [m1, Option.bind_some, f1, Option.bind_some, l1, Option.bind_some, Option.bind_some, q1, Option.bind_some]
          dsimp only
          rw [r1, Option.bind_some]
          exact ⟨_, _, _, rfl, rfl, hR43.ag (ag8.tr (AgC.ps o2)) r2⟩
        · rw [if_neg h3]
          exact ⟨_, _, _, rfl, rfl, h⟩
    · rw [if_neg (show ¬ ((0 ≤ a ∧ a < T 1 2) ∧ (0 ≤ c ∧ c < T 1 2) ∧ a ≠ c) from fun z => h2 z.2.1), if_pos h1, if_neg e10, if_neg h2, if_pos e00]
      exact ⟨_, _, _, rfl, rfl, h⟩
  · rw [if_neg (show ¬ ((0 ≤ a ∧ a < T 1 2) ∧ (0 ≤ c ∧ c < T 1 2) ∧ a ≠ c) from fun z => h1 z.1), if_neg h1, if_pos e00]
    exact ⟨_, _, _, rfl, rfl, h⟩
