/-! ===== a value more; values held back ===== -/
theorem comes_out {B : Int → Int} {b v j : Int} (h1 : 0 ≤ b) (h2 : b < 9) (hc : 0 ≤ bcnt B b ∧ bcnt B b ≤ 8) (h : j < 0 ∨ 126 ≤ j) : comesR B b v j = B j := by
  have pb := pos_bnd (v := v) hc.1
  unfold comesR
  rw [if_neg (by omega), if_neg (by omega), if_neg (by omega)]
theorem Q_valueFor {S T : Mem} {a : Int} (h : Rel S T) (ha : R32 a) : ∃ r S' T', f_X7_valueFor S a = some (r, S') ∧ f_X8_valueFor T a = some (r, T') ∧ Rel S' T' := by
  have hb := Q_has h ha
  have n1 := h.1.2.2.2.2.2.1
  unfold f_X7_valueFor f_X8_valueFor
  rw [hb.1, hb.2]
  simp only [Option.bind_some]
  by_cases hh : 0 ≤ a ∧ a < T 1 2
  · have cb := bcnt_bnd h.1 hh.1 hh.2
    have c6 : S 6 a = bcnt (T 1) a := h.2.1.2.2.2.2.1 a hh.1 hh.2
    have h9 : 0 ≤ a ∧ a < 9 := by omega
    rw [if_pos hh, if_neg e10, if_neg e10, M_valuesOf hh.1 (by omega), Option.bind_some, if_pos h9, c6]
    by_cases h8 : bcnt (T 1) a = 8
    · rw [if_neg (nl (x := bcnt (T 1) a) (y := 8) (by omega) (by omega) (by omega)), if_pos (eqb_t h8)]
      exact ⟨_, _, _, rfl, rfl, h⟩
    · rw [if_pos (ltb_t (show bcnt (T 1) a < 8 by omega) (by omega) (by omega)), if_neg (nq h8 (by omega) (by omega) (by omega) (by omega))]
      obtain ⟨S', s1, s2, s3⟩ := Q_now h
      obtain ⟨T', t1, t2, t3⟩ := Q_runs s2
      have su : S' 11 a = hs (oc (T 1)) a := s3.units hh.1 hh.2
      have tu : T' 5 a = hs (oc (T 1)) a := t2.units hh.1 hh.2
      have o := oc_used h.1 hh.1 hh.2
      have c := bused_bnd h.1 hh.1 hh.2
      rw [s1, Option.bind_some, t1, Option.bind_some, su, if_pos h9, tu]
      generalize hfu : FU = fu
      obtain ⟨r, r', g1, g2, g3⟩ := lp_sim (step := f_X7_valueFor_l39 a (hs (oc (T 1)) a)) (step' := f_X8_valueFor_l33 a (hs (oc (T 1)) a)) (fun s t => s.1 = t.1 ∧ 0 ≤ s.1 ∧ s.1 ≤ 100 ∧ Rel s.2 t.2 ∧ t.2 1 = T 1) (fun s => (100 - s.1).toNat) (fun r r' => match r with
        | .inl x => ∃ y, r' = .inl y ∧ Rel x y
        | .inr x => ∃ y, r' = .inr y ∧ x.1 = y.1 ∧ Rel x.2 y.2) (by
        intro s t ⟨e, x0, x1, hR, ht⟩
        obtain ⟨i, s⟩ := s
        obtain ⟨i', t⟩ := t
        dsimp only at e x0 x1 hR ht ⊢
        subst e
        unfold f_X7_valueFor_l39 f_X8_valueFor_l33
        dsimp only
        by_cases h99 : 99 < i
        · rw [if_pos (ltb_t h99 (by omega) (by omega)), if_pos (ltb_t h99 (by omega) (by omega))]
          exact Or.inr ⟨_, _, rfl, rfl, _, rfl, hR⟩
        · have q9 := nl (x := 99) (y := i) (by omega) (by omega) (by omega)
          have hv : 0 ≤ i ∧ i ≤ 99 := by omega
          have hwt : WF 8 (t 1) := by rw [ht]; exact h.1
          have hw' := comes_WF h.1 hh.1 hh.2 (show bcnt (T 1) a < 8 by omega) hv
          have z2 : comesR (T 1) a i 2 = T 1 2 := (comes_0 hh.1 cb.2.2.1).2.2
          obtain ⟨S1, a1, a2, a3⟩ := C_takeFrom (th := 19) (q := 5) (by omega) (by decide) hR.1 hR.2.1
          rw [ht] at a2
          obtain ⟨S2, b1, b2, b3⟩ := C_insertValue (q := 19) (by decide) h.1 a2 hh.1 hh.2 (show bcnt (T 1) a < 8 by omega) hv
          obtain ⟨S3, c1, c2, c3⟩ := DC.of (S := S2) (α := 18) (by decide) hw' b2
          have p := Asd.put t
          have e1 : fl t 3 0 126 (fun j => t 1 j) 1 = T 1 := by rw [p.1, ht]
          obtain ⟨T2, d1, d2, d3⟩ := M_comes (T := fl t 3 0 126 (fun j => t 1 j)) (b := a) (v := i) (N := 8) (by decide) (by rw [e1]; exact h.1) hh.1 (by rw [e1]; exact hh.2) (by rw [e1]; omega) hv
          rw [e1] at d2
          obtain ⟨T3, f1, f2, f3⟩ := DM.of (T := T2) (N := 8) (by decide) (by rw [d2]; exact hw')
          rw [d2] at f2
          obtain ⟨T4, k1, k2, k3⟩ := ((p.row d2 d3 (fun j hj => by rw [comes_out hh.1 h9.2 cb.2.2 hj, ht])).fr f3).back
          have su2 : S3 25 a = hs (oc (comesR (T 1) a i)) a := c2.units hh.1 (by rw [z2]; exact hh.2)
          have tu2 : T4 5 a = hs (oc (comesR (T 1) a i)) a := by
            rw [k3 5 (by decide)]
            exact f2.units hh.1 (by rw [z2]; exact hh.2)
          have o2 := oc_used hw' hh.1 (by rw [z2]; exact hh.2)
          have c2' := bused_bnd hw' hh.1 (by rw [z2]; exact hh.2)
          have hR2 : Rel S3 T4 := hR.ag (((AgC.fb a3).tr (AgC.fb b3)).tr (AgC.fc c3)) k2
          have ht2 : T4 1 = T 1 := by rw [k2.1]; exact ht
          rw [if_neg q9, if_neg q9, a1, Option.bind_some, b1, Option.bind_some, c1, Option.bind_some, if_pos h9, su2, M_putsAside, Option.bind_some, d1, Option.bind_some, f1, Option.bind_some, k1, Option.bind_some, if_pos h9, tu2]
          by_cases hl : hs (oc (T 1)) a < hs (oc (comesR (T 1) a i)) a
          · rw [if_pos (ltb_t hl (by omega) (by omega)), if_pos (ltb_t hl (by omega) (by omega))]
            exact Or.inr ⟨_, _, rfl, rfl, _, rfl, rfl, hR2⟩
          · have ql := nl (x := hs (oc (T 1)) a) (y := hs (oc (comesR (T 1) a i)) a) (by omega) (by omega) (by omega)
            rw [if_neg ql, if_neg ql]
            exact Or.inl ⟨_, _, rfl, rfl, ⟨rfl, by dsimp only; omega, by dsimp only; omega, hR2, ht2⟩, by dsimp only; omega⟩) fu (0, S') (0, T') ⟨rfl, by dsimp only; omega, by dsimp only; omega, t3, t2.1⟩ (by dsimp only; rw [← hfu, FU_eq]; omega)
      rw [g1, g2]
      cases r with
      | inl x =>
        obtain ⟨y, e, f1⟩ := g3
        subst e
        exact ⟨_, _, _, rfl, rfl, f1⟩
      | inr x =>
        obtain ⟨y, e, e2, f1⟩ := g3
        subst e
        refine ⟨x.1, x.2, y.2, rfl, ?_, f1⟩
        rw [e2]
        rfl
  · rw [if_neg hh]
    exact ⟨_, _, _, rfl, rfl, h⟩
/-! all values of one, moved -/
def cla (x : Int) : Int := max 0 (min 99 x)
def movR (B : Int → Int) (b d : Int) : Int → Int := fun j => if 3 + 10 * b + 2 ≤ j ∧ j < 3 + 10 * b + 2 + bcnt B b then cla (B j + d) else B j
theorem movR_eq {B : Int → Int} {b d : Int} (h1 : 0 ≤ b) (hc : bcnt B b ≤ 8) : movR B b d 0 = B 0 ∧ movR B b d 1 = B 1 ∧ movR B b d 2 = B 2 ∧ (∀ c, 0 ≤ c → bcap (movR B b d) c = bcap B c ∧ bcnt (movR B b d) c = bcnt B c) ∧ ∀ c i, 0 ≤ c → 0 ≤ i → i < 8 → bval (movR B b d) c i = if c = b ∧ i < bcnt B b then cla (bval B b i + d) else bval B c i := by
  refine ⟨if_neg (by omega), if_neg (by omega), if_neg (by omega), fun c c0 => ⟨if_neg (by omega), if_neg (by omega)⟩, fun c i c0 i0 i1 => ?_⟩
  by_cases h : c = b ∧ i < bcnt B b
  · rw [if_pos h, h.1]
    show (if 3 + 10 * b + 2 ≤ 3 + 10 * b + 2 + i ∧ 3 + 10 * b + 2 + i < 3 + 10 * b + 2 + bcnt B b then _ else _) = _
    rw [if_pos (by omega)]
    rfl
  · rw [if_neg h]
    show (if 3 + 10 * b + 2 ≤ 3 + 10 * c + 2 + i ∧ 3 + 10 * c + 2 + i < 3 + 10 * b + 2 + bcnt B b then _ else _) = _
    rw [if_neg (by omega)]
    rfl
theorem movR_out {B : Int → Int} {b d j : Int} (h1 : 0 ≤ b) (h2 : b < 9) (hc : bcnt B b ≤ 8) (h : j < 0 ∨ 126 ≤ j) : movR B b d j = B j := if_neg (by omega)
theorem cla_bnd (x : Int) : 0 ≤ cla x ∧ cla x ≤ 99 := by unfold cla; omega
theorem cla_mono {x y : Int} (h : x ≤ y) : cla x ≤ cla y := by unfold cla; omega
theorem movR_WF {N : Int} {B : Int → Int} {b d : Int} (hw : WF N B) (h1 : 0 ≤ b) (h2 : b < B 2) : WF N (movR B b d) := by
  obtain ⟨a0, a1, a2, a3, a4, a5, a6, a7, a8⟩ := hw
  have cb := a6 b h1 h2
  obtain ⟨z0, z1, z2, z3, z4⟩ := movR_eq (B := B) (d := d) h1 cb.2.2.2
  refine ⟨by omega, by omega, by omega, by omega, by omega, by omega, fun c x y => ?_, fun c i x y z u => ?_, fun c i x y z u => ?_⟩
  · rw [(z3 c x).1, (z3 c x).2]
    exact a6 c x (by omega)
  · have k := a6 c x (by omega)
    rw [(z3 c x).2] at u
    rw [z4 c i x z (by omega)]
    split
    · exact cla_bnd _
    · exact a7 c i x (by omega) z u
  · have k := a6 c x (by omega)
    rw [(z3 c x).2] at u
    rw [z4 c i x z (by omega), z4 c (i + 1) x (by omega) (by omega)]
    have s := a8 c i x (by omega) z u
    by_cases hc : c = b
    · subst hc
      rw [if_pos (show c = c ∧ i + 1 < bcnt B c from ⟨rfl, u⟩), if_pos (show c = c ∧ i < bcnt B c from ⟨rfl, by omega⟩)]
      exact cla_mono (by omega)
    · rw [if_neg (fun w => hc w.1), if_neg (fun w => hc w.1)]
      exact s
theorem C_shifted {S : Mem} {x d : Int} (hx : -1000 ≤ x ∧ x ≤ 1000) (hd : -1000 ≤ d ∧ d ≤ 1000) : f_X1_shifted S x d = some (cla (x + d)) := by
  unfold f_X1_shifted
  rw [mnb_le (by omega) (by omega) (by omega) (by omega), mxb_le (by omega) (by omega) (by omega) (by omega)]
  rfl
theorem C_shift {N : Int} {B : Int → Int} {S : Mem} {q : Nat} {b d : Int} (hN : N ≤ 9) (hw : WF N B) (hR : RB S q B) (h1 : 0 ≤ b) (h2 : b < B 2) (hd : -1000 ≤ d ∧ d ≤ 1000) : ∃ S', f_X1_shift S q b d = some S' ∧ RB S' q (movR B b d) ∧ FrB S S' q := by
  have n1 := hw.2.2.2.2.2.1
  have cb := bcnt_bnd hw h1 h2
  obtain ⟨z0, z1, z2, z3, z4⟩ := movR_eq (B := B) (d := d) h1 cb.2.2.2
  obtain ⟨S', g1, g2, g3⟩ := lp_rel (step := f_X1_shift_l2 q b d) (fun i (t : Int × Mem) => t.1 = i ∧ (∀ k, k ≠ q + 3 → t.2 k = S k) ∧ ∀ x, t.2 (q + 3) x = if b * 8 ≤ x ∧ x < b * 8 + i then cla (S (q + 3) x + d) else S (q + 3) x) (fun (t : Mem) => (∀ k, k ≠ q + 3 → t k = S k) ∧ ∀ x, t (q + 3) x = if b * 8 ≤ x ∧ x < b * 8 + bcnt B b then cla (S (q + 3) x + d) else S (q + 3) x) (bcnt B b).toNat (by
    intro i t hi ⟨e0, e1, e2⟩
    obtain ⟨t1, t2⟩ := t
    dsimp only at e0 e1 e2 ⊢
    subst e0
    have ev : t2 (q + 3) (b * 8 + i) = bval B b i := by
      rw [e2, if_neg (by omega)]
      exact hR.2.2.2.2.2 b i h1 h2 (by omega) (by omega)
    have ev2 : S (q + 3) (b * 8 + i) = bval B b i := hR.2.2.2.2.2 b i h1 h2 (by omega) (by omega)
    have vb := bval_bnd hw (i := i) h1 h2 (by omega) (by omega)
    refine ⟨((i : Int) + 1, wr t2 (q + 3) (b * 8 + i) (cla (bval B b i + d))), ?_, rfl, fun k hk => by dsimp only; rw [wr_ne hk]; exact e1 k hk, fun x => ?_⟩
    · unfold f_X1_shift_l2 f_X1_valueAt
      dsimp only
      rw [if_pos (by omega), if_pos (show ltb (i : Int) (t2 (q + 1) b) = true by rw [e1 (q + 1) (by omega), hR.2.2.2.2.1 b h1 h2]; exact ltb_t (by omega) (by omega) (by omega)), if_pos (by omega), ev, Option.bind_some, C_shifted (by omega) hd, Option.bind_some, if_pos (by omega)]
      rfl
    · dsimp only
      rw [wr_at]
      by_cases hx : x = b * 8 + i
      · rw [if_pos hx, if_pos (by omega), hx, ev2]
      · rw [if_neg hx, e2]
        by_cases h : b * 8 ≤ x ∧ x < b * 8 + i
        · rw [if_pos h, if_pos (by omega)]
        · rw [if_neg h, if_neg (by omega)]) (by
    intro t ⟨e0, e1, e2⟩
    obtain ⟨t1, t2⟩ := t
    dsimp only at e0 e1 e2 ⊢
    subst e0
    rw [show (((bcnt B b).toNat : Nat) : Int) = bcnt B b by omega] at e2
    refine ⟨t2, ?_, e1, e2⟩
    unfold f_X1_shift_l2
    dsimp only
    rw [if_pos (by omega), if_neg (show ¬ ltb (((bcnt B b).toNat : Nat) : Int) (t2 (q + 1) b) = true by rw [e1 (q + 1) (by omega), hR.2.2.2.2.1 b h1 h2]; exact nl (by omega) (by omega) (by omega))]) (n := FU) (by rw [FU_eq]; omega) (s := (0, S)) ⟨rfl, fun _ _ => rfl, fun x => by rw [if_neg (by omega)]⟩
  refine ⟨S', ?_, ⟨by rw [g2 q (by omega), z0]; exact hR.1, by rw [g2 q (by omega), z1]; exact hR.2.1, by rw [g2 q (by omega), z2]; exact hR.2.2.1, fun c x y => ?_, fun c x y => ?_, fun c i x y z u => ?_⟩, fun k _ _ _ k3 => g2 k k3⟩
  · unfold f_X1_shift
    rw [g1]
    rfl
  · rw [g2 (q + 2) (by omega), (z3 c x).1]; exact hR.2.2.2.1 c x (by omega)
  · rw [g2 (q + 1) (by omega), (z3 c x).2]; exact hR.2.2.2.2.1 c x (by omega)
  · have k := bcnt_bnd hw x (show c < B 2 by omega)
    rw [(z3 c x).2] at u
    have e := hR.2.2.2.2.2 c i x (by omega) z u
    rw [g3, z4 c i x z (by omega), e]
    by_cases hc : c = b
    · subst hc
      rw [if_pos (by omega), if_pos (show c = c ∧ i < bcnt B c from ⟨rfl, u⟩)]
    · rw [if_neg (by omega), if_neg (fun w => hc w.1)]
def chg (B : Int → Int) (b d : Int) : Nat → Int := sumN (fun i => if cla (bval B b i + d) = bval B b i then 0 else 1)
theorem M_held {T : Mem} {x : Int} (hx : -10000 ≤ x ∧ x ≤ 10000) : f_X8_held T x = some (cla x) := by
  unfold f_X8_held cla
  by_cases h : x < 0
  · rw [if_pos (ltb_t h (by omega) (by omega))]
    congr 1
    omega
  · rw [if_neg (nl (x := x) (y := 0) (by omega) (by omega) (by omega))]
    by_cases g : 99 < x
    · rw [if_pos (ltb_t g (by omega) (by omega))]
      congr 1
      omega
    · rw [if_neg (nl (x := 99) (y := x) (by omega) (by omega) (by omega))]
      congr 1
      omega
theorem M_shades {N : Int} {T : Mem} {b d : Int} (hN : N ≤ 9) (hw : WF N (T 1)) (h1 : 0 ≤ b) (h2 : b < T 1 2) (hd : -1000 ≤ d ∧ d ≤ 1000) : ∃ T', f_X8_shades T b d = some (chg (T 1) b d (bcnt (T 1) b).toNat, T') ∧ T' 1 = movR (T 1) b d ∧ Fr1 T T' := by
  have n1 := hw.2.2.2.2.2.1
  have cb := bcnt_bnd hw h1 h2
  have := lp_seq (step := f_X8_shades_l5 b d) (fun n => (chg (T 1) b d n, (n : Int), fl T 1 (3 + 10 * b + 2) n (fun j => cla (T 1 j + d)))) (bcnt (T 1) b).toNat (chg (T 1) b d (bcnt (T 1) b).toNat, fl T 1 (3 + 10 * b + 2) (bcnt (T 1) b).toNat (fun j => cla (T 1 j + d))) (fun i hi => by
    have ec : bcnt (fl T 1 (3 + 10 * b + 2) i (fun j => cla (T 1 j + d)) 1) b = bcnt (T 1) b := by
      unfold bcnt
      rw [fl_out (by omega)]
    have ev : bval (fl T 1 (3 + 10 * b + 2) i (fun j => cla (T 1 j + d)) 1) b i = bval (T 1) b i := by
      unfold bval
      rw [fl_out (by omega)]
    have vb := bval_bnd hw (i := i) h1 h2 (by omega) (by omega)
    have cl := cla_bnd (bval (T 1) b i + d)
    unfold f_X8_shades_l5
    dsimp only
    rw [M_valuesOf h1 (by omega), ec, Option.bind_some, if_pos (ltb_t (by omega) (by omega) (by omega)), M_valueAt h1 (by omega) (by omega) (by omega), ev, Option.bind_some, M_held (by omega), Option.bind_some, Option.bind_some]
    have hs : chg (T 1) b d (i + 1) = chg (T 1) b d i + if cla (bval (T 1) b i + d) = bval (T 1) b i then 0 else 1 := rfl
    have hf : wr (fl T 1 (3 + 10 * b + 2) i (fun j => cla (T 1 j + d))) 1 (3 + 10 * b + 2 + i) (cla (bval (T 1) b i + d)) = fl T 1 (3 + 10 * b + 2) (i + 1) (fun j => cla (T 1 j + d)) := fl_s (by omega) rfl
    by_cases hq : cla (bval (T 1) b i + d) = bval (T 1) b i
    · rw [if_pos (eqb_t hq), Option.bind_some, if_pos (by omega)]
      dsimp only [wrk]
      rw [hf, hs, if_pos hq, Int.add_zero]
      rfl
    · rw [if_neg (nq hq (by omega) (by omega) (by omega) (by omega)), Option.bind_some, if_pos (by omega)]
      dsimp only [wrk]
      rw [hf, hs, if_neg hq]
      rfl) (by
    have ec : bcnt (fl T 1 (3 + 10 * b + 2) (bcnt (T 1) b).toNat (fun j => cla (T 1 j + d)) 1) b = bcnt (T 1) b := by
      unfold bcnt
      rw [fl_out (by omega)]
    unfold f_X8_shades_l5
    dsimp only
    rw [M_valuesOf h1 (by omega), ec, Option.bind_some, if_neg (nl (by omega) (by omega) (by omega))]) (n := FU) (by rw [FU_eq]; omega)
  rw [fl_0] at this
  refine ⟨fl T 1 (3 + 10 * b + 2) (bcnt (T 1) b).toNat (fun j => cla (T 1 j + d)), ?_, ?_, fun k hk => fl_ne hk⟩
  · unfold f_X8_shades
    rw [show ((0 : Nat) : Int) = 0 from rfl, show chg (T 1) b d 0 = 0 from rfl] at this
    rw [this, Option.bind_some]
  · rw [fl_row]
    funext j
    unfold movR
    by_cases h : 3 + 10 * b + 2 ≤ j ∧ j < 3 + 10 * b + 2 + bcnt (T 1) b
    · rw [if_pos (by omega), if_pos h]
    · rw [if_neg (by omega), if_neg h]
theorem movR_units {N : Int} {B : Int → Int} {b d : Int} (hw : WF N B) (h1 : 0 ≤ b) (h2 : b < B 2) : hs (oc (movR B b d)) b ≤ bcnt B b := by
  have cb := bcnt_bnd hw h1 h2
  have hw' := movR_WF (d := d) hw h1 h2
  obtain ⟨z0, z1, z2, z3, z4⟩ := movR_eq (B := B) (d := d) h1 cb.2.2.2
  have o := oc_used hw' h1 (by rw [z2]; exact h2)
  have u := bused_bnd hw' h1 (by rw [z2]; exact h2)
  rw [(z3 b h1).2] at u
  omega
theorem Q_hiding {S T : Mem} {b k n : Int} (h : Rel S T) (h1 : 0 ≤ b) (h2 : b < T 1 2) (h3 : 0 ≤ k ∧ k ≤ 3) (hn : 0 ≤ n ∧ n ≤ 99) : ∃ S' T', f_X7_gainByHiding S b k n = some (tru (T 1) (movR (T 1) b (-n)) b k, S') ∧ f_X8_hidesAll T b k n = some (tru (T 1) (movR (T 1) b (-n)) b k, T') ∧ AgC S S' ∧ AgM T T' := by
  have n1 := h.1.2.2.2.2.2.1
  have cb := bcnt_bnd h.1 h1 h2
  have hw' := movR_WF (d := -n) h.1 h1 h2
  obtain ⟨z0, z1, z2, z3, z4⟩ := movR_eq (B := T 1) (d := -n) h1 cb.2.2.2
  have hu := movR_units (d := -n) h.1 h1 h2
  obtain ⟨S1, a1, a2, a3⟩ := C_takeFrom (th := 19) (q := 5) (by omega) (by decide) h.1 h.2.1
  obtain ⟨S2, b1, b2, b3⟩ := C_shift (q := 19) (d := -n) (by decide) h.1 a2 h1 h2 (by omega)
  obtain ⟨S3, c1, c2, c3⟩ := DC.of (S := S2) (α := 18) (by decide) hw' b2
  obtain ⟨S4, d1, d2⟩ := C_truly (by decide) h hw' (((AgC.fb a3).tr (AgC.fb b3)).tr (AgC.fc c3)) c2 h1 h2 (by rw [z2]; exact h2) h3 hu
  have p := Asd.put T
  have e1 : fl T 3 0 126 (fun j => T 1 j) 1 = T 1 := p.1
  obtain ⟨T2, f1, f2, f3⟩ := M_shades (T := fl T 3 0 126 (fun j => T 1 j)) (b := b) (d := -n) (N := 8) (by decide) (by rw [e1]; exact h.1) h1 (by rw [e1]; exact h2) (by omega)
  rw [e1] at f2
  obtain ⟨T3, k1, k2⟩ := M_truly (by decide) h.1 hw' (p.row f2 f3 (fun j hj => movR_out h1 (by omega) cb.2.2.2 hj)) h1 h2 (by rw [z2]; exact h2) h3 hu
  refine ⟨S4, T3, ?_, ?_, d2, k2⟩
  · unfold f_X7_gainByHiding
    rw [a1, Option.bind_some, b1, Option.bind_some, c1, Option.bind_some, if_pos (by omega), d1]
  · unfold f_X8_hidesAll
    rw [M_putsAside, Option.bind_some, f1, Option.bind_some]
    dsimp only
    rw [k1]
    rfl
theorem Q_hides {S T : Mem} {a k n : Int} (h : Rel S T) (ha : R32 a) (hk : R32 k) (hn : R32 n) : ∃ r S' T', f_X7_hides S a k n = some (r, S') ∧ f_X8_hides T a k n = some (r, T') ∧ Rel S' T' := by
  have hb := Q_has h ha
  unfold f_X7_hides f_X8_hides
  rw [hb.1, hb.2]
  simp only [Option.bind_some]
  by_cases hh : 0 ≤ a ∧ a < T 1 2
  · rw [if_pos hh, if_neg e10, if_neg e10, C_isKind hk, M_isKind hk]
    simp only [Option.bind_some]
    by_cases h3 : 0 ≤ k ∧ k ≤ 3
    · rw [if_pos h3, if_neg e10, if_neg e10, C_isPrice hn, M_isPrice hn]
      simp only [Option.bind_some]
      by_cases h4 : 0 ≤ n ∧ n ≤ 99
      · obtain ⟨S', T', g1, g2, g3, g4⟩ := Q_hiding h hh.1 hh.2 h3 h4
        rw [if_pos h4, if_neg e10, if_neg e10, g1, g2]
        exact ⟨_, _, _, rfl, rfl, h.ag g3 g4⟩
      · rw [if_neg h4]
        exact ⟨_, _, _, rfl, rfl, h⟩
    · rw [if_neg h3]
      exact ⟨_, _, _, rfl, rfl, h⟩
  · rw [if_neg hh]
    exact ⟨_, _, _, rfl, rfl, h⟩
theorem Q_bestHides {S T : Mem} {a k : Int} (h : Rel S T) (ha : R32 a) (hk : R32 k) : ∃ r S' T', f_X7_bestHides S a k = some (r, S') ∧ f_X8_bestHides T a k = some (r, T') ∧ Rel S' T' := by
  have hb := Q_has h ha
  unfold f_X7_bestHides f_X8_bestHides
  rw [hb.1, hb.2]
  simp only [Option.bind_some]
  by_cases hh : 0 ≤ a ∧ a < T 1 2
  · rw [if_pos hh, if_neg e10, if_neg e10, C_isKind hk, M_isKind hk]
    simp only [Option.bind_some]
    by_cases h3 : 0 ≤ k ∧ k ≤ 3
    · have cb := bcnt_bnd h.1 hh.1 hh.2
      rw [if_pos h3, if_neg e10, if_neg e10]
      generalize hfu : FU = fu
      obtain ⟨r, r', g1, g2, g3⟩ := lp_sim (step := f_X7_bestHides_l29 a k) (step' := f_X8_bestHides_l26 a k) (fun s t => s.2.2.1 = t.2.2.1 ∧ 0 ≤ s.2.2.1 ∧ s.2.2.1 ≤ 21 ∧ s.1 = t.1 ∧ ((s.2.2.1 = 0 ∧ s.2.1 = -1000000 ∧ t.2.1 = -100000) ∨ (s.2.1 = t.2.1 ∧ -30000 ≤ s.2.1 ∧ s.2.1 ≤ 30000)) ∧ Rel s.2.2.2 t.2.2.2 ∧ t.2.2.2 1 = T 1) (fun s => (21 - s.2.2.1).toNat) (fun r r' => r.1 = r'.1 ∧ Rel r.2 r'.2) (by
        intro s t ⟨e, x0, x1, e2, hm, hR, ht⟩
        obtain ⟨s1, s2, i, s⟩ := s
        obtain ⟨t1, t2, i', t⟩ := t
        dsimp only at e x0 x1 e2 hm hR ht ⊢
        subst e e2
        unfold f_X7_bestHides_l29 f_X8_bestHides_l26
        dsimp only
        by_cases hi : 20 < i
        · rw [if_pos (ltb_t hi (by omega) (by omega)), if_pos (ltb_t hi (by omega) (by omega))]
          exact Or.inr ⟨_, _, rfl, rfl, rfl, hR⟩
        · have ql := nl (x := 20) (y := i) (by omega) (by omega) (by omega)
          obtain ⟨S', T', c1, c2, c3, c4⟩ := Q_hiding (b := a) (k := k) (n := i) hR hh.1 (by rw [ht]; exact hh.2) h3 (by omega)
          rw [ht] at c1 c2
          obtain ⟨z0, z1, z2, z3, z4⟩ := movR_eq (B := T 1) (d := -i) hh.1 cb.2.2.2
          have gb := tru_bnd (k := k) (by decide) h.1 (movR_WF (d := -i) h.1 hh.1 hh.2) hh.1 hh.2 (by rw [z2]; exact hh.2) (movR_units h.1 hh.1 hh.2)
          rw [if_neg ql, if_neg ql, c1, Option.bind_some, c2, Option.bind_some]
          dsimp only
          have hR3 := hR.ag c3 c4
          have ht3 : T' 1 = T 1 := by rw [c4.1]; exact ht
          generalize tru (T 1) (movR (T 1) a (-i)) a k = g at gb
          rcases hm with ⟨m0, m1, m2⟩ | ⟨m1, m2, m3⟩
          · subst m1 m2
            rw [if_pos (ltb_t (show -1000000 < g by omega) (by omega) (by omega)), if_pos (ltb_t (show -100000 < g by omega) (by omega) (by omega))]
            exact Or.inl ⟨_, _, rfl, rfl, ⟨rfl, by dsimp only; omega, by dsimp only; omega, rfl, Or.inr ⟨rfl, gb.1, gb.2⟩, hR3, ht3⟩, by dsimp only; omega⟩
          · subst m1
            by_cases hl : s2 < g
            · rw [if_pos (ltb_t hl (by omega) (by omega))]
              exact Or.inl ⟨_, _, rfl, rfl, ⟨rfl, by dsimp only; omega, by dsimp only; omega, rfl, Or.inr ⟨rfl, gb.1, gb.2⟩, hR3, ht3⟩, by dsimp only; omega⟩
            · rw [if_neg (nl (x := s2) (y := g) (by omega) (by omega) (by omega))]
              exact Or.inl ⟨_, _, rfl, rfl, ⟨rfl, by dsimp only; omega, by dsimp only; omega, rfl, Or.inr ⟨rfl, m2, m3⟩, hR3, ht3⟩, by dsimp only; omega⟩) fu (0, (-1000000), 0, S) (0, (-100000), 0, T) ⟨rfl, by dsimp only; omega, by dsimp only; omega, rfl, Or.inl ⟨rfl, rfl, rfl⟩, h, rfl⟩ (by dsimp only; rw [← hfu, FU_eq]; omega)
      rw [g1, g2, Option.bind_some, Option.bind_some]
      refine ⟨r.1, r.2, r'.2, rfl, ?_, g3.2⟩
      rw [g3.1]
    · rw [if_neg h3]
      exact ⟨_, _, _, rfl, rfl, h⟩
  · rw [if_neg hh]
    exact ⟨_, _, _, rfl, rfl, h⟩
