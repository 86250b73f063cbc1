/-! ===== bidders change places ===== -/
def PermR (σ B B' : Int → Int) : Prop := B' 0 = B 0 ∧ B' 1 = B 1 ∧ B' 2 = B 2 ∧ (∀ c r, 0 ≤ c → c < B 2 → 0 ≤ r → r < 10 → B' (3 + 10 * c + r) = B (3 + 10 * σ c + r)) ∧ ∀ j, 93 ≤ j → B' j = B j
theorem PermR.row {σ B B' : Int → Int} (g : PermR σ B B') {c : Int} (c0 : 0 ≤ c) (c1 : c < B 2) : bcap B' c = bcap B (σ c) ∧ bcnt B' c = bcnt B (σ c) ∧ ∀ i, 0 ≤ i → i < 8 → bval B' c i = bval B (σ c) i := by
  have k := g.2.2.2.1 c
  refine ⟨?_, k 1 c0 c1 (by decide) (by decide), fun i i0 i1 => ?_⟩
  · have := k 0 c0 c1 (by decide) (by decide)
    rw [Int.add_zero, Int.add_zero] at this
    exact this
  · have := k (2 + i) c0 c1 (by omega) (by omega)
    rw [← Int.add_assoc, ← Int.add_assoc] at this
    exact this
theorem PermR.WF {σ B B' : Int → Int} (g : PermR σ B B') (hw : WF 8 B) (hs : ∀ c, 0 ≤ c → c < B 2 → 0 ≤ σ c ∧ σ c < B 2) : WF 8 B' := by
  obtain ⟨a0, a1, a2, a3, a4, a5, a6, a7, a8⟩ := hw
  have z0 := g.1
  have z1 := g.2.1
  have z2 := g.2.2.1
  refine ⟨by omega, by omega, by omega, by omega, by omega, by omega, fun c x y => ?_, fun c i x y z u => ?_, fun c i x y z u => ?_⟩
  · have k := g.row x (show c < B 2 by omega)
    have o := hs c x (by omega)
    rw [k.1, k.2.1]
    exact a6 _ o.1 o.2
  · have k := g.row x (show c < B 2 by omega)
    have o := hs c x (by omega)
    have l := a6 _ o.1 o.2
    rw [k.2.1] at u
    rw [k.2.2 i z (by omega)]
    exact a7 _ i o.1 o.2 z u
  · have k := g.row x (show c < B 2 by omega)
    have o := hs c x (by omega)
    have l := a6 _ o.1 o.2
    rw [k.2.1] at u
    rw [k.2.2 i z (by omega), k.2.2 (i + 1) (by omega) (by omega)]
    exact a8 _ i o.1 o.2 z u
def PC (σ : Int → Int) (S S' : Mem) (q : Nat) (n : Int) : Prop := S' q = S q ∧ FrB S S' q ∧ ∀ x, 0 ≤ x → x < n → S' (q + 1) x = S (q + 1) (σ x) ∧ S' (q + 2) x = S (q + 2) (σ x) ∧ ∀ j, 0 ≤ j → j < 8 → S' (q + 3) (x * 8 + j) = S (q + 3) (σ x * 8 + j)
theorem PC.RB {σ B B' : Int → Int} {S S' : Mem} {q : Nat} (p : PC σ S S' q (B 2)) (hw : WF 8 B) (hR : RB S q B) (g : PermR σ B B') (hs : ∀ c, 0 ≤ c → c < B 2 → 0 ≤ σ c ∧ σ c < B 2) : RB S' q B' := by
  have z0 := g.1
  have z1 := g.2.1
  have z2 := g.2.2.1
  obtain ⟨p0, p1, p2⟩ := p
  refine ⟨by rw [p0, z0]; exact hR.1, by rw [p0, z1]; exact hR.2.1, by rw [p0, z2]; exact hR.2.2.1, fun c x y => ?_, fun c x y => ?_, fun c i x y z u => ?_⟩
  · have k := g.row x (show c < B 2 by omega)
    have o := hs c x (by omega)
    rw [k.1, (p2 c x (by omega)).2.1]
    exact hR.2.2.2.1 _ o.1 o.2
  · have k := g.row x (show c < B 2 by omega)
    have o := hs c x (by omega)
    rw [k.2.1, (p2 c x (by omega)).1]
    exact hR.2.2.2.2.1 _ o.1 o.2
  · have k := g.row x (show c < B 2 by omega)
    have o := hs c x (by omega)
    have l := bcnt_bnd hw o.1 o.2
    rw [k.2.1] at u
    rw [k.2.2 i z (by omega), (p2 c x (by omega)).2.2 i z (by omega)]
    exact hR.2.2.2.2.2 _ i o.1 o.2 z u
def swp (a c x : Int) : Int := if x = a then c else if x = c then a else x
theorem C_exchange {S : Mem} {q : Nat} {a c n : Int} (hn : n ≤ 9) (h1 : 0 ≤ a) (h2 : a < n) (h3 : 0 ≤ c) (h4 : c < n) (hne : a ≠ c) : ∃ S', f_X1_exchange S q a c = some S' ∧ PC (swp a c) S S' q n := by
  let S9 := wr (wr (wr (wr S (q + 1) a (S (q + 1) c)) (q + 1) c (S (q + 1) a)) (q + 2) a (S (q + 2) c)) (q + 2) c (S (q + 2) a)
  have k1 : ∀ x, S9 (q + 1) x = S (q + 1) (swp a c x) := fun x => by
    show wr _ (q + 2) c _ (q + 1) x = _
    rw [wr_cell (by omega), wr_cell (by omega), wr_at, wr_at]
    unfold swp
    by_cases hc : x = c
    · rw [if_pos hc, if_neg (by omega), if_pos hc]
    · rw [if_neg hc]
      by_cases ha : x = a
      · rw [if_pos ha, if_pos ha]
      · rw [if_neg ha, if_neg ha, if_neg hc]
  have k2 : ∀ x, S9 (q + 2) x = S (q + 2) (swp a c x) := fun x => by
    show wr _ (q + 2) c _ (q + 2) x = _
    rw [wr_at, wr_at, wr_cell (by omega), wr_cell (by omega)]
    unfold swp
    by_cases hc : x = c
    · rw [if_pos hc, if_neg (by omega), if_pos hc]
    · rw [if_neg hc]
      by_cases ha : x = a
      · rw [if_pos ha, if_pos ha]
      · rw [if_neg ha, if_neg ha, if_neg hc]
  have k3 : ∀ k, k ≠ q + 1 → k ≠ q + 2 → S9 k = S k := fun k x y => by
    show wr _ (q + 2) c _ k = _
    rw [wr_ne y, wr_ne y, wr_ne x, wr_ne x]
  obtain ⟨S', g1, g2, g3⟩ := lp_rel (step := f_X1_exchange_l57 q a c) (fun i (t : Int × Mem) => t.1 = i ∧ (∀ k, k ≠ q + 3 → t.2 k = S9 k) ∧ ∀ x, t.2 (q + 3) x = if a * 8 ≤ x ∧ x < a * 8 + i then S (q + 3) (x - a * 8 + c * 8) else if c * 8 ≤ x ∧ x < c * 8 + i then S (q + 3) (x - c * 8 + a * 8) else S (q + 3) x) (fun (t : Mem) => (∀ k, k ≠ q + 3 → t k = S9 k) ∧ ∀ x, t (q + 3) x = if a * 8 ≤ x ∧ x < a * 8 + 8 then S (q + 3) (x - a * 8 + c * 8) else if c * 8 ≤ x ∧ x < c * 8 + 8 then S (q + 3) (x - c * 8 + a * 8) else S (q + 3) x) 8 (by
    intro i t hi ⟨e0, e1, e2⟩
    obtain ⟨t1, t2⟩ := t
    dsimp only at e0 e1 e2 ⊢
    subst e0
    have va : t2 (q + 3) (a * 8 + i) = S (q + 3) (a * 8 + i) := by rw [e2, if_neg (by omega), if_neg (by omega)]
    have vc : t2 (q + 3) (c * 8 + i) = S (q + 3) (c * 8 + i) := by rw [e2, if_neg (by omega), if_neg (by omega)]
    refine ⟨((i : Int) + 1, wr (wr t2 (q + 3) (a * 8 + i) (S (q + 3) (c * 8 + i))) (q + 3) (c * 8 + i) (S (q + 3) (a * 8 + i))), ?_, rfl, fun k hk => by dsimp only; rw [wr_ne hk, wr_ne hk]; exact e1 k hk, fun x => ?_⟩
    · unfold f_X1_exchange_l57 f_X1_valueAt
      dsimp only
      rw [if_pos (ltb_t (by omega) (by omega) (by omega)), if_pos (by omega), va, Option.bind_some, if_pos (by omega), vc, Option.bind_some, if_pos (by omega)]
      dsimp only [wrk]
      rw [if_pos (by omega)]
    · dsimp only
      rw [wr_at, wr_at]
      by_cases hc : x = c * 8 + i
      · rw [if_pos hc, if_neg (by omega), if_pos (by omega), show x - c * 8 + a * 8 = a * 8 + i by omega]
      · rw [if_neg hc]
        by_cases ha : x = a * 8 + i
        · rw [if_pos ha, if_pos (by omega), show x - a * 8 + c * 8 = c * 8 + i by omega]
        · rw [if_neg ha, e2]
          by_cases h5 : a * 8 ≤ x ∧ x < a * 8 + i
          · rw [if_pos h5, if_pos (by omega)]
          · rw [if_neg h5, if_neg (show ¬ (a * 8 ≤ x ∧ x < a * 8 + ((i + 1 : Nat) : Int)) by omega)]
            by_cases h6 : c * 8 ≤ x ∧ x < c * 8 + i
            · rw [if_pos h6, if_pos (by omega)]
            · rw [if_neg h6, if_neg (by omega)]) (by
    intro t ⟨e0, e1, e2⟩
    obtain ⟨t1, t2⟩ := t
    dsimp only at e0 e1 e2 ⊢
    subst e0
    refine ⟨t2, ?_, e1, e2⟩
    unfold f_X1_exchange_l57
    dsimp only
    rw [if_neg (nl (by omega) (by omega) (by omega))]) (n := FU) (by rw [FU_eq]; omega) (s := (0, S9)) ⟨rfl, fun _ _ => rfl, fun x => by dsimp only; rw [if_neg (by omega), if_neg (by omega), k3 (q + 3) (by omega) (by omega)]⟩
  refine ⟨S', ?_, by rw [g2 q (by omega), k3 q (by omega) (by omega)], fun k k0 x1 x2 x3 => by rw [g2 k x3, k3 k x1 x2], fun x x0 x1 => ⟨by rw [g2 (q + 1) (by omega)]; exact k1 x, by rw [g2 (q + 2) (by omega)]; exact k2 x, fun j j0 j1 => ?_⟩⟩
  · unfold f_X1_exchange
    rw [if_pos (by omega), if_pos (by omega)]
    dsimp only [wrk]
    rw [wr_cell (k := q + 2) (by omega), wr_cell (k := q + 2) (by omega), wr_cell (k := q + 2) (by omega), wr_cell (k := q + 2) (by omega)]
    rw [show lp (f_X1_exchange_l57 q a c) FU (0, wr (wr (wr (wr S (q + 1) a (S (q + 1) c)) (q + 1) c (S (q + 1) a)) (q + 2) a (S (q + 2) c)) (q + 2) c (S (q + 2) a)) = some S' from g1]
    rfl
  · rw [g3]
    unfold swp
    by_cases ha : x = a
    · rw [if_pos (by omega), if_pos ha, show x * 8 + j - a * 8 + c * 8 = c * 8 + j by omega]
    · rw [if_neg (by omega), if_neg ha]
      by_cases hc : x = c
      · rw [if_pos (by omega), if_pos hc, show x * 8 + j - c * 8 + a * 8 = a * 8 + j by omega]
      · rw [if_neg (by omega), if_neg hc]
theorem M_rows {T : Mem} {B : Int → Int} {σ : Int → Int} (n0 : 0 ≤ B 2) (n1 : B 2 ≤ 8) (h1 : ∀ j, j < 3 → T 1 j = B j) (h2 : ∀ j, 93 ≤ j → T 1 j = B j) (h3 : ∀ c r, 0 ≤ c → c < B 2 → 0 ≤ r → r < 10 → T 1 (3 + 10 * c + r) = B (3 + 10 * σ c + r)) : PermR σ B (T 1) := ⟨h1 0 (by decide), h1 1 (by decide), h1 2 (by decide), h3, h2⟩
theorem Q_swap {S T : Mem} {a c : Int} (h : Rel S T) (ha : R32 a) (hc : R32 c) : ∃ r S' T', f_X7_swap S a c = some (r, S') ∧ f_X8_swap T a c = some (r, T') ∧ Rel S' T' := by
  have n1 := h.1.2.2.2.2.2.1
  have n0 := h.1.2.2.2.2.1
  unfold f_X7_swap f_X8_swap
  rw [Q_hasTwo h ha hc, (Q_has h ha).2, (Q_has h hc).2, Option.bind_some, Option.bind_some, Option.bind_some]
  by_cases h1 : 0 ≤ a ∧ a < T 1 2
  · by_cases h2 : 0 ≤ c ∧ c < T 1 2
    · by_cases h4 : a = c
      · rw [if_neg (show ¬ ((0 ≤ a ∧ a < T 1 2) ∧ (0 ≤ c ∧ c < T 1 2) ∧ a ≠ c) from fun z => z.2.2 h4), if_pos h1, if_neg e10, if_pos h2, if_neg e10, if_pos (eqb_t h4), if_pos e00]
        exact ⟨_, _, _, rfl, rfl, h⟩
      · rw [if_pos (show (0 ≤ a ∧ a < T 1 2) ∧ (0 ≤ c ∧ c < T 1 2) ∧ a ≠ c from ⟨h1, h2, h4⟩), if_pos h1, if_neg e10, if_pos h2, if_neg e10, if_neg (nq h4 ha.1 ha.2 hc.1 hc.2)]
        obtain ⟨S1, T1, a1, a2, a3, a4, a5, a6, a7⟩ := Q_remember h
        have t1 : T1 1 = T 1 := a6 1 (by decide) (by decide)
        obtain ⟨S2, b1, b2⟩ := C_exchange (S := S1) (q := 5) (a := a) (c := c) (n := T1 1 2) (by rw [t1]; omega) h1.1 (by rw [t1]; exact h1.2) h2.1 (by rw [t1]; exact h2.2) h4
        have hs : ∀ x, 0 ≤ x → x < T1 1 2 → 0 ≤ swp a c x ∧ swp a c x < T1 1 2 := fun x x0 x1 => by
          rw [t1] at x1 ⊢
          unfold swp
          split
          · omega
          · split <;> omega
        let U1 := fl T1 1 (3 + 10 * T 1 2) 10 (fun j => T1 1 (j + 10 * (a - T 1 2)))
        let U2 := fl U1 1 (3 + 10 * a) 10 (fun j => U1 1 (j + 10 * (c - a)))
        let U3 := fl U2 1 (3 + 10 * c) 10 (fun j => U2 1 (j + 10 * (T 1 2 - c)))
        have u1 : f_X8_lays T1 a (T 1 2) = some U1 := M_lays (by omega) (by omega) (by omega)
        have u2 : f_X8_lays U1 c a = some U2 := M_lays (by omega) (by omega) (by omega)
        have u3 : f_X8_lays U2 (T 1 2) c = some U3 := M_lays (by omega) (by omega) (by omega)
        have o1 : ∀ j, (j < 3 + 10 * T 1 2 ∨ 3 + 10 * T 1 2 + 10 ≤ j) → U1 1 j = T1 1 j := fun j hj => fl_out (by omega) 1
        have o2 : ∀ j, (j < 3 + 10 * a ∨ 3 + 10 * a + 10 ≤ j) → U2 1 j = U1 1 j := fun j hj => fl_out (by omega) 1
        have o3 : ∀ j, (j < 3 + 10 * c ∨ 3 + 10 * c + 10 ≤ j) → U3 1 j = U2 1 j := fun j hj => fl_out (by omega) 1
        have g : PermR (swp a c) (T1 1) (U3 1) := by
          refine M_rows (by rw [t1]; exact n0) (by rw [t1]; exact n1) (fun j hj => ?_) (fun j hj => ?_) (fun x r x0 x1 r0 r1 => ?_)
          · rw [o3 j (by omega), o2 j (by omega), o1 j (by omega)]
          · rw [o3 j (by omega), o2 j (by omega), o1 j (by omega)]
          · rw [t1] at x1
            unfold swp
            by_cases xa : x = a
            · rw [if_pos xa, o3 _ (by omega), show U2 1 (3 + 10 * x + r) = U1 1 (3 + 10 * x + r + 10 * (c - a)) from fl_in (by omega) (by omega), o1 _ (by omega)]
              congr 1
              omega
            · rw [if_neg xa]
              by_cases xc : x = c
              · rw [if_pos xc, show U3 1 (3 + 10 * x + r) = U2 1 (3 + 10 * x + r + 10 * (T 1 2 - c)) from fl_in (by omega) (by omega), o2 _ (by omega), show U1 1 (3 + 10 * x + r + 10 * (T 1 2 - c)) = T1 1 (3 + 10 * x + r + 10 * (T 1 2 - c) + 10 * (a - T 1 2)) from fl_in (by omega) (by omega)]
                congr 1
                omega
              · rw [if_neg xc, o3 _ (by omega), o2 _ (by omega), o1 _ (by omega)]
        rw [a1, Option.bind_some, b1, Option.bind_some, a2, Option.bind_some, M_many, t1, Option.bind_some, u1, Option.bind_some, u2, Option.bind_some, u3, Option.bind_some, if_neg e10]
        refine ⟨_, S2, U3, rfl, rfl, a3.act a4 b2.2.1 (fun k hk => ?_) (g.WF a3.1 hs) (b2.RB a3.1 a3.2.1 g hs) g.2.2.2.2⟩
        show fl _ 1 _ _ _ k = _
        rw [fl_ne hk]
        show fl _ 1 _ _ _ k = _
        rw [fl_ne hk]
        show fl _ 1 _ _ _ k = _
        rw [fl_ne hk]
    · rw [if_neg (show ¬ ((0 ≤ a ∧ a < T 1 2) ∧ (0 ≤ c ∧ c < T 1 2) ∧ a ≠ c) from fun z => h2 z.2.1), if_pos h1, if_neg e10, if_neg h2, if_pos e00]
      exact ⟨_, _, _, rfl, rfl, h⟩
  · rw [if_neg (show ¬ ((0 ≤ a ∧ a < T 1 2) ∧ (0 ≤ c ∧ c < T 1 2) ∧ a ≠ c) from fun z => h1 z.1), if_neg h1, if_pos e00]
    exact ⟨_, _, _, rfl, rfl, h⟩
