/-! ===== one bidder to another place ===== -/
def upP (a k x : Int) : Int := if a ≤ x ∧ x < a + k then x + 1 else if x = a + k then a else x
def dnP (a k x : Int) : Int := if a - k < x ∧ x ≤ a then x - 1 else if x = a - k then a else x
theorem PC.rf {S : Mem} {q : Nat} {n : Int} {σ : Int → Int} (h : ∀ x, 0 ≤ x → x < n → σ x = x) : PC σ S S q n := ⟨rfl, FrB.rf, fun x x0 x1 => by rw [h x x0 x1]; exact ⟨rfl, rfl, fun _ _ _ => rfl⟩⟩
theorem PC.tr {S S1 S2 : Mem} {q : Nat} {n : Int} {σ τ ρ : Int → Int} (h : PC σ S S1 q n) (g : PC τ S1 S2 q n) (ht : ∀ x, 0 ≤ x → x < n → 0 ≤ τ x ∧ τ x < n ∧ σ (τ x) = ρ x) : PC ρ S S2 q n := by
  refine ⟨g.1.trans h.1, h.2.1.tr g.2.1, fun x x0 x1 => ?_⟩
  obtain ⟨t0, t1, t2⟩ := ht x x0 x1
  have a := g.2.2 x x0 x1
  have b := h.2.2 (τ x) t0 t1
  rw [← t2]
  exact ⟨a.1.trans b.1, a.2.1.trans b.2.1, fun j j0 j1 => (a.2.2 j j0 j1).trans (b.2.2 j j0 j1)⟩
theorem C_moveBidder {S : Mem} {q : Nat} {a c n : Int} (hn : n ≤ 9) (h1 : 0 ≤ a) (h2 : a < n) (h3 : 0 ≤ c) (h4 : c < n) (hne : a ≠ c) : ∃ S', f_X1_moveBidder S q a c = some S' ∧ PC (if a < c then upP a (c - a) else dnP a (a - c)) S S' q n := by
  by_cases hlt : a < c
  · rw [if_pos hlt]
    obtain ⟨S1, g1, g2⟩ := lp_rel (step := f_X1_moveBidder_l2 q a c) (fun i (t : Int × Mem) => t.1 = a + i ∧ PC (upP a i) S t.2 q n) (fun (t : Mem) => PC (upP a (c - a)) S t q n) (c - a).toNat (by
      intro i t hi ⟨e0, e1⟩
      obtain ⟨t1, t2⟩ := t
      dsimp only at e0 e1 ⊢
      subst e0
      obtain ⟨u, u1, u2⟩ := C_exchange (S := t2) (q := q) (a := a + i) (c := a + i + 1) (n := n) hn (by omega) (by omega) (by omega) (by omega) (by omega)
      refine ⟨(a + i + 1, u), ?_, by dsimp only; omega, e1.tr u2 (fun x x0 x1 => ?_)⟩
      · unfold f_X1_moveBidder_l2
        dsimp only
        rw [if_pos (ltb_t (by omega) (by omega) (by omega)), u1]
        rfl
      · unfold swp upP
        by_cases xa : x = a + i
        · rw [if_pos xa]
          refine ⟨by omega, by omega, ?_⟩
          rw [if_neg (by omega), if_neg (by omega), if_pos (by omega)]
          omega
        · rw [if_neg xa]
          by_cases xc : x = a + i + 1
          · rw [if_pos xc]
            refine ⟨by omega, by omega, ?_⟩
            rw [if_neg (by omega), if_pos rfl, if_neg (by omega), if_pos (by omega)]
          · rw [if_neg xc]
            refine ⟨x0, x1, ?_⟩
            by_cases h5 : a ≤ x ∧ x < a + i
            · rw [if_pos h5, if_pos (by omega)]
            · rw [if_neg h5, if_neg xa, if_neg (by omega), if_neg (by omega)]) (by
      intro t ⟨e0, e1⟩
      obtain ⟨t1, t2⟩ := t
      dsimp only at e0 e1 ⊢
      subst e0
      rw [show (((c - a).toNat : Nat) : Int) = c - a by omega] at e1
      refine ⟨t2, ?_, e1⟩
      unfold f_X1_moveBidder_l2
      dsimp only
      rw [if_neg (nl (by omega) (by omega) (by omega))]) (n := FU) (by rw [FU_eq]; omega) (s := (a, S)) ⟨by dsimp only; omega, PC.rf (fun x x0 x1 => by unfold upP; split; omega; split <;> omega)⟩
    refine ⟨S1, ?_, g2⟩
    have e2 : lp (f_X1_moveBidder_l23 q c) FU (a, S1) = some S1 := lp_seq (step := f_X1_moveBidder_l23 q c) (fun _ => (a, S1)) 0 S1 (fun i hi => by omega) (by
      unfold f_X1_moveBidder_l23
      dsimp only
      rw [if_neg (nl (by omega) (by omega) (by omega))]) (n := FU) (by rw [FU_eq]; omega)
    unfold f_X1_moveBidder
    rw [g1, Option.bind_some, e2]
    rfl
  · rw [if_neg hlt]
    have e1 : lp (f_X1_moveBidder_l2 q a c) FU (a, S) = some S := lp_seq (step := f_X1_moveBidder_l2 q a c) (fun _ => (a, S)) 0 S (fun i hi => by omega) (by
      unfold f_X1_moveBidder_l2
      dsimp only
      rw [if_neg (nl (by omega) (by omega) (by omega))]) (n := FU) (by rw [FU_eq]; omega)
    obtain ⟨S1, g1, g2⟩ := lp_rel (step := f_X1_moveBidder_l23 q c) (fun i (t : Int × Mem) => t.1 = a - i ∧ PC (dnP a i) S t.2 q n) (fun (t : Mem) => PC (dnP a (a - c)) S t q n) (a - c).toNat (by
      intro i t hi ⟨e0, e1⟩
      obtain ⟨t1, t2⟩ := t
      dsimp only at e0 e1 ⊢
      subst e0
      obtain ⟨u, u1, u2⟩ := C_exchange (S := t2) (q := q) (a := a - i) (c := a - i - 1) (n := n) hn (by omega) (by omega) (by omega) (by omega) (by omega)
      refine ⟨(a - i + (-1), u), ?_, by dsimp only; omega, e1.tr u2 (fun x x0 x1 => ?_)⟩
      · unfold f_X1_moveBidder_l23
        dsimp only
        rw [if_pos (ltb_t (by omega) (by omega) (by omega)), u1]
        rfl
      · unfold swp dnP
        by_cases xa : x = a - i
        · rw [if_pos xa]
          refine ⟨by omega, by omega, ?_⟩
          rw [if_neg (by omega), if_neg (by omega), if_pos (by omega)]
          omega
        · rw [if_neg xa]
          by_cases xc : x = a - i - 1
          · rw [if_pos xc]
            refine ⟨by omega, by omega, ?_⟩
            rw [if_neg (by omega), if_pos rfl, if_neg (by omega), if_pos (by omega)]
          · rw [if_neg xc]
            refine ⟨x0, x1, ?_⟩
            by_cases h5 : a - i < x ∧ x ≤ a
            · rw [if_pos h5, if_pos (by omega)]
            · rw [if_neg h5, if_neg xa, if_neg (by omega), if_neg (by omega)]) (by
      intro t ⟨e0, e1⟩
      obtain ⟨t1, t2⟩ := t
      dsimp only at e0 e1 ⊢
      subst e0
      rw [show (((a - c).toNat : Nat) : Int) = a - c by omega] at e1
      refine ⟨t2, ?_, e1⟩
      unfold f_X1_moveBidder_l23
      dsimp only
      rw [if_neg (nl (by omega) (by omega) (by omega))]) (n := FU) (by rw [FU_eq]; omega) (s := (a, S)) ⟨by dsimp only; omega, PC.rf (fun x x0 x1 => by unfold dnP; split; omega; split <;> omega)⟩
    refine ⟨S1, ?_, g2⟩
    unfold f_X1_moveBidder
    rw [e1, Option.bind_some, g1]
    rfl
theorem M_moves {U1 : Mem} {a c n : Int} (n1 : n ≤ 8) (h1 : 0 ≤ a) (h2 : a < n) (h3 : 0 ≤ c) (h4 : c < n) (hne : a ≠ c) : ∃ U2 U3, lp (f_X8_move_l41 a c n) FU (a, U1) = some U2 ∧ lp (f_X8_move_l66 c n) FU (a, U2) = some U3 ∧ Fr1 U1 U3 ∧ ∀ j, U3 1 j = if a < c then (if 3 + 10 * a ≤ j ∧ j < 3 + 10 * c then U1 1 (j + 10) else U1 1 j) else (if 3 + 10 * c + 10 ≤ j ∧ j < 3 + 10 * a + 10 then U1 1 (j - 10) else U1 1 j) := by
  by_cases hlt : a < c
  · have g := lp_seq (step := f_X8_move_l41 a c n) (fun k => (a + (k : Int), fl U1 1 (3 + 10 * a) (10 * k) (fun j => U1 1 (j + 10)))) (c - a).toNat (fl U1 1 (3 + 10 * a) (10 * (c - a).toNat) (fun j => U1 1 (j + 10))) (fun i hi => by
      unfold f_X8_move_l41
      dsimp only
      rw [if_pos (ltb_t (by omega) (by omega) (by omega)), M_lays (by omega) (by omega) (by omega), Option.bind_some]
      rw [fl_app (by omega) (fun j x y => by rw [fl_out (by omega)]; congr 1; omega), show 10 * i + 10 = 10 * (i + 1) by omega, show a + (i : Int) + 1 = a + ((i + 1 : Nat) : Int) by omega]) (by
      unfold f_X8_move_l41
      dsimp only
      rw [if_neg (nl (by omega) (by omega) (by omega))]) (n := FU) (by rw [FU_eq]; omega)
    rw [show a + ((0 : Nat) : Int) = a by omega, show 10 * 0 = 0 from rfl, fl_0] at g
    have e2 : lp (f_X8_move_l66 c n) FU (a, fl U1 1 (3 + 10 * a) (10 * (c - a).toNat) (fun j => U1 1 (j + 10))) = some (fl U1 1 (3 + 10 * a) (10 * (c - a).toNat) (fun j => U1 1 (j + 10))) := lp_seq (step := f_X8_move_l66 c n) (fun _ => (a, fl U1 1 (3 + 10 * a) (10 * (c - a).toNat) (fun j => U1 1 (j + 10)))) 0 _ (fun i hi => by omega) (by
      unfold f_X8_move_l66
      dsimp only
      rw [if_neg (nl (by omega) (by omega) (by omega))]) (n := FU) (by rw [FU_eq]; omega)
    refine ⟨_, _, g, e2, fun k hk => fl_ne hk, fun j => ?_⟩
    rw [if_pos hlt, fl_row]
    dsimp only
    by_cases h5 : 3 + 10 * a ≤ j ∧ j < 3 + 10 * c
    · rw [if_pos (by omega), if_pos h5]
    · rw [if_neg (by omega), if_neg h5]
  · have e1 : lp (f_X8_move_l41 a c n) FU (a, U1) = some U1 := lp_seq (step := f_X8_move_l41 a c n) (fun _ => (a, U1)) 0 _ (fun i hi => by omega) (by
      unfold f_X8_move_l41
      dsimp only
      rw [if_neg (nl (by omega) (by omega) (by omega))]) (n := FU) (by rw [FU_eq]; omega)
    have g := lp_seq (step := f_X8_move_l66 c n) (fun k => (a - (k : Int), fl U1 1 (3 + 10 * (a - (k : Int)) + 10) (10 * k) (fun j => U1 1 (j - 10)))) (a - c).toNat (fl U1 1 (3 + 10 * (a - (((a - c).toNat : Nat) : Int)) + 10) (10 * (a - c).toNat) (fun j => U1 1 (j - 10))) (fun i hi => by
      unfold f_X8_move_l66
      dsimp only
      rw [if_pos (ltb_t (by omega) (by omega) (by omega)), M_lays (by omega) (by omega) (by omega), Option.bind_some]
      rw [fl_pre (by omega) (fun j x y => by rw [fl_out (by omega)]; congr 1; omega), show 10 + 10 * i = 10 * (i + 1) by omega, show a - (i : Int) + (-1) = a - ((i + 1 : Nat) : Int) by omega, show 3 + 10 * (a - (i : Int)) = 3 + 10 * (a - ((i + 1 : Nat) : Int)) + 10 by omega]) (by
      unfold f_X8_move_l66
      dsimp only
      rw [if_neg (nl (by omega) (by omega) (by omega))]) (n := FU) (by rw [FU_eq]; omega)
    rw [show a - ((0 : Nat) : Int) = a by omega, show 10 * 0 = 0 from rfl, fl_0] at g
    refine ⟨_, _, e1, g, fun k hk => fl_ne hk, fun j => ?_⟩
    rw [if_neg hlt, fl_row]
    dsimp only
    by_cases h5 : 3 + 10 * c + 10 ≤ j ∧ j < 3 + 10 * a + 10
    · rw [if_pos (by omega), if_pos h5]
    · rw [if_neg (by omega), if_neg h5]
theorem Q_move {S T : Mem} {a c : Int} (h : Rel S T) (ha : R32 a) (hc : R32 c) : ∃ r S' T', f_X7_move S a c = some (r, S') ∧ f_X8_move T a c = some (r, T') ∧ Rel S' T' := by
  have n1 := h.1.2.2.2.2.2.1
  have n0 := h.1.2.2.2.2.1
  unfold f_X7_move f_X8_move
  rw [Q_hasTwo h ha hc, (Q_has h ha).2, (Q_has h hc).2, Option.bind_some, Option.bind_some, Option.bind_some]
  by_cases h1 : 0 ≤ a ∧ a < T 1 2
  · by_cases h2 : 0 ≤ c ∧ c < T 1 2
    · by_cases h4 : a = c
      · rw [if_neg (show ¬ ((0 ≤ a ∧ a < T 1 2) ∧ (0 ≤ c ∧ c < T 1 2) ∧ a ≠ c) from fun z => z.2.2 h4), if_pos h1, if_neg e10, if_pos h2, if_neg e10, if_pos (eqb_t h4), if_pos e00]
        exact ⟨_, _, _, rfl, rfl, h⟩
      · rw [if_pos (show (0 ≤ a ∧ a < T 1 2) ∧ (0 ≤ c ∧ c < T 1 2) ∧ a ≠ c from ⟨h1, h2, h4⟩), if_pos h1, if_neg e10, if_pos h2, if_neg e10, if_neg (nq h4 ha.1 ha.2 hc.1 hc.2)]
        obtain ⟨S1, T1, a1, a2, a3, a4, a5, a6, a7⟩ := Q_remember h
        have t1 : T1 1 = T 1 := a6 1 (by decide) (by decide)
        obtain ⟨S2, b1, b2⟩ := C_moveBidder (S := S1) (q := 5) (a := a) (c := c) (n := T1 1 2) (by rw [t1]; omega) h1.1 (by rw [t1]; exact h1.2) h2.1 (by rw [t1]; exact h2.2) h4
        have hs : ∀ x, 0 ≤ x → x < T1 1 2 → 0 ≤ (if a < c then upP a (c - a) else dnP a (a - c)) x ∧ (if a < c then upP a (c - a) else dnP a (a - c)) x < T1 1 2 := fun x x0 x1 => by
          rw [t1] at x1 ⊢
          by_cases hlt : a < c
          · rw [if_pos hlt]
            unfold upP
            split
            · omega
            · split <;> omega
          · rw [if_neg hlt]
            unfold dnP
            split
            · omega
            · split <;> omega
        let U1 := fl T1 1 (3 + 10 * T 1 2) 10 (fun j => T1 1 (j + 10 * (a - T 1 2)))
        have u1 : f_X8_lays T1 a (T 1 2) = some U1 := M_lays (by omega) (by omega) (by omega)
        obtain ⟨U2, U3, u2, u3, u4, u5⟩ := M_moves (U1 := U1) (a := a) (c := c) (n := T 1 2) n1 h1.1 h1.2 h2.1 h2.2 h4
        let U4 := fl U3 1 (3 + 10 * c) 10 (fun j => U3 1 (j + 10 * (T 1 2 - c)))
        have u6 : f_X8_lays U3 (T 1 2) c = some U4 := M_lays (by omega) (by omega) (by omega)
        have o1 : ∀ j, (j < 3 + 10 * T 1 2 ∨ 3 + 10 * T 1 2 + 10 ≤ j) → U1 1 j = T1 1 j := fun j hj => fl_out (by omega) 1
        have i1 : ∀ j, 3 + 10 * T 1 2 ≤ j → j < 3 + 10 * T 1 2 + 10 → U1 1 j = T1 1 (j + 10 * (a - T 1 2)) := fun j x y => fl_in x (by omega)
        have o4 : ∀ j, (j < 3 + 10 * c ∨ 3 + 10 * c + 10 ≤ j) → U4 1 j = U3 1 j := fun j hj => fl_out (by omega) 1
        have i4 : ∀ j, 3 + 10 * c ≤ j → j < 3 + 10 * c + 10 → U4 1 j = U3 1 (j + 10 * (T 1 2 - c)) := fun j x y => fl_in x (by omega)
        have g : PermR (if a < c then upP a (c - a) else dnP a (a - c)) (T1 1) (U4 1) := by
          by_cases hlt : a < c
          · rw [if_pos hlt]
            have v5 : ∀ j, U3 1 j = if 3 + 10 * a ≤ j ∧ j < 3 + 10 * c then U1 1 (j + 10) else U1 1 j := fun j => by rw [u5, if_pos hlt]
            refine M_rows (by rw [t1]; exact n0) (by rw [t1]; exact n1) (fun j hj => ?_) (fun j hj => ?_) (fun x r x0 x1 r0 r1 => ?_)
            · rw [o4 j (by omega), v5, if_neg (by omega), o1 j (by omega)]
            · rw [o4 j (by omega), v5, if_neg (by omega), o1 j (by omega)]
            · rw [t1] at x1
              unfold upP
              by_cases xa : a ≤ x ∧ x < a + (c - a)
              · rw [if_pos xa, o4 _ (by omega), v5, if_pos (by omega), o1 _ (by omega)]
                congr 1
                omega
              · rw [if_neg xa]
                by_cases xc : x = a + (c - a)
                · rw [if_pos xc, i4 _ (by omega) (by omega), v5, if_neg (by omega), i1 _ (by omega) (by omega)]
                  congr 1
                  omega
                · rw [if_neg xc, o4 _ (by omega), v5, if_neg (by omega), o1 _ (by omega)]
          · rw [if_neg hlt]
            have v5 : ∀ j, U3 1 j = if 3 + 10 * c + 10 ≤ j ∧ j < 3 + 10 * a + 10 then U1 1 (j - 10) else U1 1 j := fun j => by rw [u5, if_neg hlt]
            refine M_rows (by rw [t1]; exact n0) (by rw [t1]; exact n1) (fun j hj => ?_) (fun j hj => ?_) (fun x r x0 x1 r0 r1 => ?_)
            · rw [o4 j (by omega), v5, if_neg (by omega), o1 j (by omega)]
            · rw [o4 j (by omega), v5, if_neg (by omega), o1 j (by omega)]
            · rw [t1] at x1
              unfold dnP
              by_cases xa : a - (a - c) < x ∧ x ≤ a
              · rw [if_pos xa, o4 _ (by omega), v5, if_pos (by omega), o1 _ (by omega)]
                congr 1
                omega
              · rw [if_neg xa]
                by_cases xc : x = a - (a - c)
                · rw [if_pos xc, i4 _ (by omega) (by omega), v5, if_neg (by omega), i1 _ (by omega) (by omega)]
                  congr 1
                  omega
                · rw [if_neg xc, o4 _ (by omega), v5, if_neg (by omega), o1 _ (by omega)]
        rw [a1, Option.bind_some, b1, Option.bind_some, a2, Option.bind_some, M_many, t1, Option.bind_some, u1, Option.bind_some, u2, Option.bind_some, u3, Option.bind_some, u6, Option.bind_some, if_neg e10]
        refine ⟨_, S2, U4, rfl, rfl, a3.act a4 b2.2.1 (fun k hk => ?_) (g.WF a3.1 hs) (b2.RB a3.1 a3.2.1 g hs) g.2.2.2.2⟩
        show fl _ 1 _ _ _ k = _
        rw [fl_ne hk, u4 k hk]
        show fl _ 1 _ _ _ k = _
        rw [fl_ne hk]
    · rw [if_neg (show ¬ ((0 ≤ a ∧ a < T 1 2) ∧ (0 ≤ c ∧ c < T 1 2) ∧ a ≠ c) from fun z => h2 z.2.1), if_pos h1, if_neg e10, if_neg h2, if_pos e00]
      exact ⟨_, _, _, rfl, rfl, h⟩
  · rw [if_neg (show ¬ ((0 ≤ a ∧ a < T 1 2) ∧ (0 ≤ c ∧ c < T 1 2) ∧ a ≠ c) from fun z => h1 z.1), if_neg h1, if_pos e00]
    exact ⟨_, _, _, rfl, rfl, h⟩
