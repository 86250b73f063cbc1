/-! ===== the tape ===== -/
theorem andb_255 {x : Int} : andb x 255 = x % 256 := by
  have h1 : (i32 x &&& i32 255).toBitVec.toNat = (x % 4294967296).toNat % 256 := by
    show ((i32 x).toBitVec &&& (i32 255).toBitVec).toNat = _
    rw [BitVec.toNat_and]
    show (BitVec.ofInt 32 x).toNat &&& 255 = _
    rw [BitVec.toNat_ofInt, show (255 : Nat) = 2 ^ 8 - 1 by decide, Nat.and_two_pow_sub_one_eq_mod]
    rw [show ((2 ^ 32 : Nat) : Int) = 4294967296 by decide]
  have h2 : andb x 255 = ((i32 x &&& i32 255).toBitVec.toNat : Int) := by
    show (i32 x &&& i32 255).toBitVec.toInt = _
    apply BitVec.toInt_eq_toNat_of_lt
    rw [h1]
    omega
  rw [h2, h1]
  omega
theorem byb_mod {x : Int} (h1 : -2147483648 ≤ x) (h2 : x < 2147483648) : byb x = sgn (x % 256) := by
  unfold byb sgn
  rw [Int8.toInt_toInt32, Int32.toInt_toInt8, i32_in h1 h2, Int.bmod_def]
  by_cases h : x % 256 < 128
  · rw [if_pos h]
    rw [if_pos (by omega)]
    rfl
  · rw [if_neg h]
    rw [if_neg (by omega)]
    rfl
theorem byb_byte {x : Int} (h : R32 x) : byb (byb x) = sgn (andb x 255) ∧ 0 ≤ andb x 255 ∧ andb x 255 ≤ 255 := by
  rw [andb_255, byb_mod h.1 h.2]
  have hb : -128 ≤ sgn (x % 256) ∧ sgn (x % 256) ≤ 127 := by
    unfold sgn
    split <;> omega
  refine ⟨?_, by omega, by omega⟩
  rw [byb_mod (by omega) (by omega)]
  congr 1
  unfold sgn
  split <;> omega
theorem shrb_R32 (x s : Int) : R32 (shrb x s) := by
  unfold shrb
  exact ⟨Int32.le_toInt _, Int32.toInt_lt _⟩
theorem C_put {S : Mem} {v : Int} (h0 : 0 ≤ S 2 0) (h1 : S 2 0 + 4 ≤ 500) : ∃ S', f_X5_put S v = some S' ∧ (∀ k, k ≠ 2 → k ≠ 3 → S' k = S k) ∧ S' 2 0 = S 2 0 + 4 ∧ ∀ x, S' 3 x = if S 2 0 ≤ x ∧ x < S 2 0 + 4 then byb (byb (shrb v (24 - 8 * (x - S 2 0)))) else S 3 x := by
  obtain ⟨S', g1, g2, g3, g4⟩ := lp_rel (step := f_X5_put_l12 v) (fun i (t : Int × Mem) => t.1 = 24 - 8 * i ∧ (∀ k, k ≠ 2 → k ≠ 3 → t.2 k = S k) ∧ t.2 2 0 = S 2 0 + i ∧ ∀ x, t.2 3 x = if S 2 0 ≤ x ∧ x < S 2 0 + i then byb (byb (shrb v (24 - 8 * (x - S 2 0)))) else S 3 x) (fun (t : Mem) => (∀ k, k ≠ 2 → k ≠ 3 → t k = S k) ∧ t 2 0 = S 2 0 + 4 ∧ ∀ x, t 3 x = if S 2 0 ≤ x ∧ x < S 2 0 + 4 then byb (byb (shrb v (24 - 8 * (x - S 2 0)))) else S 3 x) 4 (by
    intro i t hi ⟨e0, e1, e2, e3⟩
    obtain ⟨t1, t2⟩ := t
    dsimp only at e0 e1 e2 e3 ⊢
    subst e0
    refine ⟨(24 - 8 * (i : Int) + (-8), wr (wr t2 3 (S 2 0 + i) (byb (byb (shrb v (24 - 8 * (i : Int)))))) 2 0 (S 2 0 + i + 1)), ?_, by dsimp only; omega, fun k k2 k3 => by dsimp only; rw [wr_ne k2, wr_ne k3]; exact e1 k k2 k3, by dsimp only; rw [wr_eq]; omega, fun x => ?_⟩
    · unfold f_X5_put_l12
      dsimp only
      rw [if_neg (nl (by omega) (by omega) (by omega)), if_pos (by rw [e2]; omega), e2]
      dsimp only [wrk]
      rw [wr_cell (k := 2) (by decide), e2]
    · dsimp only
      rw [wr_cell (by decide), wr_at]
      by_cases hx : x = S 2 0 + i
      · rw [if_pos hx, if_pos (by omega), show x - S 2 0 = (i : Int) by omega]
      · rw [if_neg hx, e3]
        by_cases h : S 2 0 ≤ x ∧ x < S 2 0 + i
        · rw [if_pos h, if_pos (by omega)]
        · rw [if_neg h, if_neg (by omega)]) (by
    intro t ⟨e0, e1, e2, e3⟩
    obtain ⟨t1, t2⟩ := t
    dsimp only at e0 e1 e2 e3 ⊢
    subst e0
    refine ⟨t2, ?_, e1, e2, e3⟩
    unfold f_X5_put_l12
    dsimp only
    rw [if_pos (ltb_t (by omega) (by omega) (by omega))]) (n := FU) (by rw [FU_eq]; omega) (s := (24, S)) ⟨by dsimp only; omega, fun _ _ _ => rfl, by dsimp only; omega, fun x => by rw [if_neg (by omega)]⟩
  refine ⟨S', ?_, g2, g3, g4⟩
  unfold f_X5_put f_X5_hasRoomFor
  rw [if_neg (nl (by omega) (by omega) (by omega)), Option.bind_some, if_neg e10, g1]
  rfl
def sel (a b c d e i : Int) : Int := if i < 4 then a else if i < 8 then b else if i < 12 then c else if i < 16 then d else e
theorem rm4_all : ∀ n : Nat, n < 20 → rmb (n : Int) 4 = (n : Int) % 4 := by decide +kernel
theorem Rel.tape {S T S' T' : Mem} (h : Rel S T) (f : ∀ k, k ≠ 2 → k ≠ 3 → S' k = S k) (g : ∀ k, k ≠ 0 → k ≠ 12 → T' k = T k) (g0 : ∀ j, j ≠ 17 → T' 0 j = T 0 j) (r : RT S' T') : Rel S' T' := by
  obtain ⟨a1, a2, a3, a4, a5, a6, a7⟩ := h
  have t1 : T' 1 = T 1 := g 1 (by decide) (by decide)
  refine ⟨by rw [t1]; exact a1, by rw [t1]; exact a2.fr (f _ (by decide) (by decide)) (f _ (by decide) (by decide)) (f _ (by decide) (by decide)) (f _ (by decide) (by decide)), ?_, by rw [t1, f 33 (by decide) (by decide), f 32 (by decide) (by decide)]; exact a4, ?_, r, ?_⟩
  · rw [f 0 (by decide) (by decide), t1]
    rcases a3 with ⟨x, x1, x2, x3, x4, x5⟩ | x
    · exact Or.inl ⟨x, x1.fr (f _ (by decide) (by decide)) (f _ (by decide) (by decide)) (f _ (by decide) (by decide)) (f _ (by decide) (by decide)), x2.fr (by rw [f 4 (by decide) (by decide)]) (f _ (by decide) (by decide)) (f _ (by decide) (by decide)) (f _ (by decide) (by decide)) (f _ (by decide) (by decide)) (f _ (by decide) (by decide)), by rw [f 4 (by decide) (by decide)]; exact x3, by rw [f 4 (by decide) (by decide)]; exact x4, fun b y z => by rw [f (4 + 8) (by decide) (by decide)]; exact x5 b y z⟩
    · exact Or.inr x
  · unfold RH
    rw [f 34 (by decide) (by decide), f 35 (by decide) (by decide), g0 5 (by decide), g 4 (by decide) (by decide)]
    exact a5
  · unfold RW
    rw [g 13 (by decide) (by decide)]
    exact a7
theorem Q_back {S T : Mem} {n : Int} (h : Rel S T) (hn : R32 n) : ∃ r S' T', f_X7_back S n = some (r, S') ∧ f_X8_back T n = some (r, T') ∧ Rel S' T' := by
  obtain ⟨r0, r1, r2, r3⟩ := h.2.2.2.2.2.1
  unfold f_X7_back f_X8_back
  rw [M_inL hn (by decide) (by omega), Option.bind_some, r0]
  by_cases h0 : n < 0
  · rw [if_pos (ltb_t h0 hn.1 (by omega)), if_neg (show ¬ (0 ≤ n ∧ n ≤ T 0 17) by omega), if_pos e00]
    exact ⟨_, _, _, rfl, rfl, h⟩
  · rw [if_neg (nl (x := n) (y := 0) (by omega) (by omega) hn.2)]
    by_cases h1 : T 0 17 < n
    · rw [if_pos (ltb_t h1 (by omega) hn.2), if_neg (show ¬ (0 ≤ n ∧ n ≤ T 0 17) by omega), if_pos e00]
      exact ⟨_, _, _, rfl, rfl, h⟩
    · rw [if_neg (nl (x := T 0 17) (y := n) (by omega) (by omega) (by omega)), if_pos (show 0 ≤ n ∧ n ≤ T 0 17 by omega), if_neg e10]
      dsimp only [wrk]
      rw [wr_eq, wr_eq]
      refine ⟨_, _, _, rfl, rfl, h.tape (fun k k2 k3 => wr_ne k2) (fun k k0 k12 => wr_ne k0) (fun j hj => wr_idx hj 0) ?_⟩
      unfold RT
      rw [wr_eq, wr_eq, wr_ne (by decide), wr_ne (by decide)]
      exact ⟨rfl, by omega, by omega, fun i i0 i1 => r3 i i0 (by omega)⟩
theorem Q_feed {S T : Mem} {a b c d e : Int} (h : Rel S T) : ∃ r S' T', f_X7_feed S a b c d e = some (r, S') ∧ f_X8_feed T a b c d e = some (r, T') ∧ Rel S' T' := by
  obtain ⟨r0, r1, r2, r3⟩ := h.2.2.2.2.2.1
  unfold f_X7_feed f_X8_feed f_X5_hasRoomFor
  rw [r0]
  by_cases h1 : 500 < T 0 17 + 20
  · rw [if_pos (ltb_t h1 (by omega) (by omega)), if_pos (ltb_t h1 (by omega) (by omega)), Option.bind_some, if_pos e00]
    exact ⟨_, _, _, rfl, rfl, h⟩
  · have q := nl (x := 500) (y := T 0 17 + 20) (by omega) (by omega) (by omega)
    rw [if_neg q, if_neg q, Option.bind_some, if_neg e10]
    obtain ⟨S1, a1, a2, a3, a4⟩ := C_put (S := S) (v := a) (by omega) (by omega)
    obtain ⟨S2, b1, b2, b3, b4⟩ := C_put (S := S1) (v := b) (by omega) (by omega)
    obtain ⟨S3, c1, c2, c3, c4⟩ := C_put (S := S2) (v := c) (by omega) (by omega)
    obtain ⟨S4, d1, d2, d3, d4⟩ := C_put (S := S3) (v := d) (by omega) (by omega)
    obtain ⟨S5, e1, e2, e3, e4⟩ := C_put (S := S4) (v := e) (by omega) (by omega)
    obtain ⟨T', g1, g2, g3, g4, g5⟩ := lp_rel (step := f_X8_feed_l18 a b c d e) (fun i (t : Int × Mem) => t.1 = i ∧ (∀ k, k ≠ 0 → k ≠ 12 → t.2 k = T k) ∧ (∀ j, j ≠ 17 → t.2 0 j = T 0 j) ∧ t.2 0 17 = T 0 17 + i ∧ ∀ x, t.2 12 x = if T 0 17 ≤ x ∧ x < T 0 17 + i then andb (shrb (sel a b c d e (x - T 0 17)) (24 - 8 * ((x - T 0 17) % 4))) 255 else T 12 x) (fun (t : Mem) => (∀ k, k ≠ 0 → k ≠ 12 → t k = T k) ∧ (∀ j, j ≠ 17 → t 0 j = T 0 j) ∧ t 0 17 = T 0 17 + 20 ∧ ∀ x, t 12 x = if T 0 17 ≤ x ∧ x < T 0 17 + 20 then andb (shrb (sel a b c d e (x - T 0 17)) (24 - 8 * ((x - T 0 17) % 4))) 255 else T 12 x) 20 (by
      intro i t hi ⟨y0, y1, y2, y3, y4⟩
      obtain ⟨t1, t2⟩ := t
      dsimp only at y0 y1 y2 y3 y4 ⊢
      subst y0
      have hsel : (if ltb (i : Int) 4 = true then some a else if ltb (i : Int) 8 = true then some b else if ltb (i : Int) 12 = true then some c else if ltb (i : Int) 16 = true then some d else some e) = some (sel a b c d e i) := by
        unfold sel
        by_cases h4 : (i : Int) < 4
        · rw [if_pos (ltb_t h4 (by omega) (by omega)), if_pos h4]
        · rw [if_neg (nl (by omega) (by omega) (by omega)), if_neg h4]
          by_cases h8 : (i : Int) < 8
          · rw [if_pos (ltb_t h8 (by omega) (by omega)), if_pos h8]
          · rw [if_neg (nl (by omega) (by omega) (by omega)), if_neg h8]
            by_cases h12 : (i : Int) < 12
            · rw [if_pos (ltb_t h12 (by omega) (by omega)), if_pos h12]
            · rw [if_neg (nl (by omega) (by omega) (by omega)), if_neg h12]
              by_cases h16 : (i : Int) < 16
              · rw [if_pos (ltb_t h16 (by omega) (by omega)), if_pos h16]
              · rw [if_neg (nl (by omega) (by omega) (by omega)), if_neg h16]
      refine ⟨((i : Int) + 1, wr (wr t2 12 (T 0 17 + i) (andb (shrb (sel a b c d e i) (24 - 8 * ((i : Int) % 4))) 255)) 0 17 (T 0 17 + i + 1)), ?_, rfl, fun k k0 k12 => by dsimp only; rw [wr_ne k0, wr_ne k12]; exact y1 k k0 k12, fun j hj => by dsimp only; rw [wr_idx hj, wr_cell (by decide)]; exact y2 j hj, by dsimp only; rw [wr_eq]; omega, fun x => ?_⟩
      · unfold f_X8_feed_l18
        dsimp only
        rw [if_pos (ltb_t (by omega) (by omega) (by omega)), hsel, Option.bind_some, if_pos (by rw [y3]; omega), y3, rm4_all i hi]
        dsimp only [wrk]
        rw [wr_cell (k := 0) (by decide), y3]
      · dsimp only
        rw [wr_cell (by decide), wr_at]
        by_cases hx : x = T 0 17 + i
        · rw [if_pos hx, if_pos (by omega), show x - T 0 17 = (i : Int) by omega]
        · rw [if_neg hx, y4]
          by_cases hh : T 0 17 ≤ x ∧ x < T 0 17 + i
          · rw [if_pos hh, if_pos (by omega)]
          · rw [if_neg hh, if_neg (by omega)]) (by
      intro t ⟨y0, y1, y2, y3, y4⟩
      obtain ⟨t1, t2⟩ := t
      dsimp only at y0 y1 y2 y3 y4 ⊢
      subst y0
      refine ⟨t2, ?_, y1, y2, y3, y4⟩
      unfold f_X8_feed_l18
      dsimp only
      rw [if_neg (nl (by omega) (by omega) (by omega))]) (n := FU) (by rw [FU_eq]; omega) (s := (0, T)) ⟨rfl, fun _ _ _ => rfl, fun _ _ => rfl, by dsimp only; omega, fun x => by rw [if_neg (by omega)]⟩
    rw [a1, Option.bind_some, b1, Option.bind_some, c1, Option.bind_some, d1, Option.bind_some, e1, Option.bind_some, g1, Option.bind_some, g4, show S5 2 0 = T 0 17 + 20 by omega]
    refine ⟨_, S5, T', rfl, rfl, h.tape (fun k k2 k3 => by rw [e2 k k2 k3, d2 k k2 k3, c2 k k2 k3, b2 k k2 k3, a2 k k2 k3]) g2 g3 ⟨by omega, by omega, by omega, fun x x0 x1 => ?_⟩⟩
    rw [g5]
    by_cases hx : T 0 17 ≤ x
    · rw [if_pos (by omega)]
      have bb := byb_byte (shrb_R32 (sel a b c d e (x - T 0 17)) (24 - 8 * ((x - T 0 17) % 4)))
      refine ⟨bb.2.1, bb.2.2, ?_⟩
      rw [← bb.1]
      unfold sel
      by_cases h4 : x - T 0 17 < 4
      · rw [e4, if_neg (by omega), d4, if_neg (by omega), c4, if_neg (by omega), b4, if_neg (by omega), a4, if_pos (by omega), if_pos h4, show x - S 2 0 = (x - T 0 17) % 4 by omega]
      · rw [if_neg h4]
        by_cases h8 : x - T 0 17 < 8
        · rw [e4, if_neg (by omega), d4, if_neg (by omega), c4, if_neg (by omega), b4, if_pos (by omega), if_pos h8, show x - S1 2 0 = (x - T 0 17) % 4 by omega]
        · rw [if_neg h8]
          by_cases h12 : x - T 0 17 < 12
          · rw [e4, if_neg (by omega), d4, if_neg (by omega), c4, if_pos (by omega), if_pos h12, show x - S2 2 0 = (x - T 0 17) % 4 by omega]
          · rw [if_neg h12]
            by_cases h16 : x - T 0 17 < 16
            · rw [e4, if_neg (by omega), d4, if_pos (by omega), if_pos h16, show x - S3 2 0 = (x - T 0 17) % 4 by omega]
            · rw [if_neg h16, e4, if_pos (by omega), show x - S4 2 0 = (x - T 0 17) % 4 by omega]
    · rw [if_neg (by omega), e4, if_neg (by omega), d4, if_neg (by omega), c4, if_neg (by omega), b4, if_neg (by omega), a4, if_neg (by omega)]
      exact r3 x x0 (by omega)
