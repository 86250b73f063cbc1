/-! ===== the reference's row: filling, moving, one value more or less ===== -/
def fl (S : Mem) (q : Nat) (lo : Int) (n : Nat) (v : Int → Int) : Mem := fun k j => if k = q ∧ lo ≤ j ∧ j < lo + n then v j else S k j
theorem fl_0 (S : Mem) (q : Nat) (lo : Int) (v : Int → Int) : fl S q lo 0 v = S := by
  funext k j
  unfold fl
  rw [if_neg (by omega)]
theorem fl_ne {S : Mem} {q k : Nat} {lo : Int} {n : Nat} {v : Int → Int} (h : k ≠ q) : fl S q lo n v k = S k := by
  funext j
  unfold fl
  rw [if_neg (fun z => h z.1)]
theorem fl_out {S : Mem} {q : Nat} {lo : Int} {n : Nat} {v : Int → Int} {j : Int} (h : j < lo ∨ lo + n ≤ j) (k : Nat) : fl S q lo n v k j = S k j := by
  unfold fl
  rw [if_neg (by omega)]
theorem fl_in {S : Mem} {q : Nat} {lo : Int} {n : Nat} {v : Int → Int} {j : Int} (h1 : lo ≤ j) (h2 : j < lo + n) : fl S q lo n v q j = v j := by
  unfold fl
  rw [if_pos ⟨rfl, h1, h2⟩]
theorem fl_row (S : Mem) (q : Nat) (lo : Int) (n : Nat) (v : Int → Int) : fl S q lo n v q = fun j => if lo ≤ j ∧ j < lo + n then v j else S q j := by
  funext j
  unfold fl
  by_cases h : lo ≤ j ∧ j < lo + n
  · rw [if_pos ⟨rfl, h⟩, if_pos h]
  · rw [if_neg (fun z => h z.2), if_neg h]
theorem fl_s {S : Mem} {q : Nat} {lo : Int} {n : Nat} {v : Int → Int} {i x : Int} (hi : i = lo + n) (hx : x = v i) : wr (fl S q lo n v) q i x = fl S q lo (n + 1) v := by
  subst hx
  subst hi
  funext k j
  by_cases hk : k = q
  · subst hk
    by_cases hj : j = lo + n
    · subst hj
      rw [wr_eq, fl_in (by omega) (by omega)]
    · rw [wr_idx hj]
      unfold fl
      by_cases h : k = k ∧ lo ≤ j ∧ j < lo + n
      · rw [if_pos h, if_pos (by omega)]
      · rw [if_neg h, if_neg (by omega)]
  · rw [wr_cell hk, fl_ne hk, fl_ne hk]
theorem fl_app {S : Mem} {q : Nat} {lo lo' : Int} {n m : Nat} {v v' : Int → Int} (hl : lo' = lo + n) (h : ∀ j, lo' ≤ j → j < lo' + m → v' j = v j) : fl (fl S q lo n v) q lo' m v' = fl S q lo (n + m) v := by
  funext k j
  by_cases hk : k = q
  · subst hk
    by_cases h1 : lo' ≤ j ∧ j < lo' + m
    · rw [fl_in h1.1 h1.2, fl_in (by omega) (by omega), h j h1.1 h1.2]
    · rw [fl_out (by omega)]
      unfold fl
      by_cases h2 : k = k ∧ lo ≤ j ∧ j < lo + n
      · rw [if_pos h2, if_pos (by omega)]
      · rw [if_neg h2, if_neg (by omega)]
  · rw [fl_ne hk, fl_ne hk, fl_ne hk]
theorem fl_pre {S : Mem} {q : Nat} {lo lo' : Int} {n m : Nat} {v v' : Int → Int} (hl : lo = lo' + m) (h : ∀ j, lo' ≤ j → j < lo' + m → v' j = v j) : fl (fl S q lo n v) q lo' m v' = fl S q lo' (m + n) v := by
  funext k j
  by_cases hk : k = q
  · subst hk
    by_cases h1 : lo' ≤ j ∧ j < lo' + m
    · rw [fl_in h1.1 h1.2, fl_in (by omega) (by omega), h j h1.1 h1.2]
    · rw [fl_out (by omega)]
      unfold fl
      by_cases h2 : k = k ∧ lo ≤ j ∧ j < lo + n
      · rw [if_pos h2, if_pos (by omega)]
      · rw [if_neg h2, if_neg (by omega)]
  · rw [fl_ne hk, fl_ne hk, fl_ne hk]
/-- all cells but the row are as they were -/
def Fr1 (T T' : Mem) : Prop := ∀ k, k ≠ 1 → T' k = T k
theorem M_putsAside (T : Mem) : f_X8_putsAside T = some (fl T 3 0 126 (fun j => T 1 j)) := by
  have := lp_seq (step := f_X8_putsAside_l2) (fun n => ((n : Int), fl T 3 0 n (fun j => T 1 j))) 126 (fl T 3 0 126 (fun j => T 1 j)) (fun i hi => by
    unfold f_X8_putsAside_l2
    dsimp only
    rw [if_pos (ltb_t (by omega) (by omega) (by omega)), if_pos (by omega)]
    dsimp only [wrk]
    rw [fl_s (by omega) (by rw [fl_ne (by decide)])]
    rfl) (by
    unfold f_X8_putsAside_l2
    dsimp only
    rw [if_neg (nl (by omega) (by omega) (by omega))]) (n := FU) (by rw [FU_eq]; omega)
  unfold f_X8_putsAside
  rw [fl_0] at this
  rw [show ((0 : Nat) : Int) = 0 from rfl] at this
  rw [this]
  rfl
theorem M_takesBack (T : Mem) : f_X8_takesBack T = some (fl T 1 0 126 (fun j => T 3 j)) := by
  have := lp_seq (step := f_X8_takesBack_l2) (fun n => ((n : Int), fl T 1 0 n (fun j => T 3 j))) 126 (fl T 1 0 126 (fun j => T 3 j)) (fun i hi => by
    unfold f_X8_takesBack_l2
    dsimp only
    rw [if_pos (ltb_t (by omega) (by omega) (by omega)), if_pos (by omega)]
    dsimp only [wrk]
    rw [fl_s (by omega) (by rw [fl_ne (by decide)])]
    rfl) (by
    unfold f_X8_takesBack_l2
    dsimp only
    rw [if_neg (nl (by omega) (by omega) (by omega))]) (n := FU) (by rw [FU_eq]; omega)
  unfold f_X8_takesBack
  rw [fl_0] at this
  rw [show ((0 : Nat) : Int) = 0 from rfl] at this
  rw [this]
  rfl
theorem M_lays {T : Mem} {y x : Int} (hy : 0 ≤ y ∧ y < 12) (hx : 0 ≤ x ∧ x < 12) (hne : y ≠ x) : f_X8_lays T y x = some (fl T 1 (3 + 10 * x) 10 (fun j => T 1 (j + 10 * (y - x)))) := by
  have := lp_seq (step := f_X8_lays_l2 y x) (fun n => ((n : Int), fl T 1 (3 + 10 * x) n (fun j => T 1 (j + 10 * (y - x))))) 10 (fl T 1 (3 + 10 * x) 10 (fun j => T 1 (j + 10 * (y - x)))) (fun i hi => by
    unfold f_X8_lays_l2
    dsimp only
    rw [if_pos (ltb_t (by omega) (by omega) (by omega)), if_pos (by omega), if_pos (by omega)]
    dsimp only [wrk]
    rw [fl_s (by omega) (by rw [fl_out (by omega)]; congr 1; omega)]
    rfl) (by
    unfold f_X8_lays_l2
    dsimp only
    rw [if_neg (nl (by omega) (by omega) (by omega))]) (n := FU) (by rw [FU_eq]; omega)
  unfold f_X8_lays
  rw [fl_0] at this
  rw [show ((0 : Nat) : Int) = 0 from rfl] at this
  rw [this]
  rfl
def wrR (B : Int → Int) (i x : Int) : Int → Int := fun j => if j = i then x else B j
theorem wr_row (T : Mem) (q : Nat) (i x : Int) : wr T q i x q = wrR (T q) i x := by
  funext j
  unfold wrR
  by_cases h : j = i
  · rw [if_pos h, h, wr_eq]
  · rw [if_neg h, wr_idx h]
/-- one bidder goes -/
def goesR (B : Int → Int) (a : Int) : Int → Int := fun j => if j = 2 then B 2 - 1 else if 3 + 10 * a ≤ j ∧ j < 3 + 10 * (B 2 - 1) then B (j + 10) else B j
theorem M_goes {T : Mem} {a : Int} (n1 : T 1 2 ≤ 9) (h1 : 0 ≤ a) (h2 : a < T 1 2) : ∃ T', f_X8_goes T a = some T' ∧ T' 1 = goesR (T 1) a ∧ Fr1 T T' := by
  have := lp_seq (step := f_X8_goes_l2) (fun n => (a + (n : Int), fl T 1 (3 + 10 * a) (10 * n) (fun j => T 1 (j + 10)))) (T 1 2 - 1 - a).toNat (fl T 1 (3 + 10 * a) (10 * (T 1 2 - 1 - a).toNat) (fun j => T 1 (j + 10))) (fun i hi => by
    unfold f_X8_goes_l2
    dsimp only
    rw [M_many, fl_out (j := 2) (by omega)]
    simp only [Option.bind_some]
    rw [if_pos (ltb_t (by omega) (by omega) (by omega)), M_lays (by omega) (by omega) (by omega)]
    simp only [Option.bind_some]
    rw [fl_app (by omega) (fun j x y => by rw [fl_out (by omega)]; congr 1; omega)]
    rw [show 10 * i + 10 = 10 * (i + 1) by omega, show a + (i : Int) + 1 = a + ((i + 1 : Nat) : Int) by omega]) (by
    unfold f_X8_goes_l2
    dsimp only
    rw [M_many, fl_out (j := 2) (by omega)]
    simp only [Option.bind_some]
    rw [if_neg (nl (by omega) (by omega) (by omega))]) (n := FU) (by rw [FU_eq]; omega)
  rw [show a + ((0 : Nat) : Int) = a by omega, show 10 * 0 = 0 from rfl, fl_0] at this
  refine ⟨wr (fl T 1 (3 + 10 * a) (10 * (T 1 2 - 1 - a).toNat) (fun j => T 1 (j + 10))) 1 2 (T 1 2 - 1), ?_, ?_, fun k hk => ?_⟩
  · unfold f_X8_goes
    rw [this]
    simp only [Option.bind_some]
    rw [if_pos (by decide)]
    dsimp only [wrk]
    rw [fl_out (j := 2) (by omega)]
  · rw [wr_row, fl_row]
    funext j
    unfold wrR goesR
    dsimp only
    by_cases hj : j = 2
    · rw [if_pos hj, if_pos hj]
    · rw [if_neg hj, if_neg hj]
      by_cases h3 : 3 + 10 * a ≤ j ∧ j < 3 + 10 * (T 1 2 - 1)
      · rw [if_pos (by omega), if_pos h3]
      · rw [if_neg (by omega), if_neg h3]
  · rw [wr_ne hk, fl_ne hk]
/-- one value comes -/
def pos (B : Int → Int) (b v : Int) : Int := (ledN (fun i => decide (v ≤ bval B b i)) (bcnt B b).toNat : Nat)
def comesR (B : Int → Int) (b v : Int) : Int → Int := fun j => if j = 3 + 10 * b + 1 then bcnt B b + 1 else if j = 3 + 10 * b + 2 + pos B b v then v else if 3 + 10 * b + 2 + pos B b v < j ∧ j ≤ 3 + 10 * b + 2 + bcnt B b then B (j - 1) else B j
theorem pos_bnd {B : Int → Int} {b v : Int} (h : 0 ≤ bcnt B b) : 0 ≤ pos B b v ∧ pos B b v ≤ bcnt B b := by
  have := ledN_le (fun i => decide (v ≤ bval B b i)) (bcnt B b).toNat
  unfold pos
  omega
theorem pos_in {B : Int → Int} {b v i : Int} (h : 0 ≤ i) (h2 : i < pos B b v) : v ≤ bval B b i := by
  have := ledN_lt (fun i => decide (v ≤ bval B b i)) (bcnt B b).toNat i.toNat (by unfold pos at h2; omega)
  simp only [decide_eq_true_eq] at this
  rw [show ((i.toNat : Nat) : Int) = i by omega] at this
  exact this
theorem pos_after {N : Int} {B : Int → Int} (hw : WF N B) {b v i : Int} (h1 : 0 ≤ b) (h2 : b < B 2) (h : pos B b v ≤ i) (h3 : i < bcnt B b) : bval B b i < v := by
  have c := bcnt_bnd hw h1 h2
  have pb := pos_bnd (B := B) (b := b) (v := v) c.2.2.1
  have hs1 := ledN_stop (fun i => decide (v ≤ bval B b i)) (bcnt B b).toNat (by unfold pos at h pb; omega)
  simp only [decide_eq_false_iff_not] at hs1
  have hm := bval_mono hw h1 h2 (i - pos B b v).toNat (pos B b v) pb.1 (by omega)
  rw [show pos B b v + (((i - pos B b v).toNat : Nat) : Int) = i by omega] at hm
  have : bval B b (pos B b v) < v := by unfold pos; omega
  omega
theorem M_comes {N : Int} {T : Mem} {b v : Int} (hN : N ≤ 9) (hw : WF N (T 1)) (h1 : 0 ≤ b) (h2 : b < T 1 2) (h3 : bcnt (T 1) b < 8) (hv : 0 ≤ v ∧ v ≤ 99) : ∃ T', f_X8_comes T b v = some T' ∧ T' 1 = comesR (T 1) b v ∧ Fr1 T T' := by
  have n1 := hw.2.2.2.2.2.1
  have c := bcnt_bnd hw h1 h2
  have pb := pos_bnd (B := T 1) (b := b) (v := v) c.2.2.1
  have := lp_seq (step := f_X8_comes_l16 v (3 + 10 * b + 2)) (fun n => (bcnt (T 1) b - (n : Int), fl T 1 (3 + 10 * b + 2 + (bcnt (T 1) b - n) + 1) n (fun j => T 1 (j - 1)))) (bcnt (T 1) b - pos (T 1) b v).toNat (pos (T 1) b v, fl T 1 (3 + 10 * b + 2 + pos (T 1) b v + 1) (bcnt (T 1) b - pos (T 1) b v).toNat (fun j => T 1 (j - 1))) (fun i hi => by
    unfold f_X8_comes_l16
    dsimp only
    have e1 : fl T 1 (3 + 10 * b + 2 + (bcnt (T 1) b - i) + 1) i (fun j => T 1 (j - 1)) 1 (3 + 10 * b + 2 + (bcnt (T 1) b - i) - 1) = bval (T 1) b (bcnt (T 1) b - i - 1) := by
      rw [fl_out (by omega)]
      unfold bval
      congr 1
      omega
    have lt := pos_after hw (v := v) h1 h2 (i := bcnt (T 1) b - i - 1) (by omega) (by omega)
    have vb := bval_bnd hw (i := bcnt (T 1) b - i - 1) h1 h2 (by omega) (by omega)
    rw [if_pos (ltb_t (by omega) (by omega) (by omega)), if_pos (by omega), if_pos (show ltb (fl T 1 (3 + 10 * b + 2 + (bcnt (T 1) b - i) + 1) i (fun j => T 1 (j - 1)) 1 (3 + 10 * b + 2 + (bcnt (T 1) b - i) - 1)) v = true by rw [e1]; exact ltb_t lt (by omega) (by omega)), if_pos (by omega)]
    dsimp only [wrk]
    have hwr : wr (fl T 1 (3 + 10 * b + 2 + (bcnt (T 1) b - i) + 1) i (fun j => T 1 (j - 1))) 1 (3 + 10 * b + 2 + (bcnt (T 1) b - i)) (fl T 1 (3 + 10 * b + 2 + (bcnt (T 1) b - i) + 1) i (fun j => T 1 (j - 1)) 1 (3 + 10 * b + 2 + (bcnt (T 1) b - i) - 1)) = fl T 1 (3 + 10 * b + 2 + (bcnt (T 1) b - ((i + 1 : Nat) : Int)) + 1) (i + 1) (fun j => T 1 (j - 1)) := by
      rw [fl_out (j := 3 + 10 * b + 2 + (bcnt (T 1) b - i) - 1) (by omega)]
      funext k j
      by_cases hk : k = 1
      · subst hk
        by_cases hj : j = 3 + 10 * b + 2 + (bcnt (T 1) b - i)
        · subst hj
          rw [wr_eq, fl_in (by omega) (by omega)]
        · rw [wr_idx hj]
          unfold fl
          by_cases h : 1 = 1 ∧ 3 + 10 * b + 2 + (bcnt (T 1) b - i) + 1 ≤ j ∧ j < 3 + 10 * b + 2 + (bcnt (T 1) b - i) + 1 + i
          · rw [if_pos h, if_pos (by omega)]
          · rw [if_neg h, if_neg (by omega)]
      · rw [wr_cell hk, fl_ne hk, fl_ne hk]
    rw [hwr, show bcnt (T 1) b - (i : Int) + (-1) = bcnt (T 1) b - ((i + 1 : Nat) : Int) by omega]) (by
    unfold f_X8_comes_l16
    dsimp only
    rw [show bcnt (T 1) b - (((bcnt (T 1) b - pos (T 1) b v).toNat : Nat) : Int) = pos (T 1) b v by omega]
    by_cases hp : 0 < pos (T 1) b v
    · have e1 : fl T 1 (3 + 10 * b + 2 + pos (T 1) b v + 1) (bcnt (T 1) b - pos (T 1) b v).toNat (fun j => T 1 (j - 1)) 1 (3 + 10 * b + 2 + pos (T 1) b v - 1) = bval (T 1) b (pos (T 1) b v - 1) := by
        rw [fl_out (by omega)]
        unfold bval
        congr 1
        omega
      have ge := pos_in (B := T 1) (b := b) (v := v) (i := pos (T 1) b v - 1) (by omega) (by omega)
      have vb := bval_bnd hw (i := pos (T 1) b v - 1) h1 h2 (by omega) (by omega)
      rw [if_pos (ltb_t hp (by omega) (by omega)), if_pos (by omega), if_neg (show ¬ ltb (fl T 1 (3 + 10 * b + 2 + pos (T 1) b v + 1) (bcnt (T 1) b - pos (T 1) b v).toNat (fun j => T 1 (j - 1)) 1 (3 + 10 * b + 2 + pos (T 1) b v - 1)) v = true by rw [e1]; exact nl ge (by omega) (by omega))]
    · rw [if_neg (nl (by omega) (by omega) (by omega))]) (n := FU) (by rw [FU_eq]; omega)
  rw [show bcnt (T 1) b - ((0 : Nat) : Int) = bcnt (T 1) b by omega, fl_0] at this
  refine ⟨wr (wr (fl T 1 (3 + 10 * b + 2 + pos (T 1) b v + 1) (bcnt (T 1) b - pos (T 1) b v).toNat (fun j => T 1 (j - 1))) 1 (3 + 10 * b + 2 + pos (T 1) b v) v) 1 (3 + 10 * b + 2 - 1) (bcnt (T 1) b + 1), ?_, ?_, fun k hk => ?_⟩
  · unfold f_X8_comes
    rw [M_valuesOf h1 (by omega), Option.bind_some, this, Option.bind_some]
    dsimp only
    rw [if_pos (by omega)]
    dsimp only [wrk]
    rw [if_pos (by omega), wr_idx (by omega), fl_out (by omega)]
    rw [show T 1 (3 + 10 * b + 2 - 1) = bcnt (T 1) b by unfold bcnt; congr 1; omega]
  · rw [wr_row, wr_row, fl_row]
    funext j
    unfold wrR comesR
    dsimp only
    by_cases hj : j = 3 + 10 * b + 1
    · rw [if_pos (by omega), if_pos hj]
    · rw [if_neg (by omega), if_neg hj]
      by_cases hj2 : j = 3 + 10 * b + 2 + pos (T 1) b v
      · rw [if_pos hj2, if_pos hj2]
      · rw [if_neg hj2, if_neg hj2]
        by_cases hj3 : 3 + 10 * b + 2 + pos (T 1) b v < j ∧ j ≤ 3 + 10 * b + 2 + bcnt (T 1) b
        · rw [if_pos (by omega), if_pos hj3]
        · rw [if_neg (by omega), if_neg hj3]
  · rw [wr_ne hk, wr_ne hk, fl_ne hk]
/-- one value goes -/
def dropsR (B : Int → Int) (b i : Int) : Int → Int := fun j => if j = 3 + 10 * b + 1 then bcnt B b - 1 else if 3 + 10 * b + 2 + i ≤ j ∧ j < 3 + 10 * b + 2 + bcnt B b - 1 then B (j + 1) else B j
theorem M_drops {T : Mem} {b i : Int} (h1 : 0 ≤ b) (h2 : b < 9) (h3 : 0 ≤ i) (h4 : i < bcnt (T 1) b) (h5 : bcnt (T 1) b ≤ 8) : ∃ T', f_X8_drops T b i = some T' ∧ T' 1 = dropsR (T 1) b i ∧ Fr1 T T' := by
  have := lp_seq (step := f_X8_drops_l12 b (3 + 10 * b + 2)) (fun n => (i + (n : Int), fl T 1 (3 + 10 * b + 2 + i) n (fun j => T 1 (j + 1)))) (bcnt (T 1) b - 1 - i).toNat (fl T 1 (3 + 10 * b + 2 + i) (bcnt (T 1) b - 1 - i).toNat (fun j => T 1 (j + 1))) (fun n hn => by
    have ec : bcnt (fl T 1 (3 + 10 * b + 2 + i) n (fun j => T 1 (j + 1)) 1) b = bcnt (T 1) b := by
      unfold bcnt
      rw [fl_out (by omega)]
    unfold f_X8_drops_l12
    dsimp only
    rw [M_valuesOf h1 h2, ec]
    simp only [Option.bind_some]
    rw [if_pos (ltb_t (by omega) (by omega) (by omega)), if_pos (by omega), if_pos (by omega)]
    dsimp only [wrk]
    rw [fl_s (by omega) (by rw [fl_out (by omega)]), show i + (n : Int) + 1 = i + ((n + 1 : Nat) : Int) by omega]) (by
    have ec : bcnt (fl T 1 (3 + 10 * b + 2 + i) (bcnt (T 1) b - 1 - i).toNat (fun j => T 1 (j + 1)) 1) b = bcnt (T 1) b := by
      unfold bcnt
      rw [fl_out (by omega)]
    unfold f_X8_drops_l12
    dsimp only
    rw [M_valuesOf h1 h2, ec]
    simp only [Option.bind_some]
    rw [if_neg (nl (by omega) (by omega) (by omega))]) (n := FU) (by rw [FU_eq]; omega)
  rw [show i + ((0 : Nat) : Int) = i by omega, fl_0] at this
  refine ⟨wr (fl T 1 (3 + 10 * b + 2 + i) (bcnt (T 1) b - 1 - i).toNat (fun j => T 1 (j + 1))) 1 (3 + 10 * b + 2 - 1) (bcnt (T 1) b - 1), ?_, ?_, fun k hk => ?_⟩
  · unfold f_X8_drops
    rw [this, Option.bind_some, if_pos (by omega)]
    dsimp only [wrk]
    rw [fl_out (by omega), show T 1 (3 + 10 * b + 2 - 1) = bcnt (T 1) b by unfold bcnt; congr 1; omega]
  · rw [wr_row, fl_row]
    funext j
    unfold wrR dropsR
    dsimp only
    by_cases hj : j = 3 + 10 * b + 1
    · rw [if_pos (by omega), if_pos hj]
    · rw [if_neg (by omega), if_neg hj]
      by_cases hj3 : 3 + 10 * b + 2 + i ≤ j ∧ j < 3 + 10 * b + 2 + bcnt (T 1) b - 1
      · rw [if_pos (by omega), if_pos hj3]
      · rw [if_neg (by omega), if_neg hj3]
  · rw [wr_ne hk, fl_ne hk]
