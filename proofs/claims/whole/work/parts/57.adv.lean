/-! ===== how the two readers go on ===== -/
theorem M_hereAt {T : Mem} {s : Int} (hT : Tp T) (h0 : 0 ≤ s) (h1 : s ≤ T 0 17) : f_X8_here (wr T 0 19 s) = some (if s < T 0 17 then T 12 s else -1) := by
  obtain ⟨t0, t1, t2⟩ := hT
  have e17 : wr T 0 19 s 0 17 = T 0 17 := wr_idx (by decide) 0
  have e19 : wr T 0 19 s 0 19 = s := wr_eq _ _ _ _
  have := M_here (T := wr T 0 19 s) (by omega) (by omega) (by omega)
  rw [e17, e19, wr_ne (by decide)] at this
  exact this
theorem wr_19 (T : Mem) (s x : Int) : wr (wr T 0 19 s) 0 19 x = wr T 0 19 x := by
  funext k j
  by_cases hk : k = 0
  · subst hk
    rw [wr_at, wr_at, wr_at]
    split <;> rfl
  · rw [wr_cell hk, wr_cell hk, wr_cell hk]
theorem wr_own (T : Mem) : wr T 0 19 (T 0 19) = T := by
  funext k j
  by_cases hk : k = 0
  · subst hk
    rw [wr_at]
    split
    · rename_i h; rw [h]
    · rfl
  · rw [wr_cell hk]
theorem M_letters {T : Mem} {y : Int} (hT : Tp T) (h0 : 0 ≤ T 0 19) (h1 : T 0 19 ≤ T 0 17) : lp (f_X8_goesOn_l105 y) FU T = some (wr T 0 19 (rnd T (T 0 19) 1)) := by
  have hT' := hT
  obtain ⟨t0, t1, t2⟩ := hT
  have rb := rnd_bnd (T := T) (k := 1) h1
  have g := lp_seq (step := f_X8_goesOn_l105 y) (fun n => wr T 0 19 (T 0 19 + (n : Int))) (rnd T (T 0 19) 1 - T 0 19).toNat (wr T 0 19 (rnd T (T 0 19) 1)) (fun i hi => by
    have e := kd1.mp (rnd_in (T := T) (a := T 0 19) (k := 1) (i := T 0 19 + i) (by omega) (by omega))
    unfold f_X8_goesOn_l105
    rw [M_hereAt hT' (by omega) (by omega), Option.bind_some, if_pos (show T 0 19 + (i : Int) < T 0 17 by omega), M_inL ⟨by omega, by omega⟩ (by decide) (by decide), Option.bind_some, if_pos e, if_neg e10]
    dsimp only [wrk]
    rw [wr_eq, wr_19, show T 0 19 + (i : Int) + 1 = T 0 19 + ((i + 1 : Nat) : Int) by omega]) (by
    rw [show T 0 19 + (((rnd T (T 0 19) 1 - T 0 19).toNat : Nat) : Int) = rnd T (T 0 19) 1 by omega]
    unfold f_X8_goesOn_l105
    rw [M_hereAt hT' (by omega) (by omega), Option.bind_some]
    by_cases hl : rnd T (T 0 19) 1 < T 0 17
    · have e := rnd_stop h1 hl
      have tb := t2 _ (show 0 ≤ rnd T (T 0 19) 1 by omega) hl
      have e2 : ¬ (97 ≤ T 12 (rnd T (T 0 19) 1) ∧ T 12 (rnd T (T 0 19) 1) ≤ 122) := fun z => e (kd1.mpr z)
      rw [if_pos hl, M_inL ⟨by omega, by omega⟩ (by decide) (by decide), Option.bind_some, if_neg e2, if_pos e00]
    · rw [if_neg hl, M_inL ⟨by omega, by omega⟩ (by decide) (by decide), Option.bind_some, if_neg (show ¬ ((97 : Int) ≤ -1 ∧ (-1 : Int) ≤ 122) by omega), if_pos e00]) (n := FU) (by rw [FU_eq]; omega)
  rw [show T 0 19 + ((0 : Nat) : Int) = T 0 19 by omega, wr_own] at g
  exact g
/-- the number from a up to e -/
def nvl (T : Mem) (a e : Int) : Int := if e = a + 1 then T 12 a - 48 else 10 * (T 12 a - 48) + (T 12 (a + 1) - 48)
theorem M_digits {T : Mem} {y : Int} (hT : Tp T) (h0 : 0 ≤ T 0 19) (h1 : T 0 19 ≤ T 0 17) (hb : T 0 21 = T 0 19) (hn : T 0 22 = 0) : ∃ T', lp (f_X8_goesOn_l165 y) FU T = some T' ∧ (∀ k, k ≠ 0 → T' k = T k) ∧ (∀ j, j ≠ 19 → j ≠ 22 → T' 0 j = T 0 j) ∧ T' 0 19 = rnd T (T 0 19) 2 ∧ (T 0 19 < rnd T (T 0 19) 2 → rnd T (T 0 19) 2 - T 0 19 ≤ 2 → T' 0 22 = nvl T (T 0 19) (rnd T (T 0 19) 2)) := by
  have hT' := hT
  obtain ⟨t0, t1, t2⟩ := hT
  have rb := rnd_bnd (T := T) (k := 2) h1
  obtain ⟨T', g1, g2, g3, g4, g5⟩ := lp_rel (step := f_X8_goesOn_l165 y) (fun i (t : Mem) => (∀ k, k ≠ 0 → t k = T k) ∧ (∀ j, j ≠ 19 → j ≠ 22 → t 0 j = T 0 j) ∧ t 0 19 = T 0 19 + i ∧ (i = 0 → t 0 22 = 0) ∧ (i = 1 → t 0 22 = T 12 (T 0 19) - 48) ∧ (i = 2 → t 0 22 = 10 * (T 12 (T 0 19) - 48) + (T 12 (T 0 19 + 1) - 48))) (fun (t : Mem) => (∀ k, k ≠ 0 → t k = T k) ∧ (∀ j, j ≠ 19 → j ≠ 22 → t 0 j = T 0 j) ∧ t 0 19 = rnd T (T 0 19) 2 ∧ (T 0 19 < rnd T (T 0 19) 2 → rnd T (T 0 19) 2 - T 0 19 ≤ 2 → t 0 22 = nvl T (T 0 19) (rnd T (T 0 19) 2))) (rnd T (T 0 19) 2 - T 0 19).toNat (by
    intro i t hi ⟨e0, e1, e2, e3, e4, e5⟩
    have d := kd2.mp (rnd_in (T := T) (a := T 0 19) (k := 2) (i := T 0 19 + i) (by omega) (by omega))
    have e17 : t 0 17 = T 0 17 := e1 17 (by decide) (by decide)
    have e21 : t 0 21 = T 0 19 := by rw [e1 21 (by decide) (by decide), hb]
    have eh : f_X8_here t = some (T 12 (T 0 19 + i)) := by
      rw [M_here (T := t) (by omega) (by omega) (by omega), if_pos (by omega), e2, e0 12 (by decide)]
    by_cases h2 : (i : Int) < 2
    · refine ⟨wr (wr t 0 22 (10 * t 0 22 + T 12 (T 0 19 + i) - 48)) 0 19 (T 0 19 + i + 1), ?_, fun k hk => by rw [wr_ne hk, wr_ne hk]; exact e0 k hk, fun j j1 j2 => by rw [wr_idx j1, wr_idx j2]; exact e1 j j1 j2, by rw [wr_eq]; omega, by omega, fun hi1 => ?_, fun hi2 => ?_⟩
      · unfold f_X8_goesOn_l165
        rw [eh, Option.bind_some, M_inL ⟨by omega, by omega⟩ (by decide) (by decide), Option.bind_some, if_pos d, if_neg e10, e2, e21, if_pos (ltb_t (by omega) (by omega) (by omega)), Option.bind_some]
        dsimp only [wrk]
        rw [Option.bind_some, wr_idx (by decide), e2]
      · have hi0 : i = 0 := by omega
        have := e3 hi0
        subst hi0
        rw [wr_idx (by decide), wr_eq, this, show T 0 19 + ((0 : Nat) : Int) = T 0 19 by omega]
        omega
      · have hi1 : i = 1 := by omega
        have := e4 hi1
        subst hi1
        rw [wr_idx (by decide), wr_eq, this, show T 0 19 + ((1 : Nat) : Int) = T 0 19 + 1 by omega]
        omega
    · refine ⟨wr t 0 19 (T 0 19 + i + 1), ?_, fun k hk => by rw [wr_ne hk]; exact e0 k hk, fun j j1 j2 => by rw [wr_idx j1]; exact e1 j j1 j2, by rw [wr_eq]; omega, by omega, by omega, by omega⟩
      unfold f_X8_goesOn_l165
      rw [eh, Option.bind_some, M_inL ⟨by omega, by omega⟩ (by decide) (by decide), Option.bind_some, if_pos d, if_neg e10, e2, e21, if_neg (nl (by omega) (by omega) (by omega)), Option.bind_some]
      dsimp only [wrk]
      rw [e2]) (by
    intro t ⟨e0, e1, e2, e3, e4, e5⟩
    have e17 : t 0 17 = T 0 17 := e1 17 (by decide) (by decide)
    have e19 : t 0 19 = rnd T (T 0 19) 2 := by omega
    refine ⟨t, ?_, e0, e1, e19, fun q1 q2 => ?_⟩
    · unfold f_X8_goesOn_l165
      rw [M_here (T := t) (by omega) (by omega) (by omega), Option.bind_some, e17, e19, e0 12 (by decide)]
      by_cases hl : rnd T (T 0 19) 2 < T 0 17
      · have e := rnd_stop h1 hl
        have tb := t2 _ (show 0 ≤ rnd T (T 0 19) 2 by omega) hl
        have e2 : ¬ (48 ≤ T 12 (rnd T (T 0 19) 2) ∧ T 12 (rnd T (T 0 19) 2) ≤ 57) := fun z => e (kd2.mpr z)
        rw [if_pos hl, M_inL ⟨by omega, by omega⟩ (by decide) (by decide), Option.bind_some, if_neg e2, if_pos e00]
      · rw [if_neg hl, M_inL ⟨by omega, by omega⟩ (by decide) (by decide), Option.bind_some, if_neg (show ¬ ((48 : Int) ≤ -1 ∧ (-1 : Int) ≤ 57) by omega), if_pos e00]
    · unfold nvl
      by_cases h3 : rnd T (T 0 19) 2 = T 0 19 + 1
      · rw [if_pos h3]
        exact e4 (by omega)
      · rw [if_neg h3]
        exact e5 (by omega)) (n := FU) (by rw [FU_eq]; omega) (s := T) ⟨fun _ _ => rfl, fun _ _ _ => rfl, by omega, fun _ => hn, by omega, by omega⟩
  exact ⟨T', g1, g2, g3, g4, g5⟩
/-- where the next word begins, its kind, where it ends -/
def ta (T : Mem) : Int := rnd T (T 0 19) 5
def tk (T : Mem) : Int := if ta T < T 0 17 then kd (T 12 (ta T)) else 0
def te (T : Mem) : Int := if tk T = 1 ∨ tk T = 2 then rnd T (ta T) (tk T) else min (ta T + 1) (T 0 17)
theorem tk_bnd {T : Mem} (h1 : T 0 19 ≤ T 0 17) : 0 ≤ tk T ∧ tk T ≤ 4 := by
  unfold tk
  by_cases h : ta T < T 0 17
  · have k0 := kd_bnd (T 12 (ta T))
    have k5 : kd (T 12 (ta T)) ≠ 5 := rnd_stop (k := 5) h1 h
    rw [if_pos h]
    omega
  · rw [if_neg h]; omega
theorem flg2 {x : Int} (h0 : 0 ≤ x) (h1 : x ≤ 9) : (if eqb x 1 = true then some (1 : Int) else if eqb x 2 = true then some 1 else some 0) = some (if x = 1 ∨ x = 2 then 1 else 0) := by
  by_cases h : x = 1
  · rw [if_pos (eqb_t h), if_pos (Or.inl h)]
  · rw [if_neg (nq h (by omega) (by omega) (by omega) (by omega))]
    by_cases g : x = 2
    · rw [if_pos (eqb_t g), if_pos (Or.inr g)]
    · rw [if_neg (nq g (by omega) (by omega) (by omega) (by omega)), if_neg (by omega)]
