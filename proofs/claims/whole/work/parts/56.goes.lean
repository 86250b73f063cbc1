/-! ===== how the reference goes on ===== -/
theorem M_here {T : Mem} (h0 : 0 ≤ T 0 19) (h1 : T 0 19 ≤ T 0 17) (h2 : T 0 17 ≤ 500) : f_X8_here T = some (if T 0 19 < T 0 17 then T 12 (T 0 19) else -1) := by
  unfold f_X8_here
  by_cases h : T 0 19 < T 0 17
  · rw [if_pos (ltb_t h (by omega) (by omega)), if_pos (by omega), if_pos h]
  · rw [if_neg (nl (by omega) (by omega) (by omega)), if_neg h]
theorem kd5 {x : Int} : kd x = 5 ↔ x = 32 ∨ x = 10 := by
  unfold kd
  by_cases h1 : 97 ≤ x ∧ x ≤ 122
  · rw [if_pos h1]; omega
  · rw [if_neg h1]
    by_cases h2 : 48 ≤ x ∧ x ≤ 57
    · rw [if_pos h2]; omega
    · rw [if_neg h2]
      by_cases h3 : x = 32 ∨ x = 10
      · rw [if_pos h3]; omega
      · rw [if_neg h3]
        split <;> omega
theorem kd1 {x : Int} : kd x = 1 ↔ 97 ≤ x ∧ x ≤ 122 := by
  unfold kd
  by_cases h1 : 97 ≤ x ∧ x ≤ 122
  · rw [if_pos h1]; omega
  · rw [if_neg h1]
    split
    · omega
    · split
      · omega
      · split <;> omega
theorem kd2 {x : Int} : kd x = 2 ↔ 48 ≤ x ∧ x ≤ 57 := by
  unfold kd
  by_cases h1 : 97 ≤ x ∧ x ≤ 122
  · rw [if_pos h1]; omega
  · rw [if_neg h1]
    by_cases h2 : 48 ≤ x ∧ x ≤ 57
    · rw [if_pos h2]; omega
    · rw [if_neg h2]
      split
      · omega
      · split <;> omega
def Tp (T : Mem) : Prop := 0 ≤ T 0 17 ∧ T 0 17 ≤ 500 ∧ ∀ i, 0 ≤ i → i < T 0 17 → 0 ≤ T 12 i ∧ T 12 i ≤ 255
theorem M_skip {T : Mem} {y1 y2 : Int} (hT : Tp T) (h0 : 0 ≤ T 0 19) (h1 : T 0 19 ≤ T 0 17) : lp (f_X8_goesOn_l10 y1 y2) FU T = some (wr T 0 19 (rnd T (T 0 19) 5)) := by
  obtain ⟨t0, t1, t2⟩ := hT
  have rb := rnd_bnd (T := T) (k := 5) h1
  have hh : ∀ s, T 0 19 ≤ s → s ≤ T 0 17 → f_X8_here (wr T 0 19 s) = some (if s < T 0 17 then T 12 s else -1) := fun s a b => by
    have e17 : wr T 0 19 s 0 17 = T 0 17 := wr_idx (by decide) 0
    have e19 : wr T 0 19 s 0 19 = s := wr_eq _ _ _ _
    have := M_here (T := wr T 0 19 s) (by omega) (by omega) (by omega)
    rw [e17, e19, wr_ne (by decide)] at this
    exact this
  have ww : ∀ s x : Int, wr (wr T 0 19 s) 0 19 x = wr T 0 19 x := fun s x => by
    funext k j
    by_cases hk : k = 0
    · subst hk
      rw [wr_at, wr_at, wr_at]
      split <;> rfl
    · rw [wr_cell hk, wr_cell hk, wr_cell hk]
  have g := lp_seq (step := f_X8_goesOn_l10 y1 y2) (fun n => wr T 0 19 (T 0 19 + (n : Int))) (rnd T (T 0 19) 5 - T 0 19).toNat (wr T 0 19 (rnd T (T 0 19) 5)) (fun i hi => by
    have e := kd5.mp (rnd_in (T := T) (a := T 0 19) (k := 5) (i := T 0 19 + i) (by omega) (by omega))
    have tb := t2 (T 0 19 + i) (by omega) (by omega)
    unfold f_X8_goesOn_l10
    rw [hh _ (by omega) (by omega), Option.bind_some, if_pos (show T 0 19 + (i : Int) < T 0 17 by omega)]
    dsimp only [wrk]
    rw [wr_eq, ww, show T 0 19 + (i : Int) + 1 = T 0 19 + ((i + 1 : Nat) : Int) by omega]
    by_cases h3 : T 12 (T 0 19 + i) = 32
    · rw [if_pos (eqb_t h3)]
    · rw [if_neg (nq h3 (by omega) (by omega) (by omega) (by omega)), Option.bind_some, if_pos (eqb_t (by omega))]) (by
    rw [show T 0 19 + (((rnd T (T 0 19) 5 - T 0 19).toNat : Nat) : Int) = rnd T (T 0 19) 5 by omega]
    unfold f_X8_goesOn_l10
    rw [hh _ (by omega) (by omega), Option.bind_some]
    by_cases hl : rnd T (T 0 19) 5 < T 0 17
    · have e := rnd_stop h1 hl
      have tb := t2 _ (show 0 ≤ rnd T (T 0 19) 5 by omega) hl
      have e2 : ¬ (T 12 (rnd T (T 0 19) 5) = 32 ∨ T 12 (rnd T (T 0 19) 5) = 10) := fun z => e (kd5.mpr z)
      rw [if_pos hl, if_neg (nq (fun z => e2 (Or.inl z)) (by omega) (by omega) (by omega) (by omega)), Option.bind_some, if_neg (nq (fun z => e2 (Or.inr z)) (by omega) (by omega) (by omega) (by omega))]
    · rw [if_neg hl, if_neg (show ¬ eqb (-1) 32 = true by decide), Option.bind_some, if_neg (show ¬ eqb (-1) 10 = true by decide)]) (n := FU) (by rw [FU_eq]; omega)
  have w0 : wr T 0 19 (T 0 19 + ((0 : Nat) : Int)) = T := by
    rw [show T 0 19 + ((0 : Nat) : Int) = T 0 19 by omega]
    funext k j
    by_cases hk : k = 0
    · subst hk
      rw [wr_at]
      split
      · rename_i h; rw [h]
      · rfl
    · rw [wr_cell hk]
  rw [w0] at g
  exact g
