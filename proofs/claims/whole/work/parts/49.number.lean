/-! ===== numbers, written by both ===== -/
theorem dvb_div {x y : Int} (h1 : 0 ≤ x) (h2 : x < 2147483648) (h3 : 0 < y) (h4 : y < 2147483648) : dvb x y = x / y := by
  unfold dvb
  rw [Int32.toInt_div, i32_in (by omega) h2, i32_in (by omega) h4, Int.tdiv_eq_ediv_of_nonneg h1]
  have a : 0 ≤ x / y := Int.ediv_nonneg h1 (by omega)
  have b : x / y ≤ x := Int.ediv_le_self y h1
  rw [Int.bmod_def]
  have e : x / y % ((2 ^ 32 : Nat) : Int) = x / y := Int.emod_eq_of_lt a (by omega)
  rw [e, if_pos (by omega)]
def pws : List Int := [1, 10, 100, 1000, 10000]
theorem P_place {S : Mem} {T : Mem} {v : Int} (h0 : 0 ≤ v) (h1 : v < 100000) : ∃ k : Nat, k < 5 ∧ lp (f_X4_number_l4 S v) FU (1, 1) = some (pws.getD k 0) ∧ lp (f_X8_writesNumber_l2 T v) FU 1 = some (pws.getD k 0) := by
  obtain ⟨r, r', g1, g2, g3⟩ := lp_sim (step := f_X4_number_l4 S v) (step' := f_X8_writesNumber_l2 T v) (fun s t => ∃ k : Nat, k < 5 ∧ s = (pws.getD k 0, (k : Int) + 1) ∧ t = pws.getD k 0) (fun s => (6 - s.2).toNat) (fun r r' => r = r' ∧ ∃ k : Nat, k < 5 ∧ r = pws.getD k 0) (by
    intro s t ⟨k, hk, e, e2⟩
    subst e e2
    have pk : 1 ≤ pws.getD k 0 ∧ pws.getD k 0 ≤ 10000 ∧ (k < 4 → pws.getD k 0 * 10 = pws.getD (k + 1) 0) ∧ (k = 4 → pws.getD k 0 = 10000) := by
      rcases (show k = 0 ∨ k = 1 ∨ k = 2 ∨ k = 3 ∨ k = 4 by omega) with e | e | e | e | e <;> subst e <;> decide
    unfold f_X4_number_l4 f_X8_writesNumber_l2
    dsimp only
    have nz : eqb (pws.getD k 0) 0 = false := eqb_f (by omega) (by omega) (by omega) (by omega) (by omega)
    rw [if_pos (ltb_t (by omega) (by omega) (by omega)), if_pos nz, if_pos nz, dvb_div h0 (by omega) (by omega) (by omega)]
    have q0 : 0 ≤ v / pws.getD k 0 := Int.ediv_nonneg h0 (by omega)
    have q1 : v / pws.getD k 0 ≤ v := Int.ediv_le_self _ h0
    by_cases hl : v / pws.getD k 0 < 10
    · rw [if_pos (ltb_t hl (by omega) (by omega)), if_neg (nl (by omega) (by omega) (by omega))]
      exact Or.inr ⟨_, _, rfl, rfl, rfl, k, hk, rfl⟩
    · rw [if_neg (nl (by omega) (by omega) (by omega)), if_pos (ltb_t (by omega) (by omega) (by omega))]
      have hk4 : k < 4 := by
        by_cases h4 : k = 4
        · exfalso
          rw [pk.2.2.2 h4] at hl
          omega
        · omega
      rw [pk.2.2.1 hk4]
      exact Or.inl ⟨_, _, rfl, rfl, ⟨k + 1, by omega, rfl, rfl⟩, by dsimp only; omega⟩) FU (1, 1) 1 ⟨0, by omega, rfl, rfl⟩ (by dsimp only; rw [FU_eq]; omega)
  obtain ⟨e, k, hk, e2⟩ := g3
  exact ⟨k, hk, by rw [g1, e2], by rw [g2, ← e, e2]⟩
theorem P_number {S T : Mem} {w n v : Int} (h : PS S T w n) (hw : -1 ≤ w ∧ w < 2147483648) (hn : n + 5 ≤ 600) (h0 : 0 ≤ v) (h1 : v < 100000) : ∃ S' T', f_X4_number S v = some S' ∧ f_X8_writesNumber T v = some T' ∧ PS S' T' w (n + 5) ∧ FP S S' ∧ FM T T' := by
  obtain ⟨k, hk, p1, p2⟩ := P_place (S := S) (T := T) h0 h1
  obtain ⟨r, r', g1, g2, g3⟩ := lp_sim (step := f_X4_number_l29 v) (step' := f_X8_writesNumber_l18 v) (fun s t => s.1 = t.1 ∧ FP S s.2 ∧ FM T t.2 ∧ ∃ j : Nat, j ≤ k + 1 ∧ PS s.2 t.2 w (n + (k + 1 - j)) ∧ s.1 = if j = 0 then 0 else pws.getD (j - 1) 0) (fun s => (s.1 / 4).toNat + (if 0 < s.1 then 1 else 0)) (fun r r' => FP S r ∧ FM T r' ∧ PS r r' w (n + 5)) (by
    intro s t ⟨e, f1, f2, j, hj, ps, es⟩
    obtain ⟨i, s⟩ := s
    obtain ⟨i', t⟩ := t
    dsimp only at e f1 f2 ps es ⊢
    subst e
    unfold f_X4_number_l29 f_X8_writesNumber_l18
    dsimp only
    by_cases hz : j = 0
    · rw [if_pos hz] at es
      subst es
      rw [if_pos (ltb_t (by omega) (by omega) (by omega)), if_neg (nl (by omega) (by omega) (by omega))]
      exact Or.inr ⟨_, _, rfl, rfl, f1, f2, ps.mono (by omega)⟩
    · rw [if_neg hz] at es
      have pk : 1 ≤ pws.getD (j - 1) 0 ∧ pws.getD (j - 1) 0 ≤ 10000 ∧ dvb (pws.getD (j - 1) 0) 10 = (if j - 1 = 0 then 0 else pws.getD (j - 1 - 1) 0) ∧ dvb (pws.getD (j - 1) 0) 10 < pws.getD (j - 1) 0 ∧ 0 ≤ dvb (pws.getD (j - 1) 0) 10 ∧ 10 * dvb (pws.getD (j - 1) 0) 10 ≤ pws.getD (j - 1) 0 := by
        rcases (show j = 1 ∨ j = 2 ∨ j = 3 ∨ j = 4 ∨ j = 5 by omega) with e | e | e | e | e <;> subst e <;> decide
      rw [← es] at pk
      have nz : eqb i 0 = false := eqb_f (by omega) (by omega) (by omega) (by omega) (by omega)
      obtain ⟨S', T', a1, a2, a3, a4, a5⟩ := P_sign (x := 48 + rmb (dvb v i) 10) ps hw (by omega)
      rw [if_neg (nl (by omega) (by omega) (by omega)), if_pos nz, if_pos (ltb_t (by omega) (by omega) (by omega)), if_pos nz, a1, Option.bind_some, a2, Option.bind_some]
      obtain ⟨q1, q2, q3, q4, q5, q6⟩ := pk
      have hd : ∀ d : Int, 0 ≤ d → 10 * d ≤ i → (d / 4).toNat + (if 0 < d then 1 else 0) < (i / 4).toNat + (if 0 < i then 1 else 0) := fun d d0 d1 => by
        rw [if_pos (show 0 < i by omega)]
        by_cases hd : 0 < d
        · rw [if_pos hd]; omega
        · rw [if_neg hd]; omega
      exact Or.inl ⟨_, _, rfl, rfl, ⟨rfl, f1.tr a4, f2.tr a5, j - 1, by omega, a3.mono (by omega), q3⟩, hd _ q5 q6⟩) FU (pws.getD k 0, S) (pws.getD k 0, T) ⟨rfl, FP.rf, FM.rf, k + 1, by omega, h.mono (by omega), by rw [if_neg (by omega)]; rfl⟩ (by
      have : pws.getD k 0 ≤ 10000 := by rcases (show k = 0 ∨ k = 1 ∨ k = 2 ∨ k = 3 ∨ k = 4 by omega) with e | e | e | e | e <;> subst e <;> decide
      dsimp only
      rw [FU_eq]
      split <;> omega)
  refine ⟨r, r', ?_, ?_, g3.2.2, g3.1, g3.2.1⟩
  · unfold f_X4_number
    rw [p1, Option.bind_some, g1]
    rfl
  · unfold f_X8_writesNumber
    rw [p2, Option.bind_some, g2]
    rfl
