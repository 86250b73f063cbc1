/-! ===== the next word, on both sides ===== -/
theorem C_advance {S T : Mem} (hr : RT S T) (hs : S 1 3 = T 0 19) (h0 : 0 ≤ T 0 19) (h1 : T 0 19 ≤ T 0 17) (hw0 : 0 ≤ S 1 1) (hw1 : S 1 1 ≤ 9) : ∃ S', f_X6_advance S = some S' ∧ (∀ k, k ≠ 1 → S' k = S k) ∧ S' 1 4 = S 1 4 ∧ S' 1 2 = ta T ∧ S' 1 3 = te T ∧ S' 1 1 = (if (S 1 1 = 1 ∨ S 1 1 = 2) ∧ (tk T = 1 ∨ tk T = 2) ∧ ta T = T 0 19 then 4 else tk T) := by
  have hr' := hr
  obtain ⟨r0, r1, r2, r3⟩ := hr
  have tb := rnd_bnd (T := T) (k := 5) h1
  have kb := tk_bnd h1
  have ha : rnd T (T 0 19) 5 = ta T := rfl
  rw [ha] at tb
  have eb : te T ≤ T 0 17 ∧ ta T ≤ te T := by
    unfold te
    split
    · have := rnd_bnd (T := T) (k := tk T) tb.2
      omega
    · omega
  unfold f_X6_advance
  rw [flg2 hw0 hw1, Option.bind_some, hs, C_endOfRun hr' h0 h1 (by decide), Option.bind_some, ha]
  dsimp only [wrk]
  have f2 : ∀ k, k ≠ 1 → wr S 1 2 (ta T) k = S k := fun k hk => wr_ne hk
  have f3 : wr S 1 2 (ta T) 1 2 = ta T := wr_eq _ _ _ _
  have f4 : ∀ j, j ≠ 2 → wr S 1 2 (ta T) 1 j = S 1 j := fun j hj => wr_idx hj 1
  generalize wr S 1 2 (ta T) = S6 at f2 f3 f4 ⊢
  have ek : (if ltb (S6 1 2) (S6 2 0) = true then (if (0 : Int) ≤ S6 1 2 ∧ (S6 1 2) < 500 then ((f_X6_kindOf S6 (S6 3 (S6 1 2))).bind fun r33 => some r33) else none) else (some 0)) = some (tk T) := by
    rw [f3, f2 2 (by decide), f2 3 (by decide), r0]
    unfold tk
    by_cases hl : ta T < T 0 17
    · have t := r3 (ta T) (by omega) hl
      rw [if_pos (ltb_t hl (by omega) (by omega)), if_pos (by omega), t.2.2, C_kindOf t.1 t.2.1, Option.bind_some, if_pos hl]
    · rw [if_neg (nl (by omega) (by omega) (by omega)), if_neg hl]
  rw [ek, Option.bind_some]
  have g2 : ∀ k, k ≠ 1 → wr S6 1 1 (tk T) k = S k := fun k hk => by rw [wr_ne hk]; exact f2 k hk
  have g1 : wr S6 1 1 (tk T) 1 1 = tk T := wr_eq _ _ _ _
  have g3 : wr S6 1 1 (tk T) 1 2 = ta T := by rw [wr_idx (by decide)]; exact f3
  have g4 : wr S6 1 1 (tk T) 1 4 = S 1 4 := by rw [wr_idx (by decide)]; exact f4 4 (by decide)
  generalize wr S6 1 1 (tk T) = S11 at g1 g2 g3 g4 ⊢
  rw [g1, flg2 kb.1 (by omega), Option.bind_some, g3, g2 2 (by decide), r0]
  have hr2 : RT S11 T := ⟨by rw [g2 2 (by decide)]; exact r0, r1, r2, fun i i0 i1 => by rw [g2 3 (by decide)]; exact r3 i i0 i1⟩
  have ee : (if eqb (if tk T = 1 ∨ tk T = 2 then 1 else 0) 0 = true then (some (mnb (ta T + 1) (T 0 17))) else ((f_X6_endOfRun S11 (ta T) (tk T)).bind fun r27 => some r27)) = some (te T) := by
    unfold te
    by_cases hk : tk T = 1 ∨ tk T = 2
    · rw [if_pos hk, if_neg e10, C_endOfRun hr2 (by omega) tb.2 (by omega), Option.bind_some, if_pos hk]
    · rw [if_neg hk, if_pos e00, mnb_le (by omega) (by omega) (by omega) (by omega), if_neg hk]
  rw [ee, Option.bind_some]
  have k2 : ∀ k, k ≠ 1 → wr S11 1 3 (te T) k = S k := fun k hk => by rw [wr_ne hk]; exact g2 k hk
  have k1 : wr S11 1 3 (te T) 1 1 = tk T := by rw [wr_idx (by decide)]; exact g1
  have k3 : wr S11 1 3 (te T) 1 2 = ta T := by rw [wr_idx (by decide)]; exact g3
  have k4 : wr S11 1 3 (te T) 1 4 = S 1 4 := by rw [wr_idx (by decide)]; exact g4
  have k5 : wr S11 1 3 (te T) 1 3 = te T := wr_eq _ _ _ _
  generalize wr S11 1 3 (te T) = S19 at k1 k2 k3 k4 k5 ⊢
  rw [k3]
  by_cases q1 : S 1 1 = 1 ∨ S 1 1 = 2
  · rw [if_pos q1, if_neg e10]
    by_cases q2 : tk T = 1 ∨ tk T = 2
    · rw [if_pos q2, if_neg e10]
      by_cases q3 : ta T = T 0 19
      · rw [if_pos (eqb_t q3), if_pos ⟨q1, q2, q3⟩]
        exact ⟨_, rfl, fun k hk => by rw [wr_ne hk]; exact k2 k hk, by rw [wr_idx (by decide)]; exact k4, by rw [wr_idx (by decide)]; exact k3, by rw [wr_idx (by decide)]; exact k5, wr_eq _ _ _ _⟩
      · rw [if_neg (nq q3 (by omega) (by omega) (by omega) (by omega)), if_neg (fun z => q3 z.2.2)]
        exact ⟨_, rfl, k2, k4, k3, k5, k1⟩
    · rw [if_neg q2, if_pos e00, if_neg (fun z => q2 z.2.1)]
      exact ⟨_, rfl, k2, k4, k3, k5, k1⟩
  · rw [if_neg q1, if_pos e00, if_neg (fun z => q1 z.1)]
    exact ⟨_, rfl, k2, k4, k3, k5, k1⟩
def Fr0 (T T' : Mem) : Prop := (∀ k, k ≠ 0 → T' k = T k) ∧ ∀ j, j ≠ 19 → j ≠ 20 → j ≠ 21 → j ≠ 22 → T' 0 j = T 0 j
theorem Fr0.tr {T T1 T2 : Mem} (h : Fr0 T T1) (g : Fr0 T1 T2) : Fr0 T T2 := ⟨fun k hk => (g.1 k hk).trans (h.1 k hk), fun j a b c d => (g.2 j a b c d).trans (h.2 j a b c d)⟩
theorem rnd_same {T T' : Mem} (h : T' 12 = T 12) (g : T' 0 17 = T 0 17) (a k : Int) : rnd T' a k = rnd T a k := by
  unfold rnd
  rw [h, g]
theorem M_goesOn {T : Mem} (hT : Tp T) (h0 : 0 ≤ T 0 19) (h1 : T 0 19 ≤ T 0 17) (hw0 : 0 ≤ T 0 20) (hw1 : T 0 20 ≤ 9) : ∃ T', f_X8_goesOn T = some T' ∧ Fr0 T T' ∧ T' 0 21 = ta T ∧ T' 0 19 = te T ∧ T' 0 20 = (if tk T = 1 then (if ta T = T 0 19 ∧ (T 0 20 = 1 ∨ T 0 20 = 2) then 4 else 1) else if tk T = 2 then (if (ta T = T 0 19 ∧ (T 0 20 = 1 ∨ T 0 20 = 2)) ∨ 2 < te T - ta T then 4 else 2) else tk T) ∧ (tk T = 2 → te T - ta T ≤ 2 → T' 0 22 = nvl T (ta T) (te T)) := by
  have hT' := hT
  obtain ⟨t0, t1, t2⟩ := hT
  have tb := rnd_bnd (T := T) (k := 5) h1
  have ha : rnd T (T 0 19) 5 = ta T := rfl
  rw [ha] at tb
  unfold f_X8_goesOn
  rw [M_skip hT' h0 h1, Option.bind_some, ha]
  dsimp only [wrk]
  rw [wr_eq T 0 19 (ta T)]
  have f1 : ∀ k, k ≠ 0 → wr (wr T 0 19 (ta T)) 0 21 (ta T) k = T k := fun k hk => by rw [wr_ne hk, wr_ne hk]
  have f2 : ∀ j, j ≠ 19 → j ≠ 21 → wr (wr T 0 19 (ta T)) 0 21 (ta T) 0 j = T 0 j := fun j j1 j2 => by rw [wr_idx j2, wr_idx j1]
  have f3 : wr (wr T 0 19 (ta T)) 0 21 (ta T) 0 21 = ta T := wr_eq _ _ _ _
  have f4 : wr (wr T 0 19 (ta T)) 0 21 (ta T) 0 19 = ta T := by rw [wr_idx (by decide), wr_eq]
  generalize wr (wr T 0 19 (ta T)) 0 21 (ta T) = T2 at f1 f2 f3 f4 ⊢
  have f17 : T2 0 17 = T 0 17 := f2 17 (by decide) (by decide)
  have f12 : T2 12 = T 12 := f1 12 (by decide)
  have hT2 : Tp T2 := ⟨by omega, by omega, fun i i0 i1 => by rw [f12]; exact t2 i i0 (by omega)⟩
  have eg : (if eqb (T2 0 21) (T 0 19) = true then (if eqb (T 0 20) 1 = true then (some 1) else (if eqb (T 0 20) 2 = true then (some 1) else (some 0))) else (some 0)) = some (if ta T = T 0 19 ∧ (T 0 20 = 1 ∨ T 0 20 = 2) then (1 : Int) else 0) := by
    rw [f3, flg2 hw0 hw1]
    by_cases q : ta T = T 0 19
    · rw [if_pos (eqb_t q)]
      by_cases q2 : T 0 20 = 1 ∨ T 0 20 = 2
      · rw [if_pos q2, if_pos ⟨q, q2⟩]
      · rw [if_neg q2, if_neg (fun z => q2 z.2)]
    · rw [if_neg (nq q (by omega) (by omega) (by omega) (by omega)), if_neg (fun z => q z.1)]
  rw [eg, Option.bind_some, M_here (T := T2) (by omega) (by omega) (by omega), Option.bind_some, f17, f4, f12]
  generalize hgl : (if ta T = T 0 19 ∧ (T 0 20 = 1 ∨ T 0 20 = 2) then (1 : Int) else 0) = gl
  have glc : (gl = 1 ∧ (ta T = T 0 19 ∧ (T 0 20 = 1 ∨ T 0 20 = 2))) ∨ (gl = 0 ∧ ¬ (ta T = T 0 19 ∧ (T 0 20 = 1 ∨ T 0 20 = 2))) := by
    by_cases q : ta T = T 0 19 ∧ (T 0 20 = 1 ∨ T 0 20 = 2)
    · rw [if_pos q] at hgl; exact Or.inl ⟨hgl.symm, q⟩
    · rw [if_neg q] at hgl; exact Or.inr ⟨hgl.symm, q⟩
  by_cases hl : ta T < T 0 17
  · have tx := t2 (ta T) (by omega) hl
    have k5 : kd (T 12 (ta T)) ≠ 5 := rnd_stop (k := 5) h1 hl
    have kb := kd_bnd (T 12 (ta T))
    have etk : tk T = kd (T 12 (ta T)) := by unfold tk; rw [if_pos hl]
    rw [if_pos hl, if_neg (nq (by omega) (by omega) (by omega) (by omega) (by omega)), M_inL ⟨by omega, by omega⟩ (by decide) (by decide), Option.bind_some]
    by_cases q1 : 97 ≤ T 12 (ta T) ∧ T 12 (ta T) ≤ 122
    · have e1 : tk T = 1 := by rw [etk]; exact kd1.mpr q1
      have ete : te T = rnd T (ta T) 1 := by unfold te; rw [if_pos (Or.inl e1), e1]
      rw [if_pos q1, if_neg e10, M_letters hT2 (by omega) (by omega), Option.bind_some, f4, rnd_same f12 f17, ← ete, if_pos e1]
      have c1 : ∀ x : Int, Fr0 T (wr (wr T2 0 19 (te T)) 0 20 x) := fun x => ⟨fun k hk => by rw [wr_ne hk, wr_ne hk]; exact f1 k hk, fun j j1 j2 j3 j4 => by rw [wr_idx j2, wr_idx j1]; exact f2 j j1 j3⟩
      have c2 : ∀ x : Int, wr (wr T2 0 19 (te T)) 0 20 x 0 21 = ta T := fun x => by rw [wr_idx (by decide), wr_idx (by decide)]; exact f3
      have c3 : ∀ x : Int, wr (wr T2 0 19 (te T)) 0 20 x 0 19 = te T := fun x => by rw [wr_idx (by decide), wr_eq]
      rcases glc with ⟨g, q⟩ | ⟨g, q⟩
      · rw [g, if_neg e10, Option.bind_some, if_pos q]
        exact ⟨_, rfl, c1 _, c2 _, c3 _, wr_eq _ _ _ _, fun z => by omega⟩
      · rw [g, if_pos e00, Option.bind_some, if_neg q]
        exact ⟨_, rfl, c1 _, c2 _, c3 _, wr_eq _ _ _ _, fun z => by omega⟩
    · have n1 : tk T ≠ 1 := by rw [etk]; exact fun z => q1 (kd1.mp z)
      rw [if_neg q1, if_pos e00, M_inL ⟨by omega, by omega⟩ (by decide) (by decide), Option.bind_some, if_neg n1]
      by_cases q2 : 48 ≤ T 12 (ta T) ∧ T 12 (ta T) ≤ 57
      · have e2 : tk T = 2 := by rw [etk]; exact kd2.mpr q2
        have ete : te T = rnd T (ta T) 2 := by unfold te; rw [if_pos (Or.inr e2), e2]
        have rb := rnd_bnd (T := T) (k := 2) tb.2
        have rb2 : ta T < rnd T (ta T) 2 := by
          rcases Int.lt_or_le (ta T) (rnd T (ta T) 2) with z | z
          · exact z
          · have z2 : rnd T (ta T) 2 = ta T := by omega
            have := rnd_stop (k := 2) tb.2 (by omega)
            rw [z2, ← etk] at this
            exact absurd e2 this
        have u1 : ∀ k, k ≠ 0 → wr T2 0 22 0 k = T k := fun k hk => by rw [wr_ne hk]; exact f1 k hk
        have u2 : ∀ j, j ≠ 19 → j ≠ 21 → j ≠ 22 → wr T2 0 22 0 0 j = T 0 j := fun j j1 j2 j3 => by rw [wr_idx j3]; exact f2 j j1 j2
        have u3 : wr T2 0 22 0 0 21 = ta T := by rw [wr_idx (by decide)]; exact f3
        have u4 : wr T2 0 22 0 0 19 = ta T := by rw [wr_idx (by decide)]; exact f4
        have u5 : wr T2 0 22 0 0 22 = 0 := wr_eq _ _ _ _
        rw [if_pos q2, if_neg e10, if_pos e2]
        generalize wr T2 0 22 0 = T3 at u1 u2 u3 u4 u5 ⊢
        have u17 : T3 0 17 = T 0 17 := u2 17 (by decide) (by decide) (by decide)
        have u12 : T3 12 = T 12 := u1 12 (by decide)
        have hT3 : Tp T3 := ⟨by omega, by omega, fun i i0 i1 => by rw [u12]; exact t2 i i0 (by omega)⟩
        obtain ⟨T4, d1, d2, d3, d4, d5⟩ := M_digits (y := gl) hT3 (by omega) (by omega) (by omega) u5
        rw [u4, rnd_same u12 u17, ← ete] at d4 d5
        have d21 : T4 0 21 = ta T := by rw [d3 21 (by decide) (by decide)]; exact u3
        rw [d1, Option.bind_some, d4, d21]
        have c1 : ∀ x : Int, Fr0 T (wr T4 0 20 x) := fun x => ⟨fun k hk => by rw [wr_ne hk, d2 k hk]; exact u1 k hk, fun j j1 j2 j3 j4 => by rw [wr_idx j2, d3 j j1 j4]; exact u2 j j1 j3 j4⟩
        have c2 : ∀ x : Int, wr T4 0 20 x 0 21 = ta T := fun x => by rw [wr_idx (by decide)]; exact d21
        have c3 : ∀ x : Int, wr T4 0 20 x 0 19 = te T := fun x => by rw [wr_idx (by decide)]; exact d4
        have c4 : ∀ x : Int, tk T = 2 → te T - ta T ≤ 2 → wr T4 0 20 x 0 22 = nvl T (ta T) (te T) := fun x _ z => by
          rw [wr_idx (by decide), d5 (by omega) z]
          unfold nvl
          rw [u12]
        rcases glc with ⟨g, q⟩ | ⟨g, q⟩
        · rw [g, if_neg e10, Option.bind_some, if_pos (Or.inl q)]
          exact ⟨_, rfl, c1 _, c2 _, c3 _, wr_eq _ _ _ _, c4 _⟩
        · rw [g, if_pos e00]
          by_cases q3 : 2 < te T - ta T
          · rw [if_pos (ltb_t q3 (by omega) (by omega)), Option.bind_some, if_pos (Or.inr q3)]
            exact ⟨_, rfl, c1 _, c2 _, c3 _, wr_eq _ _ _ _, c4 _⟩
          · rw [if_neg (nl (by omega) (by omega) (by omega)), Option.bind_some, if_neg (by omega)]
            exact ⟨_, rfl, c1 _, c2 _, c3 _, wr_eq _ _ _ _, c4 _⟩
      · have n2 : tk T ≠ 2 := by rw [etk]; exact fun z => q2 (kd2.mp z)
        have ete : te T = ta T + 1 := by unfold te; rw [if_neg (by omega)]; omega
        rw [if_neg q2, if_pos e00, if_neg n2, ← ete]
        have c1 : ∀ x : Int, Fr0 T (wr (wr T2 0 19 (te T)) 0 20 x) := fun x => ⟨fun k hk => by rw [wr_ne hk, wr_ne hk]; exact f1 k hk, fun j j1 j2 j3 j4 => by rw [wr_idx j2, wr_idx j1]; exact f2 j j1 j3⟩
        have c2 : ∀ x : Int, wr (wr T2 0 19 (te T)) 0 20 x 0 21 = ta T := fun x => by rw [wr_idx (by decide), wr_idx (by decide)]; exact f3
        have c3 : ∀ x : Int, wr (wr T2 0 19 (te T)) 0 20 x 0 19 = te T := fun x => by rw [wr_idx (by decide), wr_eq]
        by_cases q3 : T 12 (ta T) = 59
        · have e3 : tk T = 3 := by rw [etk, q3]; decide
          rw [if_pos (eqb_t q3), Option.bind_some, e3]
          exact ⟨_, rfl, c1 _, c2 _, c3 _, wr_eq _ _ _ _, fun z => by omega⟩
        · have e4 : tk T = 4 := by
            have z5 : ¬ (T 12 (ta T) = 32 ∨ T 12 (ta T) = 10) := fun z => k5 (kd5.mpr z)
            rw [etk]
            unfold kd
            rw [if_neg q1, if_neg q2, if_neg z5, if_neg q3]
          rw [if_neg (nq q3 (by omega) (by omega) (by omega) (by omega)), Option.bind_some, e4]
          exact ⟨_, rfl, c1 _, c2 _, c3 _, wr_eq _ _ _ _, fun z => by omega⟩
  · have e0 : tk T = 0 := by unfold tk; rw [if_neg hl]
    have ete : te T = ta T := by unfold te; rw [if_neg (by omega)]; omega
    rw [if_neg hl, if_pos (eqb_t rfl), e0, if_neg (by decide), if_neg (by decide)]
    exact ⟨_, rfl, ⟨fun k hk => by rw [wr_ne hk]; exact f1 k hk, fun j j1 j2 j3 j4 => by rw [wr_idx j2]; exact f2 j j1 j3⟩, by rw [wr_idx (by decide)]; exact f3, by rw [wr_idx (by decide), ete]; exact f4, wr_eq _ _ _ _, fun z => by omega⟩
