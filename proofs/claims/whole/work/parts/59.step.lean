/-! ===== the two readers in step ===== -/
def RD (S T : Mem) : Prop := S 1 2 = T 0 21 ∧ S 1 3 = T 0 19 ∧ 0 ≤ T 0 21 ∧ T 0 21 ≤ T 0 19 ∧ T 0 19 ≤ T 0 17 ∧ (T 0 20 ≠ 0 → T 0 21 < T 0 19) ∧ ((S 1 1 = 2 ∧ T 0 20 = 4 ∧ 2 < T 0 19 - T 0 21) ∨ (S 1 1 = T 0 20 ∧ 0 ≤ T 0 20 ∧ T 0 20 ≤ 4 ∧ (T 0 20 = 1 → ∀ i, T 0 21 ≤ i → i < T 0 19 → 97 ≤ T 12 i ∧ T 12 i ≤ 122) ∧ (T 0 20 = 2 → T 0 19 - T 0 21 ≤ 2 ∧ T 0 22 = nvl T (T 0 21) (T 0 19) ∧ ∀ i, T 0 21 ≤ i → i < T 0 19 → 48 ≤ T 12 i ∧ T 12 i ≤ 57)))
theorem RD.fr {S S' T T' : Mem} (h : RD S T) (s1 : S' 1 1 = S 1 1) (s2 : S' 1 2 = S 1 2) (s3 : S' 1 3 = S 1 3) (t12 : T' 12 = T 12) (t17 : T' 0 17 = T 0 17) (t19 : T' 0 19 = T 0 19) (t20 : T' 0 20 = T 0 20) (t21 : T' 0 21 = T 0 21) (t22 : T' 0 22 = T 0 22) : RD S' T' := by
  unfold RD nvl
  rw [s1, s2, s3, t12, t17, t19, t20, t21, t22]
  exact h
theorem RT.tp {S T : Mem} (h : RT S T) : Tp T := ⟨h.2.1, h.2.2.1, fun i i0 i1 => ⟨(h.2.2.2 i i0 i1).1, (h.2.2.2 i i0 i1).2.1⟩⟩
theorem te_bnd {T : Mem} (h1 : T 0 19 ≤ T 0 17) : T 0 19 ≤ ta T ∧ ta T ≤ te T ∧ te T ≤ T 0 17 ∧ (tk T ≠ 0 → ta T < te T) := by
  have tb := rnd_bnd (T := T) (k := 5) h1
  have ha : rnd T (T 0 19) 5 = ta T := rfl
  rw [ha] at tb
  by_cases q : tk T = 1 ∨ tk T = 2
  · have ee : te T = rnd T (ta T) (tk T) := by unfold te; rw [if_pos q]
    have rb := rnd_bnd (T := T) (k := tk T) tb.2
    refine ⟨tb.1, by omega, by omega, fun _ => ?_⟩
    rcases Int.lt_or_le (ta T) (te T) with z | z
    · exact z
    · have hl : ta T < T 0 17 := by
        rcases Int.lt_or_le (ta T) (T 0 17) with z | z
        · exact z
        · exfalso
          have : tk T = 0 := by unfold tk; rw [if_neg (by omega)]
          omega
      have etk : tk T = kd (T 12 (ta T)) := by unfold tk; rw [if_pos hl]
      have z2 : rnd T (ta T) (tk T) = ta T := by omega
      have := rnd_stop (k := tk T) tb.2 (by omega)
      rw [z2, ← etk] at this
      exact absurd rfl this
  · have ee : te T = min (ta T + 1) (T 0 17) := by unfold te; rw [if_neg q]
    refine ⟨tb.1, by omega, by omega, fun z => ?_⟩
    have hl : ta T < T 0 17 := by
      rcases Int.lt_or_le (ta T) (T 0 17) with z | z
      · exact z
      · exfalso
        have : tk T = 0 := by unfold tk; rw [if_neg (by omega)]
        omega
    omega
theorem adv {S T : Mem} (hr : RT S T) (hs : S 1 3 = T 0 19) (h0 : 0 ≤ T 0 19) (h1 : T 0 19 ≤ T 0 17) (hS : 0 ≤ S 1 1 ∧ S 1 1 ≤ 9) (hT : 0 ≤ T 0 20 ∧ T 0 20 ≤ 9) (hf : (S 1 1 = 1 ∨ S 1 1 = 2) ↔ (T 0 20 = 1 ∨ T 0 20 = 2)) : ∃ S' T', f_X6_advance S = some S' ∧ f_X8_goesOn T = some T' ∧ RD S' T' ∧ (∀ k, k ≠ 1 → S' k = S k) ∧ S' 1 4 = S 1 4 ∧ Fr0 T T' ∧ T 0 19 ≤ T' 0 21 := by
  obtain ⟨S', a1, a2, a3, a4, a5, a6⟩ := C_advance hr hs h0 h1 hS.1 hS.2
  obtain ⟨T', b1, b2, b3, b4, b5, b6⟩ := M_goesOn hr.tp h0 h1 hT.1 hT.2
  have tb := te_bnd h1
  have kb := tk_bnd h1
  have e12 : T' 12 = T 12 := b2.1 12 (by decide)
  have e17 : T' 0 17 = T 0 17 := b2.2 17 (by decide) (by decide) (by decide) (by decide)
  refine ⟨S', T', a1, b1, ⟨by omega, by omega, by omega, by omega, by omega, ?_, ?_⟩, a2, a3, b2, by omega⟩
  · intro z
    rw [b3, b4]
    apply tb.2.2.2
    intro z0
    rw [b5, z0, if_neg (by decide), if_neg (by decide)] at z
    exact z rfl
  · rw [b3, b4, b5, a6, e12]
    have nv : nvl T' (ta T) (te T) = nvl T (ta T) (te T) := by unfold nvl; rw [e12]
    rw [nv]
    by_cases q1 : tk T = 1
    · have ee : te T = rnd T (ta T) 1 := by unfold te; rw [if_pos (Or.inl q1), q1]
      rw [if_pos q1]
      by_cases g : ta T = T 0 19 ∧ (T 0 20 = 1 ∨ T 0 20 = 2)
      · rw [if_pos g, if_pos ⟨hf.mpr g.2, Or.inl q1, g.1⟩]
        exact Or.inr ⟨rfl, by decide, by decide, fun z => absurd z (by decide), fun z => absurd z (by decide)⟩
      · rw [if_neg g, if_neg (fun z => g ⟨z.2.2, hf.mp z.1⟩), q1]
        exact Or.inr ⟨rfl, by decide, by decide, fun _ i i0 i1 => kd1.mp (rnd_in i0 (by rw [← ee]; exact i1)), fun z => absurd z (by decide)⟩
    · rw [if_neg q1]
      by_cases q2 : tk T = 2
      · have ee : te T = rnd T (ta T) 2 := by unfold te; rw [if_pos (Or.inr q2), q2]
        rw [if_pos q2]
        by_cases g : ta T = T 0 19 ∧ (T 0 20 = 1 ∨ T 0 20 = 2)
        · rw [if_pos (Or.inl g), if_pos ⟨hf.mpr g.2, Or.inr q2, g.1⟩]
          exact Or.inr ⟨rfl, by decide, by decide, fun z => absurd z (by decide), fun z => absurd z (by decide)⟩
        · rw [if_neg (show ¬ ((S 1 1 = 1 ∨ S 1 1 = 2) ∧ (tk T = 1 ∨ tk T = 2) ∧ ta T = T 0 19) from fun z => g ⟨z.2.2, hf.mp z.1⟩), q2]
          by_cases q3 : 2 < te T - ta T
          · rw [if_pos (Or.inr q3)]
            exact Or.inl ⟨rfl, rfl, q3⟩
          · rw [if_neg (fun z => z.elim g q3)]
            exact Or.inr ⟨rfl, by decide, by decide, fun z => absurd z (by decide), fun _ => ⟨by omega, b6 q2 (by omega), fun i i0 i1 => kd2.mp (rnd_in i0 (by rw [← ee]; exact i1))⟩⟩
      · rw [if_neg q2, if_neg (fun z => z.2.1.elim q1 q2)]
        exact Or.inr ⟨rfl, kb.1, kb.2, fun z => absurd z q1, fun z => absurd z q2⟩
theorem RD.goes {S T : Mem} (hr : RT S T) (h : RD S T) (hn : T 0 20 ≠ 4) : ∃ S' T', f_X6_advance S = some S' ∧ f_X8_goesOn T = some T' ∧ RD S' T' ∧ (∀ k, k ≠ 1 → S' k = S k) ∧ S' 1 4 = S 1 4 ∧ Fr0 T T' ∧ T 0 19 ≤ T' 0 21 := by
  obtain ⟨a1, a2, a3, a4, a5, a6, a7⟩ := h
  rcases a7 with ⟨b1, b2, b3⟩ | ⟨b1, b2, b3, b4, b5⟩
  · exact absurd b2 hn
  · exact adv hr a2 (by omega) a5 (by omega) (by omega) (by rw [b1])
theorem sgn_id {x : Int} (h : x < 128) : sgn x = x := by unfold sgn; rw [if_pos h]
theorem C_number {S T : Mem} (hr : RT S T) (h : RD S T) (h2 : T 0 20 = 2) : S 1 1 = 2 ∧ f_X6_numberHere S = some (T 0 22) ∧ 0 ≤ T 0 22 ∧ T 0 22 ≤ 99 := by
  obtain ⟨a1, a2, a3, a4, a5, a6, a7⟩ := h
  rcases a7 with ⟨b1, b2, b3⟩ | ⟨b1, b2, b3, b4, b5⟩
  · omega
  · obtain ⟨c1, c2, c3⟩ := b5 h2
    have lt := a6 (by omega)
    have d0 := c3 (T 0 21) (by omega) lt
    have r0 := hr.2.2.2 (T 0 21) (by omega) (by omega)
    have hl := hr.2.2.1
    have e0 : S 3 (T 0 21) = T 12 (T 0 21) := by rw [r0.2.2, sgn_id (by omega)]
    refine ⟨by omega, ?_, ?_⟩
    · unfold f_X6_numberHere
      rw [a1, a2, if_neg (nl (by omega) (by omega) (by omega)), c2]
      unfold nvl
      by_cases q : T 0 19 = T 0 21 + 1
      · rw [if_pos q]
        have g := lp_seq (step := f_X6_numberHere_l22 S) (fun n => ((if n = 0 then 0 else T 12 (T 0 21) - 48), T 0 21 + (n : Int))) 1 (T 12 (T 0 21) - 48) (fun i hi => by
          have hi0 : i = 0 := by omega
          subst hi0
          unfold f_X6_numberHere_l22
          dsimp only
          rw [a2, show T 0 21 + ((0 : Nat) : Int) = T 0 21 by omega, if_pos (ltb_t lt (by omega) (by omega)), if_pos (by omega), e0, if_pos rfl, if_neg (by decide), show T 0 21 + 1 = T 0 21 + ((0 + 1 : Nat) : Int) by omega, show (0 : Int) * 10 + (T 12 (T 0 21) - 48) = T 12 (T 0 21) - 48 by omega]) (by
          unfold f_X6_numberHere_l22
          dsimp only
          rw [a2, if_neg (nl (by omega) (by omega) (by omega)), if_neg (by decide)]) (n := FU) (by rw [FU_eq]; omega)
        rw [if_pos rfl, show T 0 21 + ((0 : Nat) : Int) = T 0 21 by omega] at g
        rw [g]
        rfl
      · have d1 := c3 (T 0 21 + 1) (by omega) (by omega)
        have r1 := hr.2.2.2 (T 0 21 + 1) (by omega) (by omega)
        have e1 : S 3 (T 0 21 + 1) = T 12 (T 0 21 + 1) := by rw [r1.2.2, sgn_id (by omega)]
        rw [if_neg q]
        have g := lp_seq (step := f_X6_numberHere_l22 S) (fun n => ((if n = 0 then 0 else if n = 1 then T 12 (T 0 21) - 48 else 10 * (T 12 (T 0 21) - 48) + (T 12 (T 0 21 + 1) - 48)), T 0 21 + (n : Int))) 2 (10 * (T 12 (T 0 21) - 48) + (T 12 (T 0 21 + 1) - 48)) (fun i hi => by
          unfold f_X6_numberHere_l22
          dsimp only
          rw [a2, if_pos (ltb_t (by omega) (by omega) (by omega)), if_pos (by omega)]
          rcases (show i = 0 ∨ i = 1 by omega) with z | z
          · subst z
            rw [show T 0 21 + ((0 : Nat) : Int) = T 0 21 by omega, e0, if_pos rfl, if_neg (by decide), if_pos (by decide), show T 0 21 + 1 = T 0 21 + ((0 + 1 : Nat) : Int) by omega, show (0 : Int) * 10 + (T 12 (T 0 21) - 48) = T 12 (T 0 21) - 48 by omega]
          · subst z
            rw [show T 0 21 + ((1 : Nat) : Int) = T 0 21 + 1 by omega, e1, if_neg (by decide), if_pos rfl, if_neg (by decide), if_neg (by decide), show T 0 21 + 1 + 1 = T 0 21 + ((1 + 1 : Nat) : Int) by omega, show (T 12 (T 0 21) - 48) * 10 + (T 12 (T 0 21 + 1) - 48) = 10 * (T 12 (T 0 21) - 48) + (T 12 (T 0 21 + 1) - 48) by omega]) (by
          unfold f_X6_numberHere_l22
          dsimp only
          rw [a2, if_neg (nl (by omega) (by omega) (by omega)), if_neg (by decide), if_neg (by decide)]) (n := FU) (by rw [FU_eq]; omega)
        rw [if_pos rfl, show T 0 21 + ((0 : Nat) : Int) = T 0 21 by omega] at g
        rw [g]
        rfl
    · rw [c2]
      unfold nvl
      by_cases q : T 0 19 = T 0 21 + 1
      · rw [if_pos q]; omega
      · rw [if_neg q]
        have d1 := c3 (T 0 21 + 1) (by omega) (by omega)
        omega
theorem C_fail {S : Mem} (h : S 1 4 = -1) : f_X6_fail S = some (wr S 1 4 (S 1 2)) := by
  unfold f_X6_fail
  rw [if_pos (eqb_t h)]
  rfl
theorem N_bad {S T : Mem} (hr : RT S T) (h : RD S T) (ok1 : S 1 4 = -1) (ok2 : T 0 23 = 0) {lo hi : Int} (hl : 0 ≤ lo ∧ lo ≤ 1) (q : T 0 20 ≠ 2) : f_X6_readNumber S lo hi = some (lo, wr S 1 4 (S 1 2)) ∧ f_X8_needsNumber T lo hi = some (lo, wr T 0 23 1) := by
  obtain ⟨a1, a2, a3, a4, a5, a6, a7⟩ := h
  have l5 := hr.2.2.1
  have tb : 0 ≤ T 0 20 ∧ T 0 20 ≤ 4 := by
    rcases a7 with ⟨b1, b2, b3⟩ | ⟨b1, b2, b3, b4, b5⟩ <;> omega
  have ev : (if eqb (S 1 1) 2 = true then ((f_X6_numberHere S).bind fun r13 => some r13) else (some (-1))) = some (-1) := by
    rcases a7 with ⟨b1, b2, b3⟩ | ⟨b1, b2, b3, b4, b5⟩
    · rw [if_pos (eqb_t b1)]
      unfold f_X6_numberHere
      rw [a1, a2, if_pos (ltb_t b3 (by omega) (by omega))]
      rfl
    · rw [if_neg (nq (by omega) (by omega) (by omega) (by omega) (by omega))]
  constructor
  · unfold f_X6_readNumber
    rw [ev, Option.bind_some, if_pos (ltb_t (by omega) (by omega) (by omega)), C_fail ok1]
    rfl
  · unfold f_X8_needsNumber
    rw [if_pos (eqb_t ok2), if_neg (nq q (by omega) (by omega) (by omega) (by omega))]
    rfl
theorem N_both {S T : Mem} (hr : RT S T) (h : RD S T) (ok1 : S 1 4 = -1) (ok2 : T 0 23 = 0) {lo hi : Int} (hl : 0 ≤ lo ∧ lo ≤ 1) (hh : 0 ≤ hi ∧ hi ≤ 99) : (∃ v S' T', f_X6_readNumber S lo hi = some (v, S') ∧ f_X8_needsNumber T lo hi = some (v, T') ∧ lo ≤ v ∧ v ≤ hi ∧ RD S' T' ∧ (∀ k, k ≠ 1 → S' k = S k) ∧ S' 1 4 = -1 ∧ Fr0 T T' ∧ T 0 21 ≤ T' 0 21) ∨ (f_X6_readNumber S lo hi = some (lo, wr S 1 4 (S 1 2)) ∧ f_X8_needsNumber T lo hi = some (lo, wr T 0 23 1)) := by
  have hd := h
  obtain ⟨a1, a2, a3, a4, a5, a6, a7⟩ := h
  have l5 := hr.2.2.1
  by_cases q : T 0 20 = 2
  · unfold f_X6_readNumber f_X8_needsNumber
    rw [if_pos (eqb_t ok2)]
    obtain ⟨n1, n2, n3, n4⟩ := C_number hr hd q
    rw [if_pos (eqb_t n1), n2, Option.bind_some, Option.bind_some, if_pos (eqb_t q), M_inL ⟨by omega, by omega⟩ (by omega) (by omega), Option.bind_some]
    by_cases q1 : T 0 22 < lo
    · right
      rw [if_pos (ltb_t q1 (by omega) (by omega)), C_fail ok1, Option.bind_some, if_neg (show ¬ (lo ≤ T 0 22 ∧ T 0 22 ≤ hi) by omega), if_pos e00]
      exact ⟨rfl, rfl⟩
    · rw [if_neg (nl (by omega) (by omega) (by omega))]
      by_cases q2 : hi < T 0 22
      · right
        rw [if_pos (ltb_t q2 (by omega) (by omega)), C_fail ok1, Option.bind_some, if_neg (show ¬ (lo ≤ T 0 22 ∧ T 0 22 ≤ hi) by omega), if_pos e00]
        exact ⟨rfl, rfl⟩
      · left
        obtain ⟨S', T', g1, g2, g3, g4, g5, g6, g7⟩ := hd.goes hr (by omega)
        rw [if_neg (nl (by omega) (by omega) (by omega)), g1, Option.bind_some, if_pos (show lo ≤ T 0 22 ∧ T 0 22 ≤ hi by omega), if_neg e10, g2, Option.bind_some]
        exact ⟨_, _, _, rfl, rfl, by omega, by omega, g3, g4, by rw [g5]; exact ok1, g6, by omega⟩
  · exact Or.inr (N_bad hr hd ok1 ok2 hl q)
