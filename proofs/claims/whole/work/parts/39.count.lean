/-! ===== counts ===== -/
def nE (B : Int → Int) : Int := sumN (fun b => if bcnt B b = 0 then 1 else 0) (B 2).toNat
theorem M_greatest {N : Int} {T : Mem} (hN : N ≤ 9) (hw : WF N (T 1)) : ∃ g, f_X8_greatestValue T = some g ∧ ((g = -2 ∧ ∀ c, 0 ≤ c → c < T 1 2 → bcnt (T 1) c = 0) ∨ ∃ r, 0 ≤ r ∧ r < T 1 2 ∧ 0 < bcnt (T 1) r ∧ g = bval (T 1) r 0 ∧ (∀ c, 0 ≤ c → c < T 1 2 → 0 < bcnt (T 1) c → bval (T 1) c 0 ≤ g) ∧ ∀ c, 0 ≤ c → c < r → 0 < bcnt (T 1) c → bval (T 1) c 0 < g) := by
  have n0 := hw.2.2.2.2.1
  have n1 := hw.2.2.2.2.2.1
  let P : Int → Int → Prop := fun n g => (g = -2 ∧ ∀ c, 0 ≤ c → c < n → bcnt (T 1) c = 0) ∨ ∃ r, 0 ≤ r ∧ r < n ∧ 0 < bcnt (T 1) r ∧ g = bval (T 1) r 0 ∧ (∀ c, 0 ≤ c → c < n → 0 < bcnt (T 1) c → bval (T 1) c 0 ≤ g) ∧ ∀ c, 0 ≤ c → c < r → 0 < bcnt (T 1) c → bval (T 1) c 0 < g
  have bnd : ∀ n g : Int, n ≤ T 1 2 → P n g → -2 ≤ g ∧ g ≤ 99 := fun n g hn hp => by
    rcases hp with ⟨e, _⟩ | ⟨r, r0, r1, r2, r3, _⟩
    · omega
    · have := bval_bnd hw (i := 0) r0 (show r < T 1 2 by omega) (by decide) r2
      omega
  have skip : ∀ (i : Nat) (g : Int), bcnt (T 1) i = 0 → P i g → P ((i : Int) + 1) g := fun i g hz hp => by
    rcases hp with ⟨e, h⟩ | ⟨r, r0, r1, r2, r3, r4, r5⟩
    · refine Or.inl ⟨e, fun c c0 c1 => ?_⟩
      by_cases hc : c = i
      · rw [hc]; exact hz
      · exact h c c0 (by omega)
    · refine Or.inr ⟨r, r0, by omega, r2, r3, fun c c0 c1 c2 => ?_, r5⟩
      by_cases hc : c = i
      · rw [hc] at c2; omega
      · exact r4 c c0 (by omega) c2
  have lose : ∀ (i : Nat) (g : Int), ¬ g < bval (T 1) i 0 → g ≠ -2 → P i g → P ((i : Int) + 1) g := fun i g hl hg hp => by
    rcases hp with ⟨e, h⟩ | ⟨r, r0, r1, r2, r3, r4, r5⟩
    · omega
    · refine Or.inr ⟨r, r0, by omega, r2, r3, fun c c0 c1 c2 => ?_, r5⟩
      by_cases hc : c = i
      · rw [hc]; omega
      · exact r4 c c0 (by omega) c2
  have win : ∀ (i : Nat) (g : Int), 0 < bcnt (T 1) i → g < bval (T 1) i 0 → P i g → P ((i : Int) + 1) (bval (T 1) i 0) := fun i g hz hl hp => by
    refine Or.inr ⟨i, by omega, by omega, hz, rfl, fun c c0 c1 c2 => ?_, fun c c0 c1 c2 => ?_⟩
    · by_cases hc : c = i
      · rw [hc]; exact Int.le_refl _
      · rcases hp with ⟨e, h⟩ | ⟨r, r0, r1, r2, r3, r4, r5⟩
        · have := h c c0 (by omega); omega
        · have := r4 c c0 (by omega) c2; omega
    · rcases hp with ⟨e, h⟩ | ⟨r, r0, r1, r2, r3, r4, r5⟩
      · have := h c c0 (by omega); omega
      · have := r4 c c0 (by omega) c2; omega
  have step : ∀ (i : Nat) (g : Int), i < (T 1 2).toNat → P i g → ∃ g', f_X8_greatestValue_l5 T (g, (i : Int)) = some (.inl (g', (i : Int) + 1)) ∧ P ((i : Int) + 1) g' := by
    intro i g hi hp
    have gb := bnd i g (by omega) hp
    have cb := bcnt_bnd hw (b := i) (by omega) (by omega)
    unfold f_X8_greatestValue_l5
    dsimp only
    rw [M_many, Option.bind_some, if_pos (ltb_t (by omega) (by omega) (by omega)), M_valuesOf (by omega) (by omega), Option.bind_some]
    by_cases hz : 0 < bcnt (T 1) i
    · have vb := bval_bnd hw (b := i) (i := 0) (by omega) (by omega) (by decide) hz
      rw [if_pos (ltb_t hz (by omega) (by omega)), M_valueAt (by omega) (by omega) (by decide) (by decide), Option.bind_some]
      by_cases hl : g < bval (T 1) i 0
      · rw [if_pos (ltb_t hl (by omega) (by omega)), Option.bind_some]
        exact ⟨_, rfl, win i g hz hl hp⟩
      · rw [if_neg (nl (x := g) (y := bval (T 1) i 0) (by omega) (by omega) (by omega))]
        exact ⟨_, rfl, lose i g hl (by omega) hp⟩
    · rw [if_neg (nl (x := 0) (y := bcnt (T 1) i) (by omega) (by omega) (by omega))]
      exact ⟨_, rfl, skip i g (by omega) hp⟩
  have last : ∀ g : Int, f_X8_greatestValue_l5 T (g, (((T 1 2).toNat : Nat) : Int)) = some (.inr g) := by
    intro g
    unfold f_X8_greatestValue_l5
    dsimp only
    rw [M_many, Option.bind_some, if_neg (nl (by omega) (by omega) (by omega))]
  obtain ⟨g, g1, g2⟩ := lp_rel (step := f_X8_greatestValue_l5 T) (fun i (t : Int × Int) => t.2 = i ∧ P i t.1) (fun g => P (T 1 2) g) (T 1 2).toNat (by
    intro i t hi ⟨e0, e1⟩
    obtain ⟨t1, t2⟩ := t
    dsimp only at e0 e1
    subst e0
    obtain ⟨g', a, b⟩ := step i t1 hi e1
    exact ⟨_, a, rfl, b⟩) (by
    intro t ⟨e0, e1⟩
    obtain ⟨t1, t2⟩ := t
    dsimp only at e0 e1
    subst e0
    refine ⟨t1, last t1, ?_⟩
    rw [show (((T 1 2).toNat : Nat) : Int) = T 1 2 by omega] at e1
    exact e1) (n := FU) (by rw [FU_eq]; omega) (s := ((-2), 0)) ⟨rfl, Or.inl ⟨rfl, fun c c0 c1 => by omega⟩⟩
  refine ⟨g, ?_, g2⟩
  unfold f_X8_greatestValue
  rw [g1]
  rfl
theorem C_without {N : Int} {B : Int → Int} {S : Mem} {q : Nat} (hN : N ≤ 9) (hw : WF N B) (hR : RB S q B) : f_X1_biddersWithoutValues S q = some (nE B) := by
  have n0 := hw.2.2.2.2.1
  have n1 := hw.2.2.2.2.2.1
  unfold f_X1_biddersWithoutValues
  rw [lp_sum (fun b => if bcnt B b = 0 then 1 else 0) (B 2).toNat (fun x i hi => by
    have cb := bcnt_bnd hw (b := i) (by omega) (by omega)
    unfold f_X1_biddersWithoutValues_l4
    dsimp only
    rw [hR.2.2.1, if_pos (ltb_t (by omega) (by omega) (by omega)), if_pos (by omega), hR.2.2.2.2.1 i (by omega) (by omega)]
    by_cases h : bcnt B i = 0
    · rw [if_pos (eqb_t h), if_pos h]
      rfl
    · rw [if_neg (nq h (by omega) (by omega) (by omega) (by omega)), if_neg h, Int.add_zero]
      rfl) (fun x => by
    unfold f_X1_biddersWithoutValues_l4
    dsimp only
    rw [hR.2.2.1, if_neg (nl (by omega) (by omega) (by omega))]) (by omega)]
  rfl
theorem M_withoutV {N : Int} {T : Mem} (hN : N ≤ 9) (hw : WF N (T 1)) : f_X8_withoutValues T = some (nE (T 1)) := by
  have n0 := hw.2.2.2.2.1
  have n1 := hw.2.2.2.2.2.1
  unfold f_X8_withoutValues
  rw [lp_sum (fun b => if bcnt (T 1) b = 0 then 1 else 0) (T 1 2).toNat (fun x i hi => by
    have cb := bcnt_bnd hw (b := i) (by omega) (by omega)
    unfold f_X8_withoutValues_l4
    dsimp only
    rw [M_many, Option.bind_some, if_pos (ltb_t (by omega) (by omega) (by omega)), M_valuesOf (by omega) (by omega), Option.bind_some]
    by_cases h : bcnt (T 1) i = 0
    · rw [if_pos (eqb_t h), if_pos h]
      rfl
    · rw [if_neg (nq h (by omega) (by omega) (by omega) (by omega)), if_neg h, Int.add_zero]
      rfl) (fun x => by
    unfold f_X8_withoutValues_l4
    dsimp only
    rw [M_many, Option.bind_some, if_neg (nl (by omega) (by omega) (by omega))]) (by omega)]
  rfl
theorem M_valuesInAll {N : Int} {T : Mem} (hN : N ≤ 9) (hw : WF N (T 1)) : f_X8_valuesInAll T = some (sumN (fun b => bcnt (T 1) b) (T 1 2).toNat) := by
  have n0 := hw.2.2.2.2.1
  have n1 := hw.2.2.2.2.2.1
  unfold f_X8_valuesInAll
  rw [lp_sum (fun b => bcnt (T 1) b) (T 1 2).toNat (fun x i hi => by
    unfold f_X8_valuesInAll_l4
    dsimp only
    rw [M_many, Option.bind_some, if_pos (ltb_t (by omega) (by omega) (by omega)), M_valuesOf (by omega) (by omega)]
    rfl) (fun x => by
    unfold f_X8_valuesInAll_l4
    dsimp only
    rw [M_many, Option.bind_some, if_neg (nl (by omega) (by omega) (by omega))]) (by omega)]
  rfl
theorem Q_count {S T : Mem} {w : Int} (h : Rel S T) (hr : R32 w) : ∃ r S', f_X7_count S w = some (r, S') ∧ f_X8_count T w = some r ∧ Rel S' T := by
  have n0 := h.1.2.2.2.2.1
  have n1 := h.1.2.2.2.2.2.1
  obtain ⟨b0, b1, b2, _⟩ := h.2.1
  unfold f_X7_count f_X8_count
  by_cases h9 : 0 ≤ w ∧ w ≤ 9
  · rcases (show w = 0 ∨ w = 1 ∨ w = 2 ∨ w = 3 ∨ w = 4 ∨ w = 5 ∨ w = 6 ∨ w = 7 ∨ w = 8 ∨ w = 9 by omega) with e | e | e | e | e | e | e | e | e | e <;> subst e
    · rw [if_pos e00, if_pos e00, M_many, b2]
      exact ⟨_, _, rfl, rfl, h⟩
    · rw [if_neg n10, if_pos n11, if_neg n10, if_pos n11, b0, if_pos (by decide)]
      exact ⟨_, _, rfl, rfl, h⟩
    · rw [if_neg n20, if_neg n21, if_pos n22, if_neg n20, if_neg n21, if_pos n22, b1, if_pos (by decide)]
      exact ⟨_, _, rfl, rfl, h⟩
    · rw [if_neg n30, if_neg n31, if_neg n32, if_pos n33, if_neg n30, if_neg n31, if_neg n32, if_pos n33, C_valuesOfAll (by decide) h.1 h.2.1, M_valuesInAll (by decide) h.1]
      exact ⟨_, _, rfl, rfl, h⟩
    · rw [if_neg n40, if_neg n41, if_neg n42, if_neg n43, if_pos n44, if_neg n40, if_neg n41, if_neg n42, if_neg n43, if_pos n44, h.2.2.2.2.1.1]
      exact ⟨_, _, rfl, rfl, h⟩
    · rw [if_neg n50, if_neg n51, if_neg n52, if_neg n53, if_neg n54, if_pos n55, if_neg n50, if_neg n51, if_neg n52, if_neg n53, if_neg n54, if_pos n55, h.2.2.2.2.2.1.1]
      exact ⟨_, _, rfl, rfl, h⟩
    · rw [if_neg n60, if_neg n61, if_neg n62, if_neg n63, if_neg n64, if_neg n65, if_pos n66, if_neg n60, if_neg n61, if_neg n62, if_neg n63, if_neg n64, if_neg n65, if_pos n66, C_valuesOfAll (by decide) h.1 h.2.1, Option.bind_some]
      obtain ⟨g, g1, g2⟩ := M_greatest (by decide) h.1
      have sb := sumN_bnd (g := fun b => bcnt (T 1) b) (lo := 0) (hi := 8) (T 1 2).toNat (fun i hi => by
        have := bcnt_bnd h.1 (b := i) (by omega) (by omega)
        omega)
      rw [g1, Option.bind_some]
      rcases g2 with ⟨e, hz⟩ | ⟨r, r0, r1, r2, r3, r4, r5⟩
      · have ez : sumN (fun b => bcnt (T 1) b) (T 1 2).toNat = 0 := by
          rw [sumN_congr (h := fun _ => 0) _ (fun i hi => hz i (by omega) (by omega))]
          exact sumN_zero _
        rw [if_pos (eqb_t ez), e]
        exact ⟨_, _, rfl, rfl, h⟩
      · have ge := sumN_ge (g := fun b => bcnt (T 1) b) (c := r.toNat) (T 1 2).toNat (by omega) (fun i hi => (bcnt_bnd h.1 (by omega) (by omega)).2.2.1)
        rw [show ((r.toNat : Nat) : Int) = r by omega] at ge
        rw [if_neg (nq (show sumN (fun b => bcnt (T 1) b) (T 1 2).toNat ≠ 0 by omega) (by omega) (by omega) (by omega) (by omega))]
        obtain ⟨o, S', c1, c2, c3⟩ := C_rankedOwner (q := 5) (a := 0) (by decide) h.1 h.2.1 (by decide) (by decide)
        have hR : Rel S' T := h.ag (AgC.fp (Or.inl rfl) c2) AgM.rf
        have hL0 : PL (T 1) (fun _ => 0) (bcnt (T 1)) := fun b x y => by
          have := bcnt_bnd h.1 x y
          exact ⟨Int.le_refl _, this.2.2.1, Int.le_refl _⟩
        have hL := LL_take (π' := fun b => if b = r then 0 + 1 else 0) h.1 hL0 r0 r1 r2 (fun b x y z => by rw [← r3]; exact r4 b x y z) (fun b x y z => by rw [← r3]; exact r5 b x y z) (fun b => rfl)
        unfold f_X1_rankedValue
        rw [c1, Option.bind_some]
        dsimp only
        rw [hL, show (0 : Int).toNat = 0 from rfl] at c3
        rcases c3 with ⟨_, e2⟩ | ⟨o1, o2, o3, o4, e2⟩
        · exact absurd e2 (by simp)
        · have e3 : (r, bval (T 1) r 0) = (o, bval (T 1) o (S' (5 + 4) o)) := Option.some.inj e2
          have e4 : bval (T 1) o (S' (5 + 4) o) = g := by rw [r3]; exact (congrArg Prod.snd e3).symm
          rw [if_neg (nq (show o ≠ -1 by omega) (by omega) (by omega) (by omega) (by omega)), if_pos (show 0 ≤ o ∧ o < 9 by omega), C_valueAt (q := 5) (by decide) h.1 hR.2.1 o1 o2 o3 o4, e4]
          exact ⟨_, _, rfl, rfl, hR⟩
    · rw [if_neg n70, if_neg n71, if_neg n72, if_neg n73, if_neg n74, if_neg n75, if_neg n76, if_pos n77, if_neg n70, if_neg n71, if_neg n72, if_neg n73, if_neg n74, if_neg n75, if_neg n76, if_pos n77, if_pos (by decide), h.2.2.2.1.1]
      exact ⟨_, _, rfl, rfl, h⟩
    · rw [if_neg n80, if_neg n81, if_neg n82, if_neg n83, if_neg n84, if_neg n85, if_neg n86, if_neg n87, if_pos n88, if_neg n80, if_neg n81, if_neg n82, if_neg n83, if_neg n84, if_neg n85, if_neg n86, if_neg n87, if_pos n88, C_without (by decide) h.1 h.2.1, M_withoutV (by decide) h.1]
      exact ⟨_, _, rfl, rfl, h⟩
    · rw [if_neg n90, if_neg n91, if_neg n92, if_neg n93, if_neg n94, if_neg n95, if_neg n96, if_neg n97, if_neg n98, if_pos n99, if_neg n90, if_neg n91, if_neg n92, if_neg n93, if_neg n94, if_neg n95, if_neg n96, if_neg n97, if_neg n98, if_pos n99, C_usableByAll (by decide) h.1 h.2.1, M_wantedAt (by decide) h.1 (by decide) (by decide)]
      exact ⟨_, _, rfl, rfl, h⟩
  · rw [if_neg (hr.ne (v := 0) (by omega) (by decide) (by decide)), if_neg (hr.ne (v := 1) (by omega) (by decide) (by decide)), if_neg (hr.ne (v := 2) (by omega) (by decide) (by decide)), if_neg (hr.ne (v := 3) (by omega) (by decide) (by decide)), if_neg (hr.ne (v := 4) (by omega) (by decide) (by decide)), if_neg (hr.ne (v := 5) (by omega) (by decide) (by decide)), if_neg (hr.ne (v := 6) (by omega) (by decide) (by decide)), if_neg (hr.ne (v := 7) (by omega) (by decide) (by decide)), if_neg (hr.ne (v := 8) (by omega) (by decide) (by decide)), if_neg (hr.ne (v := 9) (by omega) (by decide) (by decide))]
    rw [if_neg (hr.ne (v := 0) (by omega) (by decide) (by decide)), if_neg (hr.ne (v := 1) (by omega) (by decide) (by decide)), if_neg (hr.ne (v := 2) (by omega) (by decide) (by decide)), if_neg (hr.ne (v := 3) (by omega) (by decide) (by decide)), if_neg (hr.ne (v := 4) (by omega) (by decide) (by decide)), if_neg (hr.ne (v := 5) (by omega) (by decide) (by decide)), if_neg (hr.ne (v := 6) (by omega) (by decide) (by decide)), if_neg (hr.ne (v := 7) (by omega) (by decide) (by decide)), if_neg (hr.ne (v := 8) (by omega) (by decide) (by decide)), if_neg (hr.ne (v := 9) (by omega) (by decide) (by decide))]
    exact ⟨_, _, rfl, rfl, h⟩
