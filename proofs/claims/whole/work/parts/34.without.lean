/-! ===== what were, if one were not there ===== -/
theorem M_back {T : Mem} {B : Int → Int} (h3 : ∀ j, 0 ≤ j → j < 126 → T 3 j = B j) (h1 : ∀ j, (j < 0 ∨ 126 ≤ j) → T 1 j = B j) : ∃ T', f_X8_takesBack T = some T' ∧ T' 1 = B ∧ Fr1 T T' := by
  refine ⟨_, M_takesBack T, ?_, fun k hk => fl_ne hk⟩
  rw [fl_row]
  funext j
  by_cases h : 0 ≤ j ∧ j < 0 + ((126 : Nat) : Int)
  · rw [if_pos h]
    exact h3 j h.1 (by omega)
  · rw [if_neg h]
    exact h1 j (by omega)
/-- a trial of the reference: aside, another row, back -/
def Asd (T T' : Mem) (B' : Int → Int) : Prop := T' 1 = B' ∧ (∀ j, 0 ≤ j → j < 126 → T' 3 j = T 1 j) ∧ (∀ j, (j < 0 ∨ 126 ≤ j) → B' j = T 1 j) ∧ T' 4 = T 4 ∧ T' 12 = T 12 ∧ T' 13 = T 13 ∧ T' 0 5 = T 0 5 ∧ T' 0 17 = T 0 17
theorem Asd.put (T : Mem) : Asd T (fl T 3 0 126 (fun j => T 1 j)) (T 1) := by
  refine ⟨fl_ne (by decide), fun j j0 j1 => ?_, fun _ _ => rfl, fl_ne (by decide), fl_ne (by decide), fl_ne (by decide), by rw [fl_ne (by decide)], by rw [fl_ne (by decide)]⟩
  rw [fl_in j0 (by omega)]
theorem Asd.row {T T1 T2 : Mem} {B' B'' : Int → Int} (h : Asd T T1 B') (g : T2 1 = B'') (f : Fr1 T1 T2) (o : ∀ j, (j < 0 ∨ 126 ≤ j) → B'' j = B' j) : Asd T T2 B'' := by
  obtain ⟨a1, a2, a3, a4, a5, a6, a7, a8⟩ := h
  exact ⟨g, fun j j0 j1 => by rw [f 3 (by decide)]; exact a2 j j0 j1, fun j hj => by rw [o j hj]; exact a3 j hj, by rw [f 4 (by decide)]; exact a4, by rw [f 12 (by decide)]; exact a5, by rw [f 13 (by decide)]; exact a6, by rw [f 0 (by decide)]; exact a7, by rw [f 0 (by decide)]; exact a8⟩
theorem Asd.fr {T T1 T2 : Mem} {B' : Int → Int} (h : Asd T T1 B') (f : FrR T1 T2) : Asd T T2 B' := by
  obtain ⟨a1, a2, a3, a4, a5, a6, a7, a8⟩ := h
  obtain ⟨g1, g4, g12, g13, g5, g17⟩ := AgM.fr f
  exact ⟨by rw [g1]; exact a1, fun j j0 j1 => by rw [f.1 3 (by decide) (by decide) (by decide) (by decide) (by decide) (by decide)]; exact a2 j j0 j1, a3, by rw [g4]; exact a4, by rw [g12]; exact a5, by rw [g13]; exact a6, by rw [g5]; exact a7, by rw [g17]; exact a8⟩
theorem Asd.ft {T T1 T2 : Mem} {B' : Int → Int} (h : Asd T T1 B') (f : FrT T1 T2) : Asd T T2 B' := by
  obtain ⟨a1, a2, a3, a4, a5, a6, a7, a8⟩ := h
  obtain ⟨g1, g4, g12, g13, g5, g17⟩ := AgM.ft f
  exact ⟨by rw [g1]; exact a1, fun j j0 j1 => by rw [f 3 (by decide)]; exact a2 j j0 j1, a3, by rw [g4]; exact a4, by rw [g12]; exact a5, by rw [g13]; exact a6, by rw [g5]; exact a7, by rw [g17]; exact a8⟩
theorem Asd.back {T T1 : Mem} {B' : Int → Int} (h : Asd T T1 B') : ∃ T', f_X8_takesBack T1 = some T' ∧ AgM T T' ∧ Fr1 T1 T' := by
  obtain ⟨a1, a2, a3, a4, a5, a6, a7, a8⟩ := h
  obtain ⟨T', b1, b2, b3⟩ := M_back (T := T1) (B := T 1) a2 (fun j hj => by rw [a1]; exact a3 j hj)
  exact ⟨T', b1, ⟨b2, by rw [b3 4 (by decide)]; exact a4, by rw [b3 12 (by decide)]; exact a5, by rw [b3 13 (by decide)]; exact a6, by rw [b3 0 (by decide)]; exact a7, by rw [b3 0 (by decide)]; exact a8⟩, b3⟩
theorem goes_out {B : Int → Int} {a j : Int} (h1 : 0 ≤ a) (n : B 2 ≤ 9) (h : j < 0 ∨ 126 ≤ j) : goesR B a j = B j := by
  unfold goesR
  rw [if_neg (by omega), if_neg (by omega)]
theorem C_supposeWithout {S T : Mem} {a : Int} (h : Rel S T) (h1 : 0 ≤ a) (h2 : a < T 1 2) : ∃ S2, f_X7_supposeWithout S a = some S2 ∧ DC S2 18 (goesR (T 1) a) ∧ AgC S S2 := by
  obtain ⟨S1, a1, a2, a3⟩ := C_takeFrom (th := 19) (q := 5) (by omega) (by decide) h.1 h.2.1
  obtain ⟨S2, b1, b2, b3⟩ := C_removeBidder (q := 19) (by decide) h.1 a2 h1 h2
  obtain ⟨S3, c1, c2, c3⟩ := DC.of (S := S2) (α := 18) (by decide) (goes_WF h.1 h1 h2) b2
  refine ⟨S3, ?_, c2, ((AgC.fb a3).tr (AgC.fb b3)).tr (AgC.fc c3)⟩
  unfold f_X7_supposeWithout
  rw [a1, Option.bind_some, b1, Option.bind_some, c1]
  rfl
/-- the reference without one -/
theorem M_without {T : Mem} {a : Int} (hw : WF 8 (T 1)) (h1 : 0 ≤ a) (h2 : a < T 1 2) : ∃ T1 T2 T3, f_X8_putsAside T = some T1 ∧ f_X8_goes T1 a = some T2 ∧ f_X8_runs T2 = some T3 ∧ DM T3 (goesR (T 1) a) ∧ Asd T T3 (goesR (T 1) a) := by
  have n1 := hw.2.2.2.2.2.1
  have p := Asd.put T
  have e1 : fl T 3 0 126 (fun j => T 1 j) 1 = T 1 := p.1
  obtain ⟨T2, b1, b2, b3⟩ := M_goes (T := fl T 3 0 126 (fun j => T 1 j)) (a := a) (by rw [e1]; omega) h1 (by rw [e1]; exact h2)
  rw [e1] at b2
  obtain ⟨T3, c1, c2, c3⟩ := DM.of (T := T2) (N := 8) (by decide) (by rw [b2]; exact goes_WF hw h1 h2)
  rw [b2] at c2
  exact ⟨_, T2, T3, M_putsAside T, b1, c1, c2, (p.row b2 b3 (fun j hj => goes_out h1 (by omega) hj)).fr c3⟩
theorem M_paidBut {T : Mem} {a k : Int} (hw : WF 8 (T 1)) (h1 : 0 ≤ a) (h2 : a < T 1 2) (h3 : 0 ≤ k ∧ k ≤ 3) : ∃ T', f_X8_paidBut T a k = some (bpaid (goesR (T 1) a) k, T') ∧ AgM T T' := by
  obtain ⟨T1, T2, T3, a1, a2, a3, a4, a5⟩ := M_without hw h1 h2
  obtain ⟨T4, b1, b2⟩ := M_paidAll (by decide) (goes_WF hw h1 h2) a4 h3.1 h3.2
  obtain ⟨T5, c1, c2, _⟩ := (a5.ft b2).back
  refine ⟨T5, ?_, c2⟩
  unfold f_X8_paidBut
  rw [a1, Option.bind_some, a2, Option.bind_some, a3, Option.bind_some, b1, Option.bind_some]
  dsimp only
  rw [c1]
  rfl
theorem Q_hasTwo {S T : Mem} {a c : Int} (h : Rel S T) (ha : R32 a) (hc : R32 c) : f_X1_hasTwo S 5 a c = some (if (0 ≤ a ∧ a < T 1 2) ∧ (0 ≤ c ∧ c < T 1 2) ∧ a ≠ c then 1 else 0) := by
  unfold f_X1_hasTwo
  rw [(Q_has h ha).1, (Q_has h hc).1]
  simp only [Option.bind_some]
  by_cases h1 : 0 ≤ a ∧ a < T 1 2
  · rw [if_pos h1, if_neg e10]
    by_cases h2 : 0 ≤ c ∧ c < T 1 2
    · rw [if_pos h2, if_neg e10]
      by_cases h3 : a = c
      · rw [if_pos (eqb_t h3), if_neg (fun z => z.2.2 h3)]
      · rw [if_neg (nq h3 ha.1 ha.2 hc.1 hc.2), if_pos ⟨h1, h2, h3⟩]
    · rw [if_neg h2, if_pos e00, if_neg (fun z => h2 z.2.1)]
  · rw [if_neg h1, if_pos e00, if_neg (fun z => h1 z.1)]
theorem Q_unitsWithout {S T : Mem} {a c : Int} (h : Rel S T) (ha : R32 a) (hc : R32 c) : ∃ r S' T', f_X7_unitsWithout S a c = some (r, S') ∧ f_X8_unitsWithout T a c = some (r, T') ∧ Rel S' T' := by
  have n1 := h.1.2.2.2.2.2.1
  unfold f_X7_unitsWithout f_X8_unitsWithout
  rw [Q_hasTwo h ha hc, (Q_has h ha).2, (Q_has h hc).2]
  simp only [Option.bind_some]
  by_cases h1 : 0 ≤ a ∧ a < T 1 2
  · by_cases h2 : 0 ≤ c ∧ c < T 1 2
    · by_cases h3 : a = c
      · rw [if_neg (show ¬ ((0 ≤ a ∧ a < T 1 2) ∧ (0 ≤ c ∧ c < T 1 2) ∧ a ≠ c) from fun z => z.2.2 h3), if_pos h1, if_neg e10, if_pos h2, if_neg e10, if_pos (eqb_t h3), if_pos e00]
        exact ⟨_, _, _, rfl, rfl, h⟩
      · rw [if_pos (show (0 ≤ a ∧ a < T 1 2) ∧ (0 ≤ c ∧ c < T 1 2) ∧ a ≠ c from ⟨h1, h2, h3⟩), if_pos h1, if_neg e10, if_pos h2, if_neg e10, if_neg (nq h3 ha.1 ha.2 hc.1 hc.2), if_neg e10]
        obtain ⟨S2, s1, s2, s3⟩ := C_supposeWithout h h2.1 h2.2
        obtain ⟨T1, T2, T3, a1, a2, a3, a4, a5⟩ := M_without h.1 h2.1 h2.2
        obtain ⟨T5, c1, c2, c3⟩ := a5.back
        have z2 : goesR (T 1) c 2 = T 1 2 - 1 := (goes_0 h2.1).2.2
        rw [s1, Option.bind_some, a1, Option.bind_some, a2, Option.bind_some, a3, Option.bind_some, c1, Option.bind_some]
        unfold f_X7_placeWithout
        have hR : Rel S2 T5 := h.ag s3 c2
        have u5 : ∀ j, T5 5 j = T3 5 j := fun j => by rw [c3 5 (by decide)]
        by_cases hl : c < a
        · rw [if_pos (ltb_t hl hc.1 ha.2), Option.bind_some, if_pos (by omega), show S2 25 (a - 1) = hs (oc (goesR (T 1) c)) (a - 1) from s2.units (by omega) (by omega), Option.bind_some, if_pos (by omega), u5, show T3 5 (a - 1) = hs (oc (goesR (T 1) c)) (a - 1) from a4.units (by omega) (by omega)]
          exact ⟨_, _, _, rfl, rfl, hR⟩
        · rw [if_neg (nl (by omega) ha.1 hc.2), Option.bind_some, if_pos (by omega), show S2 25 a = hs (oc (goesR (T 1) c)) a from s2.units (by omega) (by omega), Option.bind_some, if_pos (by omega), u5, show T3 5 a = hs (oc (goesR (T 1) c)) a from a4.units (by omega) (by omega)]
          exact ⟨_, _, _, rfl, rfl, hR⟩
    · rw [if_neg (show ¬ ((0 ≤ a ∧ a < T 1 2) ∧ (0 ≤ c ∧ c < T 1 2) ∧ a ≠ c) from fun z => h2 z.2.1), if_pos h1, if_neg e10, if_neg h2, if_pos e00]
      exact ⟨_, _, _, rfl, rfl, h⟩
  · rw [if_neg (show ¬ ((0 ≤ a ∧ a < T 1 2) ∧ (0 ≤ c ∧ c < T 1 2) ∧ a ≠ c) from fun z => h1 z.1), if_neg h1, if_pos e00]
    exact ⟨_, _, _, rfl, rfl, h⟩
theorem Q_paidWithout {S T : Mem} {a k : Int} (h : Rel S T) (ha : R32 a) (hk : R32 k) : ∃ r S' T', f_X7_paidWithout S a k = some (r, S') ∧ f_X8_paidWithout T a k = some (r, T') ∧ Rel S' T' := by
  have hb := Q_has h ha
  unfold f_X7_paidWithout f_X8_paidWithout
  rw [hb.1, hb.2]
  simp only [Option.bind_some]
  by_cases hh : 0 ≤ a ∧ a < T 1 2
  · rw [if_pos hh, if_neg e10, if_neg e10, C_isKind hk, M_isKind hk]
    simp only [Option.bind_some]
    by_cases h3 : 0 ≤ k ∧ k ≤ 3
    · rw [if_pos h3, if_neg e10, if_neg e10]
      obtain ⟨S2, s1, s2, s3⟩ := C_supposeWithout h hh.1 hh.2
      obtain ⟨S3, u1, u2⟩ := C_paidByAll (by decide) (goes_WF h.1 hh.1 hh.2) s2 h3.1 h3.2
      obtain ⟨T2, t1, t2⟩ := M_paidBut h.1 hh.1 hh.2 h3
      rw [s1, Option.bind_some, u1, Option.bind_some, t1, Option.bind_some]
      exact ⟨_, _, _, rfl, rfl, h.ag (s3.tr (AgC.ps u2)) t2⟩
    · rw [if_neg h3]
      exact ⟨_, _, _, rfl, rfl, h⟩
  · rw [if_neg hh]
    exact ⟨_, _, _, rfl, rfl, h⟩
theorem Q_pivot {S T : Mem} (h : Rel S T) : ∃ r S' T', f_X7_pivot S = some (r, S') ∧ f_X8_pivot T = some (r, T') ∧ Rel S' T' := by
  have n0 := h.1.2.2.2.2.1
  have n1 := h.1.2.2.2.2.2.1
  unfold f_X7_pivot f_X8_pivot
  generalize hfu : FU = fu
  obtain ⟨r, r', g1, g2, g3⟩ := lp_sim (step := f_X7_pivot_l9) (step' := f_X8_pivot_l7) (fun s t => s.2.2.1 = t.2.2.1 ∧ 0 ≤ s.2.2.1 ∧ s.2.2.1 ≤ T 1 2 ∧ s.1 = t.1 ∧ ((s.2.2.1 = 0 ∧ s.1 = -2 ∧ s.2.1 = 1000000) ∨ (0 < s.2.2.1 ∧ 0 ≤ s.1 ∧ s.1 ≤ 9 ∧ s.2.1 = t.2.1 ∧ 0 ≤ s.2.1 ∧ s.2.1 ≤ 180000)) ∧ Rel s.2.2.2 t.2.2.2 ∧ t.2.2.2 1 = T 1) (fun s => (T 1 2 - s.2.2.1).toNat) (fun r r' => r.1 = r'.1 ∧ Rel r.2 r'.2) (by
    intro s t ⟨e, x0, x1, e2, hm, hR, ht⟩
    obtain ⟨s1, s2, i, s⟩ := s
    obtain ⟨t1, t2, i', t⟩ := t
    dsimp only at e x0 x1 e2 hm hR ht ⊢
    subst e e2
    unfold f_X7_pivot_l9 f_X8_pivot_l7
    dsimp only
    rw [M_many, Option.bind_some, ht]
    have sn : s 5 2 = T 1 2 := by rw [← ht]; exact hR.2.1.2.2.1
    by_cases hi : i < T 1 2
    · obtain ⟨S2, c1, c2, c3⟩ := C_supposeWithout hR (a := i) x0 (by rw [ht]; exact hi)
      rw [ht] at c2
      have hw2 := goes_WF h.1 x0 hi
      obtain ⟨S3, c4, c5⟩ := C_paidByAll (k := 0) (by decide) hw2 c2 (by decide) (by decide)
      obtain ⟨T2, d1, d2⟩ := M_paidBut (T := t) (k := 0) (by rw [ht]; exact h.1) x0 (by rw [ht]; exact hi) (by decide)
      rw [ht] at d1
      have pb := bpaid_bnd (k := 0) (by decide) hw2
      have hR3 : Rel S3 T2 := hR.ag (c3.tr (AgC.ps c5)) d2
      have ht2 : T2 1 = T 1 := by rw [d2.1]; exact ht
      rw [if_pos (show ltb i (s 5 2) = true by rw [sn]; exact ltb_t hi (by omega) (by omega)), if_pos (ltb_t hi (by omega) (by omega)), c1, Option.bind_some, c4, Option.bind_some, d1, Option.bind_some]
      dsimp only
      rcases hm with ⟨m0, m1, m2⟩ | ⟨m0, m1, m2, m3, m4, m5⟩
      · subst m2
        rw [if_pos (ltb_t (show bpaid (goesR (T 1) i) 0 < 1000000 by omega) (by omega) (by omega)), if_pos (ltb_t (show s1 < 0 by omega) (by omega) (by omega))]
        exact Or.inl ⟨_, _, rfl, rfl, ⟨rfl, by dsimp only; omega, by dsimp only; omega, rfl, Or.inr ⟨by dsimp only; omega, x0, by dsimp only; omega, rfl, pb.1, pb.2⟩, hR3, ht2⟩, by dsimp only; omega⟩
      · subst m3
        rw [if_neg (nl (show 0 ≤ s1 by omega) (by omega) (by omega))]
        by_cases hl : bpaid (goesR (T 1) i) 0 < s2
        · rw [if_pos (ltb_t hl (by omega) (by omega))]
          exact Or.inl ⟨_, _, rfl, rfl, ⟨rfl, by dsimp only; omega, by dsimp only; omega, rfl, Or.inr ⟨by dsimp only; omega, x0, by dsimp only; omega, rfl, pb.1, pb.2⟩, hR3, ht2⟩, by dsimp only; omega⟩
        · rw [if_neg (nl (x := bpaid (goesR (T 1) i) 0) (y := s2) (by omega) (by omega) (by omega))]
          exact Or.inl ⟨_, _, rfl, rfl, ⟨rfl, by dsimp only; omega, by dsimp only; omega, rfl, Or.inr ⟨by dsimp only; omega, m1, m2, rfl, m4, m5⟩, hR3, ht2⟩, by dsimp only; omega⟩
    · have ql := nl (x := i) (y := T 1 2) (by omega) (by omega) (by omega)
      rw [if_neg (show ¬ ltb i (s 5 2) = true by rw [sn]; exact ql), if_neg ql]
      exact Or.inr ⟨_, _, rfl, rfl, rfl, hR⟩) fu ((-2), 1000000, 0, S) ((-2), 0, 0, T) ⟨rfl, by dsimp only; omega, n0, rfl, Or.inl ⟨rfl, rfl, rfl⟩, h, rfl⟩ (by dsimp only; rw [← hfu, FU_eq]; omega)
  rw [g1, g2, Option.bind_some, Option.bind_some]
  refine ⟨r.1, r.2, r'.2, rfl, ?_, g3.2⟩
  rw [g3.1]
/-! ===== telling fewer values ===== -/
theorem tel_eq {B : Int → Int} {b n : Int} (h1 : 0 ≤ b) : (wrR B (3 + 10 * b + 1) n) 0 = B 0 ∧ (wrR B (3 + 10 * b + 1) n) 1 = B 1 ∧ (wrR B (3 + 10 * b + 1) n) 2 = B 2 ∧ (∀ c, 0 ≤ c → bcap (wrR B (3 + 10 * b + 1) n) c = bcap B c ∧ bcnt (wrR B (3 + 10 * b + 1) n) c = if c = b then n else bcnt B c) ∧ ∀ c i, 0 ≤ c → 0 ≤ i → i < 8 → bval (wrR B (3 + 10 * b + 1) n) c i = bval B c i := by
  refine ⟨wrR_ne (by omega), wrR_ne (by omega), wrR_ne (by omega), fun c c0 => ⟨wrR_ne (by omega), ?_⟩, fun c i c0 i0 i1 => wrR_ne (by omega)⟩
  by_cases h : c = b
  · subst h
    rw [if_pos rfl]
    exact wrR_eq _ _ _
  · rw [if_neg h]
    exact wrR_ne (by omega)
theorem tel_WF {N : Int} {B : Int → Int} {b n : Int} (hw : WF N B) (h1 : 0 ≤ b) (h2 : b < B 2) (hn : 0 ≤ n ∧ n ≤ bcnt B b) : WF N (wrR B (3 + 10 * b + 1) n) := by
  obtain ⟨a0, a1, a2, a3, a4, a5, a6, a7, a8⟩ := hw
  obtain ⟨z0, z1, z2, z3, z4⟩ := tel_eq (B := B) (n := n) h1
  have cb := a6 b h1 h2
  refine ⟨by omega, by omega, by omega, by omega, by omega, by omega, fun c x y => ?_, fun c i x y z u => ?_, fun c i x y z u => ?_⟩
  · have k := a6 c x (by omega)
    rw [(z3 c x).1, (z3 c x).2]
    by_cases hc : c = b
    · rw [if_pos hc]; omega
    · rw [if_neg hc]; exact k
  · have k := a6 c x (by omega)
    rw [(z3 c x).2] at u
    have u2 : i < bcnt B c := by
      by_cases hc : c = b
      · rw [if_pos hc] at u; subst hc; omega
      · rw [if_neg hc] at u; exact u
    rw [z4 c i x z (by omega)]
    exact a7 c i x (by omega) z u2
  · have k := a6 c x (by omega)
    rw [(z3 c x).2] at u
    have u2 : i + 1 < bcnt B c := by
      by_cases hc : c = b
      · rw [if_pos hc] at u; subst hc; omega
      · rw [if_neg hc] at u; exact u
    rw [z4 c i x z (by omega), z4 c (i + 1) x (by omega) (by omega)]
    exact a8 c i x (by omega) z u2
theorem tel_RB {N : Int} {B : Int → Int} {S : Mem} {q : Nat} {b n : Int} (hw : WF N B) (hR : RB S q B) (h1 : 0 ≤ b) (h2 : b < B 2) (hn : 0 ≤ n ∧ n ≤ bcnt B b) : RB (wr S (q + 1) b n) q (wrR B (3 + 10 * b + 1) n) := by
  obtain ⟨z0, z1, z2, z3, z4⟩ := tel_eq (B := B) (n := n) h1
  refine ⟨by rw [wr_cell (by omega), z0]; exact hR.1, by rw [wr_cell (by omega), z1]; exact hR.2.1, by rw [wr_cell (by omega), z2]; exact hR.2.2.1, fun c x y => ?_, fun c x y => ?_, fun c i x y z u => ?_⟩
  · rw [wr_cell (by omega), (z3 c x).1]; exact hR.2.2.2.1 c x (by omega)
  · rw [wr_at, (z3 c x).2]
    by_cases hc : c = b
    · rw [if_pos hc, if_pos hc]
    · rw [if_neg hc, if_neg hc]; exact hR.2.2.2.2.1 c x (by omega)
  · have k := bcnt_bnd hw x (show c < B 2 by omega)
    rw [(z3 c x).2] at u
    have u2 : i < bcnt B c := by
      by_cases hc : c = b
      · rw [if_pos hc] at u; subst hc; omega
      · rw [if_neg hc] at u; exact u
    rw [wr_cell (by omega), z4 c i x z (by omega)]
    exact hR.2.2.2.2.2 c i x (by omega) z u2
/-- what a bidder truly has of a trial -/
def tru (B B' : Int → Int) (b k : Int) : Int := bsum B b (hs (oc B') b) - pay B' b k
theorem tru_bnd {N : Int} {B B' : Int → Int} {b k : Int} (hN : N ≤ 9) (hw : WF N B) (hw' : WF N B') (h1 : 0 ≤ b) (h2 : b < B 2) (h2' : b < B' 2) (hh : hs (oc B') b ≤ bcnt B b) : -30000 ≤ tru B B' b k ∧ tru B B' b k ≤ 30000 := by
  have a := pay_bnd (k := k) hN hw' h1 h2'
  have c := bsum_bnd (n := hs (oc B') b) hw h1 h2 (hs_nn _ _) hh
  unfold tru
  omega
theorem M_truly {N : Int} {T T1 : Mem} {B' : Int → Int} {b k : Int} (hN : N ≤ 9) (hw : WF 8 (T 1)) (hw' : WF N B') (hA : Asd T T1 B') (h1 : 0 ≤ b) (h2 : b < T 1 2) (h2' : b < B' 2) (h3 : 0 ≤ k ∧ k ≤ 3) (hh : hs (oc B') b ≤ bcnt (T 1) b) : ∃ T', f_X8_truly T1 b k = some (tru (T 1) B' b k, T') ∧ AgM T T' := by
  have n1 := hw.2.2.2.2.2.1
  obtain ⟨T2, a1, a2, a3⟩ := DM.of (T := T1) hN (by rw [hA.1]; exact hw')
  rw [hA.1] at a2
  obtain ⟨T3, b1, b2⟩ := M_paysOf hN hw' a2 h1 h2' h3.1 h3.2
  obtain ⟨T4, c1, c2, c3⟩ := ((hA.fr a3).ft b2).back
  refine ⟨T4, ?_, c2⟩
  have e5 : T4 5 b = hs (oc B') b := by
    rw [c3 5 (by decide)]
    exact (a2.ft b2).units h1 h2'
  have ef := M_firstOf (T := T4) (b := b) (n := hs (oc B') b) (N := 8) (by decide) (by rw [c2.1]; exact hw) h1 (by rw [c2.1]; exact h2) (hs_nn _ _) (by rw [c2.1]; exact hh)
  rw [c2.1] at ef
  unfold f_X8_truly
  rw [a1, Option.bind_some, b1, Option.bind_some]
  dsimp only
  rw [c1, Option.bind_some, if_pos (by omega), e5, ef]
  rfl
theorem C_truly {N : Int} {S S6 : Mem} {T : Mem} {B' : Int → Int} {b k : Int} (hN : N ≤ 9) (h : Rel S T) (hw' : WF N B') (ag : AgC S S6) (hD : DC S6 18 B') (h1 : 0 ≤ b) (h2 : b < T 1 2) (h2' : b < B' 2) (h3 : 0 ≤ k ∧ k ≤ 3) (hh : hs (oc B') b ≤ bcnt (T 1) b) : ∃ S', ((f_X1_sumOfFirst S6 5 b (S6 25 b)).bind fun r8 => (f_X0_payment S6 18 b k).bind fun u10 => some (r8 - u10.1, u10.2)) = some (tru (T 1) B' b k, S') ∧ AgC S S' := by
  have hR : Rel S6 T := h.ag ag AgM.rf
  obtain ⟨S7, u1, u2⟩ := C_payment hN hw' hD h1 h2' h3.1 h3.2
  refine ⟨S7, ?_, ag.tr (AgC.ps u2)⟩
  rw [show S6 25 b = hs (oc B') b from hD.units h1 h2', C_sumOfFirst (q := 5) (by decide) h.1 hR.2.1 h1 h2 (hs_nn _ _) hh, Option.bind_some, u1]
  rfl
theorem tel_units {N : Int} {B : Int → Int} {b n : Int} (hw : WF N B) (h1 : 0 ≤ b) (h2 : b < B 2) (hn : 0 ≤ n ∧ n ≤ bcnt B b) : hs (oc (wrR B (3 + 10 * b + 1) n)) b ≤ bcnt B b := by
  have hw' := tel_WF hw h1 h2 hn
  obtain ⟨z0, z1, z2, z3, z4⟩ := tel_eq (B := B) (n := n) h1
  have o := oc_used hw' h1 (by rw [z2]; exact h2)
  have u := bused_bnd hw' h1 (by rw [z2]; exact h2)
  rw [(z3 b h1).2, if_pos rfl] at u
  omega
theorem Q_telling {S T : Mem} {b k n : Int} (h : Rel S T) (h1 : 0 ≤ b) (h2 : b < T 1 2) (h3 : 0 ≤ k ∧ k ≤ 3) (hn : 0 ≤ n ∧ n ≤ bcnt (T 1) b) : ∃ S' T', f_X7_gainByTelling S b k n = some (tru (T 1) (wrR (T 1) (3 + 10 * b + 1) n) b k, S') ∧ f_X8_tellsFirst T b k n = some (tru (T 1) (wrR (T 1) (3 + 10 * b + 1) n) b k, T') ∧ AgC S S' ∧ AgM T T' := by
  have n1 := h.1.2.2.2.2.2.1
  have hw' := tel_WF h.1 h1 h2 hn
  obtain ⟨z0, z1, z2, z3, z4⟩ := tel_eq (B := T 1) (n := n) h1
  have hu := tel_units h.1 h1 h2 hn
  obtain ⟨S1, a1, a2, a3⟩ := C_takeFrom (th := 19) (q := 5) (by omega) (by decide) h.1 h.2.1
  obtain ⟨S2, b1, b2, b3⟩ := DC.of (S := wr S1 20 b n) (α := 18) (by decide) hw' (tel_RB h.1 a2 h1 h2 hn)
  obtain ⟨S3, c1, c2⟩ := C_truly (by decide) h hw' (((AgC.fb a3).tr (AgC.fb (FrB.wr (Or.inr (Or.inl rfl))))).tr (AgC.fc b3)) b2 h1 h2 (by rw [z2]; exact h2) h3 hu
  have p := Asd.put T
  have hA : Asd T (wr (fl T 3 0 126 (fun j => T 1 j)) 1 (3 + 10 * b + 1) n) (wrR (T 1) (3 + 10 * b + 1) n) := p.row (by rw [wr_row, p.1]) (fun k hk => wr_ne hk) (fun j hj => wrR_ne (by omega))
  obtain ⟨T2, d1, d2⟩ := M_truly (by decide) h.1 hw' hA h1 h2 (by rw [z2]; exact h2) h3 hu
  refine ⟨S3, T2, ?_, ?_, c2, d2⟩
  · unfold f_X7_gainByTelling
    rw [a1, Option.bind_some, if_pos (by omega)]
    dsimp only [wrk]
    rw [b1, Option.bind_some, c1]
  · unfold f_X8_tellsFirst
    rw [M_putsAside, Option.bind_some, if_pos (by omega)]
    dsimp only [wrk]
    rw [d1]
    rfl
theorem Q_tells {S T : Mem} {a k n : Int} (h : Rel S T) (ha : R32 a) (hk : R32 k) (hn : R32 n) : ∃ r S' T', f_X7_tells S a k n = some (r, S') ∧ f_X8_tells T a k n = some (r, T') ∧ Rel S' T' := by
  have hb := Q_has h ha
  have n1 := h.1.2.2.2.2.2.1
  unfold f_X7_tells f_X8_tells
  rw [hb.1, hb.2]
  simp only [Option.bind_some]
  by_cases hh : 0 ≤ a ∧ a < T 1 2
  · rw [if_pos hh, if_neg e10, if_neg e10, C_isKind hk, M_isKind hk]
    simp only [Option.bind_some]
    by_cases h3 : 0 ≤ k ∧ k ≤ 3
    · have cb := bcnt_bnd h.1 hh.1 hh.2
      have c6 : S 6 a = bcnt (T 1) a := h.2.1.2.2.2.2.1 a hh.1 hh.2
      rw [if_pos h3, if_neg e10, if_neg e10, M_valuesOf hh.1 (by omega), Option.bind_some, M_inL hn (by decide) (by omega), Option.bind_some, if_pos (show 0 ≤ a ∧ a < 9 by omega), c6]
      by_cases h0 : n < 0
      · rw [if_pos (ltb_t h0 hn.1 (by omega)), if_neg (show ¬ (0 ≤ n ∧ n ≤ bcnt (T 1) a) by omega), if_pos e00]
        exact ⟨_, _, _, rfl, rfl, h⟩
      · rw [if_neg (nl (x := n) (y := 0) (by omega) (by omega) hn.2)]
        by_cases h4 : bcnt (T 1) a < n
        · rw [if_pos (ltb_t h4 (by omega) hn.2), if_neg (show ¬ (0 ≤ n ∧ n ≤ bcnt (T 1) a) by omega), if_pos e00]
          exact ⟨_, _, _, rfl, rfl, h⟩
        · have hn2 : 0 ≤ n ∧ n ≤ bcnt (T 1) a := by omega
          obtain ⟨S', T', g1, g2, g3, g4⟩ := Q_telling h hh.1 hh.2 h3 hn2
          rw [if_neg (nl (x := bcnt (T 1) a) (y := n) (by omega) (by omega) (by omega)), if_pos hn2, if_neg e10, g1, g2]
          exact ⟨_, _, _, rfl, rfl, h.ag g3 g4⟩
    · rw [if_neg h3]
      exact ⟨_, _, _, rfl, rfl, h⟩
  · rw [if_neg hh]
    exact ⟨_, _, _, rfl, rfl, h⟩
theorem Q_bestTells {S T : Mem} {a k : Int} (h : Rel S T) (ha : R32 a) (hk : R32 k) : ∃ r S' T', f_X7_bestTells S a k = some (r, S') ∧ f_X8_bestTells T a k = some (r, T') ∧ Rel S' T' := by
  have hb := Q_has h ha
  have n1 := h.1.2.2.2.2.2.1
  unfold f_X7_bestTells f_X8_bestTells
  rw [hb.1, hb.2]
  simp only [Option.bind_some]
  by_cases hh : 0 ≤ a ∧ a < T 1 2
  · rw [if_pos hh, if_neg e10, if_neg e10, C_isKind hk, M_isKind hk]
    simp only [Option.bind_some]
    by_cases h3 : 0 ≤ k ∧ k ≤ 3
    · have cb := bcnt_bnd h.1 hh.1 hh.2
      rw [if_pos h3, if_neg e10, if_neg e10]
      generalize hfu : FU = fu
      obtain ⟨r, r', g1, g2, g3⟩ := lp_sim (step := f_X7_bestTells_l29 a k) (step' := f_X8_bestTells_l26 a k) (fun s t => s.2.2.1 = t.2.2.1 ∧ 0 ≤ s.2.2.1 ∧ s.2.2.1 ≤ bcnt (T 1) a + 1 ∧ s.1 = t.1 ∧ ((s.2.2.1 = 0 ∧ s.2.1 = -1000000 ∧ t.2.1 = -100000) ∨ (s.2.1 = t.2.1 ∧ -30000 ≤ s.2.1 ∧ s.2.1 ≤ 30000)) ∧ Rel s.2.2.2 t.2.2.2 ∧ t.2.2.2 1 = T 1) (fun s => (bcnt (T 1) a + 1 - s.2.2.1).toNat) (fun r r' => r.1 = r'.1 ∧ Rel r.2 r'.2) (by
        intro s t ⟨e, x0, x1, e2, hm, hR, ht⟩
        obtain ⟨s1, s2, i, s⟩ := s
        obtain ⟨t1, t2, i', t⟩ := t
        dsimp only at e x0 x1 e2 hm hR ht ⊢
        subst e e2
        unfold f_X7_bestTells_l29 f_X8_bestTells_l26
        dsimp only
        have sc : s 6 a = bcnt (T 1) a := by rw [← ht]; exact hR.2.1.2.2.2.2.1 a hh.1 (by rw [ht]; exact hh.2)
        rw [M_valuesOf hh.1 (by omega), Option.bind_some, ht, if_pos (show 0 ≤ a ∧ a < 9 by omega)]
        by_cases hi : bcnt (T 1) a < i
        · rw [if_pos (show ltb (s 6 a) i = true by rw [sc]; exact ltb_t hi (by omega) (by omega)), if_pos (ltb_t hi (by omega) (by omega))]
          exact Or.inr ⟨_, _, rfl, rfl, rfl, hR⟩
        · have ql := nl (x := bcnt (T 1) a) (y := i) (by omega) (by omega) (by omega)
          obtain ⟨S', T', c1, c2, c3, c4⟩ := Q_telling (b := a) (k := k) (n := i) hR hh.1 (by rw [ht]; exact hh.2) h3 (by rw [ht]; omega)
          rw [ht] at c1 c2
          obtain ⟨z0, z1, z2, z3, z4⟩ := tel_eq (B := T 1) (n := i) hh.1
          have gb := tru_bnd (k := k) (by decide) h.1 (tel_WF h.1 hh.1 hh.2 (show 0 ≤ i ∧ i ≤ bcnt (T 1) a by omega)) hh.1 hh.2 (by rw [z2]; exact hh.2) (tel_units h.1 hh.1 hh.2 (show 0 ≤ i ∧ i ≤ bcnt (T 1) a by omega))
          rw [if_neg (show ¬ ltb (s 6 a) i = true by rw [sc]; exact ql), if_neg ql, c1, Option.bind_some, c2, Option.bind_some]
          dsimp only
          have hR3 := hR.ag c3 c4
          have ht3 : T' 1 = T 1 := by rw [c4.1]; exact ht
          generalize tru (T 1) (wrR (T 1) (3 + 10 * a + 1) i) a k = g at gb
          rcases hm with ⟨m0, m1, m2⟩ | ⟨m1, m2, m3⟩
          · subst m1 m2
            rw [if_neg (nl (x := g) (y := -1000000) (by omega) (by omega) (by omega)), if_neg (nl (x := g) (y := -100000) (by omega) (by omega) (by omega))]
            exact Or.inl ⟨_, _, rfl, rfl, ⟨rfl, by dsimp only; omega, by dsimp only; omega, rfl, Or.inr ⟨rfl, gb.1, gb.2⟩, hR3, ht3⟩, by dsimp only; omega⟩
          · subst m1
            by_cases hl : g < s2
            · rw [if_pos (ltb_t hl (by omega) (by omega))]
              exact Or.inl ⟨_, _, rfl, rfl, ⟨rfl, by dsimp only; omega, by dsimp only; omega, rfl, Or.inr ⟨rfl, m2, m3⟩, hR3, ht3⟩, by dsimp only; omega⟩
            · rw [if_neg (nl (x := g) (y := s2) (by omega) (by omega) (by omega))]
              exact Or.inl ⟨_, _, rfl, rfl, ⟨rfl, by dsimp only; omega, by dsimp only; omega, rfl, Or.inr ⟨rfl, gb.1, gb.2⟩, hR3, ht3⟩, by dsimp only; omega⟩) fu (0, (-1000000), 0, S) (0, (-100000), 0, T) ⟨rfl, by dsimp only; omega, by dsimp only; omega, rfl, Or.inl ⟨rfl, rfl, rfl⟩, h, rfl⟩ (by dsimp only; rw [← hfu, FU_eq]; omega)
      rw [g1, g2, Option.bind_some, Option.bind_some]
      refine ⟨r.1, r.2, r'.2, rfl, ?_, g3.2⟩
      rw [g3.1]
    · rw [if_neg h3]
      exact ⟨_, _, _, rfl, rfl, h⟩
  · rw [if_neg hh]
    exact ⟨_, _, _, rfl, rfl, h⟩
