set_option maxRecDepth 100000 in
set_option maxHeartbeats 4000000 in
theorem ct_X8_in {l : Launch} {D : va_G} {cI cB : ClassId} {Z : (Nat → Nat) × (Nat → Nat)} {ad : Nat → Nat} {S : Mem} {a0 : Int} {a1 : Int} {a2 : Int} {r : Int} (h : f_X8_in S a0 a1 a2 = some r) : Ctr l D cI cB Z ad shsM yX8_in cX8_in 3 (some .boolean) 0 0 [.int (i32 a0), .int (i32 a1), .int (i32 a2)] S (some (.int (i32 r))) S := by
  refine ctr_of (by decide +kernel) (Nat.le_of_ble_eq_true rfl) rfl ?_
  intro p e s m args below meth c A X
  unfold f_X8_in at h
  refine go_iload_n (pc := 0) X 0 dX8_in_0 rfl rfl ?_
  refine go_iload_n (pc := 1) X 1 dX8_in_1 rfl rfl ?_
  refine go_icmp_lt (pc := 2) X 14 dX8_in_2 rfl (fun c1 => ?_) (fun c1 => ?_)
  · rw [if_pos c1] at h
    refine go_iconst (pc := 14) X dX8_in_14 ?_
    exact go_zretP (pc := 15) X (Or.inl rfl) h dX8_in_15
  · rw [if_neg c1] at h
    refine go_iload_n (pc := 5) X 0 dX8_in_5 rfl rfl ?_
    refine go_iload_n (pc := 6) X 2 dX8_in_6 rfl rfl ?_
    refine go_icmp_gt (pc := 7) X 14 dX8_in_7 rfl (fun c2 => ?_) (fun c2 => ?_)
    · rw [if_pos c2] at h
      refine go_iconst (pc := 14) X dX8_in_14 ?_
      exact go_zretP (pc := 15) X (Or.inl rfl) h dX8_in_15
    · rw [if_neg c2] at h
      refine go_iconst (pc := 10) X dX8_in_10 ?_
      refine go_goto (pc := 11) X 15 dX8_in_11 rfl ?_
      exact go_zretP (pc := 15) X (Or.inr rfl) h dX8_in_15
set_option maxRecDepth 100000 in
set_option maxHeartbeats 4000000 in
theorem ct_X8_less {l : Launch} {D : va_G} {cI cB : ClassId} {Z : (Nat → Nat) × (Nat → Nat)} {ad : Nat → Nat} {S : Mem} {a0 : Int} {a1 : Int} {r : Int} (h : f_X8_less S a0 a1 = some r) : Ctr l D cI cB Z ad shsM yX8_less cX8_less 2 (some .int) 0 0 [.int (i32 a0), .int (i32 a1)] S (some (.int (i32 r))) S := by
  refine ctr_of (by decide +kernel) (Nat.le_of_ble_eq_true rfl) rfl ?_
  intro p e s m args below meth c A X
  unfold f_X8_less at h
  refine go_iload_n (pc := 0) X 0 dX8_less_0 rfl rfl ?_
  refine go_iload_n (pc := 1) X 1 dX8_less_1 rfl rfl ?_
  refine go_icmp_ge (pc := 2) X 9 dX8_less_2 rfl (fun c1 => ?_) (fun c1 => ?_)
  · rw [if_neg c1] at h
    refine go_iload_n (pc := 9) X 1 dX8_less_9 rfl rfl ?_
    exact go_iretP (pc := 10) X h dX8_less_10
  · rw [if_pos c1] at h
    refine go_iload_n (pc := 5) X 0 dX8_less_5 rfl rfl ?_
    refine go_goto (pc := 6) X 10 dX8_less_6 rfl ?_
    exact go_iretP (pc := 10) X h dX8_less_10
set_option maxRecDepth 100000 in
set_option maxHeartbeats 4000000 in
theorem ct_X8_starts {l : Launch} {D : va_G} {cI cB : ClassId} {Z : (Nat → Nat) × (Nat → Nat)} {ad : Nat → Nat} {S : Mem} {q0 : Nat} {S' : Mem} (ho0 : isRw q0) (h : f_X8_starts S q0 = some S') : Ctr l D cI cB Z ad shsM yX8_starts cX8_starts 2 none 0 0 [.ref (ad q0)] S (none) S' := by
  refine ctr_of (by decide +kernel) (Nat.le_of_ble_eq_true rfl) rfl ?_
  intro p e s m args below meth c A X
  unfold f_X8_starts at h
  refine go_iconst (pc := 0) X dX8_starts_0 ?_
  refine go_istore_n (pc := 1) X [1, 0] (Ls' := [(0, .ref (ad q0)), (1, .int (i32 0))]) dX8_starts_1 rfl (by decide) rfl ?_
  obtain ⟨r5, h6, h⟩ := bind_some h
  have H7 : ∀ (n : Nat) (t8 : Int × Mem) (z9 : Mem), lp (f_X8_starts_l2 q0) n t8 = some z9 → Go p l e { frames := 0, cells := 0, slots := 0, locals := 0 } s m args below meth c 2 D cI cB ad shsM A (MQ below (cQ D cI cB ad shsM (none) S' A) args s 0 0 A) 18 [(0, .ref (ad q0))] [] z9 → Go p l e { frames := 0, cells := 0, slots := 0, locals := 0 } s m args below meth c 2 D cI cB ad shsM A (MQ below (cQ D cI cB ad shsM (none) S' A) args s 0 0 A) 2 [(0, .ref (ad q0)), (1, .int (i32 t8.1))] [] t8.2 := by
    refine lp_go (fun t8 : Int × Mem => Go p l e { frames := 0, cells := 0, slots := 0, locals := 0 } s m args below meth c 2 D cI cB ad shsM A (MQ below (cQ D cI cB ad shsM (none) S' A) args s 0 0 A) 2 [(0, .ref (ad q0)), (1, .int (i32 t8.1))] [] t8.2) (fun z9 : Mem => Go p l e { frames := 0, cells := 0, slots := 0, locals := 0 } s m args below meth c 2 D cI cB ad shsM A (MQ below (cQ D cI cB ad shsM (none) S' A) args s 0 0 A) 18 [(0, .ref (ad q0))] [] z9) ?_
    intro t8 x10 h hx11
    unfold f_X8_starts_l2 at h
    refine go_iload_n (pc := 2) X 1 dX8_starts_2 rfl rfl ?_
    refine go_bipush (pc := 3) X dX8_starts_3 (by decide) (by decide) ?_
    refine go_icmp_ge (pc := 5) X 18 dX8_starts_5 rfl (fun c13 => ?_) (fun c13 => ?_)
    · rw [if_neg c13] at h
      refine go_pick [0] (Ls' := [(0, .ref (ad q0))]) rfl ?_
      exact lp_back h hx11
    · rw [if_pos c13] at h
      refine go_aload_n (pc := 8) X 0 dX8_starts_8 rfl rfl ?_
      refine go_iload_n (pc := 9) X 1 dX8_starts_9 rfl rfl ?_
      refine go_iconst (pc := 10) X dX8_starts_10 ?_
      obtain ⟨g14, h⟩ := gd_some h
      obtain ⟨S15, e16, h⟩ := wrk_some h
      refine go_iastE (pc := 11) X e16 (shR ho0) (Nat.le_of_ble_eq_true rfl) rfl g14 dX8_starts_11 ?_
      refine go_iinc (pc := 12) X [1, 0] 1 (Ls' := [(0, .ref (ad q0)), (1, .int (i32 (t8.1 + 1)))]) dX8_starts_12 rfl (by decide) rfl ?_
      refine go_goto (pc := 15) X 2 dX8_starts_15 rfl ?_
      exact lp_back h hx11
  refine H7 FU (0, S) r5 h6 ?_
  refine go_aload_n (pc := 18) X 0 dX8_starts_18 rfl rfl ?_
  refine go_iconst (pc := 19) X dX8_starts_19 ?_
  refine go_bipush (pc := 20) X dX8_starts_20 (by decide) (by decide) ?_
  obtain ⟨g17, h⟩ := gd_some h
  obtain ⟨S18, e19, h⟩ := wrk_some h
  refine go_iastE (pc := 22) X e19 (shR ho0) (Nat.le_of_ble_eq_true rfl) rfl g17 dX8_starts_22 ?_
  exact go_vret (pc := 23) X h dX8_starts_23
set_option maxRecDepth 100000 in
set_option maxHeartbeats 4000000 in
theorem ct_X8_keeps {l : Launch} {D : va_G} {cI cB : ClassId} {Z : (Nat → Nat) × (Nat → Nat)} {ad : Nat → Nat} {S : Mem} {S' : Mem} (h : f_X8_keeps S = some S') : Ctr l D cI cB Z ad shsM yX8_keeps cX8_keeps 2 none 0 0 [.ref (ad 0)] S (none) S' := by
  refine ctr_of (by decide +kernel) (Nat.le_of_ble_eq_true rfl) rfl ?_
  intro p e s m args below meth c A X
  unfold f_X8_keeps at h
  refine go_aload_n (pc := 0) X 0 dX8_keeps_0 rfl rfl ?_
  refine go_get (pc := 1) X (fk := 5) (fi := 5) rfl sh8 rfl inT_X8 (by decide) fL_X8_58 rfl dX8_keeps_1 ?_
  refine go_bipush (pc := 4) X dX8_keeps_4 (by decide) (by decide) ?_
  obtain ⟨j1, h2, h⟩ := bind_some h
  have k3 : Go p l e { frames := 0, cells := 0, slots := 0, locals := 0 } s m args below meth c 2 D cI cB ad shsM A (MQ below (cQ D cI cB ad shsM (none) S' A) args s 0 0 A) 50 [(0, .ref (ad 0))] [] j1 := by
    refine go_iconst (pc := 50) X dX8_keeps_50 ?_
    refine go_istore_n (pc := 51) X [1, 0] (Ls' := [(0, .ref (ad 0)), (1, .int (i32 0))]) dX8_keeps_51 rfl (by decide) rfl ?_
    obtain ⟨r9, h10, h⟩ := bind_some h
    have H11 : ∀ (n : Nat) (t12 : Int × Mem) (z13 : Mem), lp (f_X8_keeps_l52) n t12 = some z13 → Go p l e { frames := 0, cells := 0, slots := 0, locals := 0 } s m args below meth c 2 D cI cB ad shsM A (MQ below (cQ D cI cB ad shsM (none) S' A) args s 0 0 A) 84 [(0, .ref (ad 0))] [] z13 → Go p l e { frames := 0, cells := 0, slots := 0, locals := 0 } s m args below meth c 2 D cI cB ad shsM A (MQ below (cQ D cI cB ad shsM (none) S' A) args s 0 0 A) 52 [(0, .ref (ad 0)), (1, .int (i32 t12.1))] [] t12.2 := by
      refine lp_go (fun t12 : Int × Mem => Go p l e { frames := 0, cells := 0, slots := 0, locals := 0 } s m args below meth c 2 D cI cB ad shsM A (MQ below (cQ D cI cB ad shsM (none) S' A) args s 0 0 A) 52 [(0, .ref (ad 0)), (1, .int (i32 t12.1))] [] t12.2) (fun z13 : Mem => Go p l e { frames := 0, cells := 0, slots := 0, locals := 0 } s m args below meth c 2 D cI cB ad shsM A (MQ below (cQ D cI cB ad shsM (none) S' A) args s 0 0 A) 84 [(0, .ref (ad 0))] [] z13) ?_
      intro t12 x14 h hx15
      unfold f_X8_keeps_l52 at h
      refine go_iload_n (pc := 52) X 1 dX8_keeps_52 rfl rfl ?_
      refine go_bipush (pc := 53) X dX8_keeps_53 (by decide) (by decide) ?_
      refine go_icmp_ge (pc := 55) X 84 dX8_keeps_55 rfl (fun c17 => ?_) (fun c17 => ?_)
      · rw [if_neg c17] at h
        refine go_pick [0] (Ls' := [(0, .ref (ad 0))]) rfl ?_
        exact lp_back h hx15
      · rw [if_pos c17] at h
        refine go_aload_n (pc := 58) X 0 dX8_keeps_58 rfl rfl ?_
        refine go_getr (pc := 59) X (fk := 4) sh8 rfl inT_X8 (by decide) fL_X8_23 rfl dX8_keeps_59 ?_
        refine go_bipush (pc := 62) X dX8_keeps_62 (by decide) (by decide) ?_
        refine go_aload_n (pc := 64) X 0 dX8_keeps_64 rfl rfl ?_
        refine go_get (pc := 65) X (fk := 5) (fi := 5) rfl sh8 rfl inT_X8 (by decide) fL_X8_58 rfl dX8_keeps_65 ?_
        refine go_imul (pc := 68) X dX8_keeps_68 ?_
        refine go_iload_n (pc := 69) X 1 dX8_keeps_69 rfl rfl ?_
        refine go_iadd (pc := 70) X dX8_keeps_70 ?_
        refine go_aload_n (pc := 71) X 0 dX8_keeps_71 rfl rfl ?_
        refine go_getr (pc := 72) X (fk := 1) sh8 rfl inT_X8 (by decide) fL_X8_13 rfl dX8_keeps_72 ?_
        refine go_iload_n (pc := 75) X 1 dX8_keeps_75 rfl rfl ?_
        obtain ⟨g18, h⟩ := gd_some h
        refine go_iald (pc := 76) X shM1 (Nat.le_of_ble_eq_true rfl) rfl g18 dX8_keeps_76 ?_
        obtain ⟨g19, h⟩ := gd_some h
        obtain ⟨S20, e21, h⟩ := wrk_some h
        refine go_iastE (pc := 77) X e21 shM4 (Nat.le_of_ble_eq_true rfl) rfl g19 dX8_keeps_77 ?_
        refine go_iinc (pc := 78) X [1, 0] 1 (Ls' := [(0, .ref (ad 0)), (1, .int (i32 (t12.1 + 1)))]) dX8_keeps_78 rfl (by decide) rfl ?_
        refine go_goto (pc := 81) X 52 dX8_keeps_81 rfl ?_
        exact lp_back h hx15
    refine H11 FU (0, j1) r9 h10 ?_
    refine go_aload_n (pc := 84) X 0 dX8_keeps_84 rfl rfl ?_
    refine go_dup (pc := 85) X dX8_keeps_85 rfl ?_
    refine go_get (pc := 86) X (fk := 5) (fi := 5) rfl sh8 rfl inT_X8 (by decide) fL_X8_58 rfl dX8_keeps_86 ?_
    refine go_iconst (pc := 89) X dX8_keeps_89 ?_
    refine go_iadd (pc := 90) X dX8_keeps_90 ?_
    obtain ⟨S22, e23, h⟩ := wrk_some h
    refine go_putE (pc := 91) X (fk := 5) (fi := 5) rfl e23 sh8 rfl inT_X8 tyX8_ok nmX8 (by decide) fL_X8_58 rfl rfl rfl rfl rfl dX8_keeps_91 ?_
    exact go_vret (pc := 94) X h dX8_keeps_94
  refine go_icmp_ne (pc := 6) X 50 dX8_keeps_6 rfl (fun c24 => ?_) (fun c24 => ?_)
  · rw [if_neg c24] at h2
    cases h2
    exact k3
  · rw [if_pos c24] at h2
    refine go_bipush (pc := 9) X dX8_keeps_9 (by decide) (by decide) ?_
    refine go_istore_n (pc := 11) X [1, 0] (Ls' := [(0, .ref (ad 0)), (1, .int (i32 126))]) dX8_keeps_11 rfl (by decide) rfl ?_
    obtain ⟨r30, h31, h2⟩ := bind_some h2
    have H32 : ∀ (n : Nat) (t33 : Int × Mem) (z34 : Mem), lp (f_X8_keeps_l12) n t33 = some z34 → Go p l e { frames := 0, cells := 0, slots := 0, locals := 0 } s m args below meth c 2 D cI cB ad shsM A (MQ below (cQ D cI cB ad shsM (none) S' A) args s 0 0 A) 40 [(0, .ref (ad 0))] [] z34 → Go p l e { frames := 0, cells := 0, slots := 0, locals := 0 } s m args below meth c 2 D cI cB ad shsM A (MQ below (cQ D cI cB ad shsM (none) S' A) args s 0 0 A) 12 [(0, .ref (ad 0)), (1, .int (i32 t33.1))] [] t33.2 := by
      refine lp_go (fun t33 : Int × Mem => Go p l e { frames := 0, cells := 0, slots := 0, locals := 0 } s m args below meth c 2 D cI cB ad shsM A (MQ below (cQ D cI cB ad shsM (none) S' A) args s 0 0 A) 12 [(0, .ref (ad 0)), (1, .int (i32 t33.1))] [] t33.2) (fun z34 : Mem => Go p l e { frames := 0, cells := 0, slots := 0, locals := 0 } s m args below meth c 2 D cI cB ad shsM A (MQ below (cQ D cI cB ad shsM (none) S' A) args s 0 0 A) 40 [(0, .ref (ad 0))] [] z34) ?_
      intro t33 x35 h hx36
      unfold f_X8_keeps_l12 at h
      refine go_iload_n (pc := 12) X 1 dX8_keeps_12 rfl rfl ?_
      refine go_sipush (pc := 13) X dX8_keeps_13 (by decide) (by decide) ?_
      refine go_icmp_ge (pc := 16) X 40 dX8_keeps_16 rfl (fun c38 => ?_) (fun c38 => ?_)
      · rw [if_neg c38] at h
        refine go_pick [0] (Ls' := [(0, .ref (ad 0))]) rfl ?_
        exact lp_back h hx36
      · rw [if_pos c38] at h
        refine go_aload_n (pc := 19) X 0 dX8_keeps_19 rfl rfl ?_
        refine go_getr (pc := 20) X (fk := 4) sh8 rfl inT_X8 (by decide) fL_X8_23 rfl dX8_keeps_20 ?_
        refine go_iload_n (pc := 23) X 1 dX8_keeps_23 rfl rfl ?_
        refine go_bipush (pc := 24) X dX8_keeps_24 (by decide) (by decide) ?_
        refine go_isub (pc := 26) X dX8_keeps_26 ?_
        refine go_aload_n (pc := 27) X 0 dX8_keeps_27 rfl rfl ?_
        refine go_getr (pc := 28) X (fk := 4) sh8 rfl inT_X8 (by decide) fL_X8_23 rfl dX8_keeps_28 ?_
        refine go_iload_n (pc := 31) X 1 dX8_keeps_31 rfl rfl ?_
        obtain ⟨g39, h⟩ := gd_some h
        refine go_iald (pc := 32) X shM4 (Nat.le_of_ble_eq_true rfl) rfl g39 dX8_keeps_32 ?_
        obtain ⟨g40, h⟩ := gd_some h
        obtain ⟨S41, e42, h⟩ := wrk_some h
        refine go_iastE (pc := 33) X e42 shM4 (Nat.le_of_ble_eq_true rfl) rfl g40 dX8_keeps_33 ?_
        refine go_iinc (pc := 34) X [1, 0] 1 (Ls' := [(0, .ref (ad 0)), (1, .int (i32 (t33.1 + 1)))]) dX8_keeps_34 rfl (by decide) rfl ?_
        refine go_goto (pc := 37) X 12 dX8_keeps_37 rfl ?_
        exact lp_back h hx36
    refine H32 FU (126, S) r30 h31 ?_
    refine go_aload_n (pc := 40) X 0 dX8_keeps_40 rfl rfl ?_
    refine go_dup (pc := 41) X dX8_keeps_41 rfl ?_
    refine go_get (pc := 42) X (fk := 5) (fi := 5) rfl sh8 rfl inT_X8 (by decide) fL_X8_58 rfl dX8_keeps_42 ?_
    refine go_iconst (pc := 45) X dX8_keeps_45 ?_
    refine go_isub (pc := 46) X dX8_keeps_46 ?_
    obtain ⟨S43, e44, h2⟩ := wrk_some h2
    refine go_putE (pc := 47) X (fk := 5) (fi := 5) rfl e44 sh8 rfl inT_X8 tyX8_ok nmX8 (by decide) fL_X8_58 rfl rfl rfl rfl rfl dX8_keeps_47 ?_
    cases h2
    exact k3
set_option maxRecDepth 100000 in
set_option maxHeartbeats 4000000 in
theorem ct_X8_putsAside {l : Launch} {D : va_G} {cI cB : ClassId} {Z : (Nat → Nat) × (Nat → Nat)} {ad : Nat → Nat} {S : Mem} {S' : Mem} (h : f_X8_putsAside S = some S') : Ctr l D cI cB Z ad shsM yX8_putsAside cX8_putsAside 2 none 0 0 [.ref (ad 0)] S (none) S' := by
  refine ctr_of (by decide +kernel) (Nat.le_of_ble_eq_true rfl) rfl ?_
  intro p e s m args below meth c A X
  unfold f_X8_putsAside at h
  refine go_iconst (pc := 0) X dX8_putsAside_0 ?_
  refine go_istore_n (pc := 1) X [1, 0] (Ls' := [(0, .ref (ad 0)), (1, .int (i32 0))]) dX8_putsAside_1 rfl (by decide) rfl ?_
  obtain ⟨r5, h6, h⟩ := bind_some h
  have H7 : ∀ (n : Nat) (t8 : Int × Mem) (z9 : Mem), lp (f_X8_putsAside_l2) n t8 = some z9 → Go p l e { frames := 0, cells := 0, slots := 0, locals := 0 } s m args below meth c 2 D cI cB ad shsM A (MQ below (cQ D cI cB ad shsM (none) S' A) args s 0 0 A) 26 [] [] z9 → Go p l e { frames := 0, cells := 0, slots := 0, locals := 0 } s m args below meth c 2 D cI cB ad shsM A (MQ below (cQ D cI cB ad shsM (none) S' A) args s 0 0 A) 2 [(0, .ref (ad 0)), (1, .int (i32 t8.1))] [] t8.2 := by
    refine lp_go (fun t8 : Int × Mem => Go p l e { frames := 0, cells := 0, slots := 0, locals := 0 } s m args below meth c 2 D cI cB ad shsM A (MQ below (cQ D cI cB ad shsM (none) S' A) args s 0 0 A) 2 [(0, .ref (ad 0)), (1, .int (i32 t8.1))] [] t8.2) (fun z9 : Mem => Go p l e { frames := 0, cells := 0, slots := 0, locals := 0 } s m args below meth c 2 D cI cB ad shsM A (MQ below (cQ D cI cB ad shsM (none) S' A) args s 0 0 A) 26 [] [] z9) ?_
    intro t8 x10 h hx11
    unfold f_X8_putsAside_l2 at h
    refine go_iload_n (pc := 2) X 1 dX8_putsAside_2 rfl rfl ?_
    refine go_bipush (pc := 3) X dX8_putsAside_3 (by decide) (by decide) ?_
    refine go_icmp_ge (pc := 5) X 26 dX8_putsAside_5 rfl (fun c13 => ?_) (fun c13 => ?_)
    · rw [if_neg c13] at h
      refine go_pick [] (Ls' := []) rfl ?_
      exact lp_back h hx11
    · rw [if_pos c13] at h
      refine go_aload_n (pc := 8) X 0 dX8_putsAside_8 rfl rfl ?_
      refine go_getr (pc := 9) X (fk := 3) sh8 rfl inT_X8 (by decide) fL_X8_20 rfl dX8_putsAside_9 ?_
      refine go_iload_n (pc := 12) X 1 dX8_putsAside_12 rfl rfl ?_
      refine go_aload_n (pc := 13) X 0 dX8_putsAside_13 rfl rfl ?_
      refine go_getr (pc := 14) X (fk := 1) sh8 rfl inT_X8 (by decide) fL_X8_13 rfl dX8_putsAside_14 ?_
      refine go_iload_n (pc := 17) X 1 dX8_putsAside_17 rfl rfl ?_
      obtain ⟨g14, h⟩ := gd_some h
      refine go_iald (pc := 18) X shM1 (Nat.le_of_ble_eq_true rfl) rfl g14 dX8_putsAside_18 ?_
      obtain ⟨S15, e16, h⟩ := wrk_some h
      refine go_iastE (pc := 19) X e16 shM3 (Nat.le_of_ble_eq_true rfl) rfl g14 dX8_putsAside_19 ?_
      refine go_iinc (pc := 20) X [1, 0] 1 (Ls' := [(0, .ref (ad 0)), (1, .int (i32 (t8.1 + 1)))]) dX8_putsAside_20 rfl (by decide) rfl ?_
      refine go_goto (pc := 23) X 2 dX8_putsAside_23 rfl ?_
      exact lp_back h hx11
  refine H7 FU (0, S) r5 h6 ?_
  exact go_vret (pc := 26) X h dX8_putsAside_26
set_option maxRecDepth 100000 in
set_option maxHeartbeats 4000000 in
theorem ct_X8_takesBack {l : Launch} {D : va_G} {cI cB : ClassId} {Z : (Nat → Nat) × (Nat → Nat)} {ad : Nat → Nat} {S : Mem} {S' : Mem} (h : f_X8_takesBack S = some S') : Ctr l D cI cB Z ad shsM yX8_takesBack cX8_takesBack 2 none 0 0 [.ref (ad 0)] S (none) S' := by
  refine ctr_of (by decide +kernel) (Nat.le_of_ble_eq_true rfl) rfl ?_
  intro p e s m args below meth c A X
  unfold f_X8_takesBack at h
  refine go_iconst (pc := 0) X dX8_takesBack_0 ?_
  refine go_istore_n (pc := 1) X [1, 0] (Ls' := [(0, .ref (ad 0)), (1, .int (i32 0))]) dX8_takesBack_1 rfl (by decide) rfl ?_
  obtain ⟨r5, h6, h⟩ := bind_some h
  have H7 : ∀ (n : Nat) (t8 : Int × Mem) (z9 : Mem), lp (f_X8_takesBack_l2) n t8 = some z9 → Go p l e { frames := 0, cells := 0, slots := 0, locals := 0 } s m args below meth c 2 D cI cB ad shsM A (MQ below (cQ D cI cB ad shsM (none) S' A) args s 0 0 A) 26 [] [] z9 → Go p l e { frames := 0, cells := 0, slots := 0, locals := 0 } s m args below meth c 2 D cI cB ad shsM A (MQ below (cQ D cI cB ad shsM (none) S' A) args s 0 0 A) 2 [(0, .ref (ad 0)), (1, .int (i32 t8.1))] [] t8.2 := by
    refine lp_go (fun t8 : Int × Mem => Go p l e { frames := 0, cells := 0, slots := 0, locals := 0 } s m args below meth c 2 D cI cB ad shsM A (MQ below (cQ D cI cB ad shsM (none) S' A) args s 0 0 A) 2 [(0, .ref (ad 0)), (1, .int (i32 t8.1))] [] t8.2) (fun z9 : Mem => Go p l e { frames := 0, cells := 0, slots := 0, locals := 0 } s m args below meth c 2 D cI cB ad shsM A (MQ below (cQ D cI cB ad shsM (none) S' A) args s 0 0 A) 26 [] [] z9) ?_
    intro t8 x10 h hx11
    unfold f_X8_takesBack_l2 at h
    refine go_iload_n (pc := 2) X 1 dX8_takesBack_2 rfl rfl ?_
    refine go_bipush (pc := 3) X dX8_takesBack_3 (by decide) (by decide) ?_
    refine go_icmp_ge (pc := 5) X 26 dX8_takesBack_5 rfl (fun c13 => ?_) (fun c13 => ?_)
    · rw [if_neg c13] at h
      refine go_pick [] (Ls' := []) rfl ?_
      exact lp_back h hx11
    · rw [if_pos c13] at h
      refine go_aload_n (pc := 8) X 0 dX8_takesBack_8 rfl rfl ?_
      refine go_getr (pc := 9) X (fk := 1) sh8 rfl inT_X8 (by decide) fL_X8_13 rfl dX8_takesBack_9 ?_
      refine go_iload_n (pc := 12) X 1 dX8_takesBack_12 rfl rfl ?_
      refine go_aload_n (pc := 13) X 0 dX8_takesBack_13 rfl rfl ?_
      refine go_getr (pc := 14) X (fk := 3) sh8 rfl inT_X8 (by decide) fL_X8_20 rfl dX8_takesBack_14 ?_
      refine go_iload_n (pc := 17) X 1 dX8_takesBack_17 rfl rfl ?_
      obtain ⟨g14, h⟩ := gd_some h
      refine go_iald (pc := 18) X shM3 (Nat.le_of_ble_eq_true rfl) rfl g14 dX8_takesBack_18 ?_
      obtain ⟨S15, e16, h⟩ := wrk_some h
      refine go_iastE (pc := 19) X e16 shM1 (Nat.le_of_ble_eq_true rfl) rfl g14 dX8_takesBack_19 ?_
      refine go_iinc (pc := 20) X [1, 0] 1 (Ls' := [(0, .ref (ad 0)), (1, .int (i32 (t8.1 + 1)))]) dX8_takesBack_20 rfl (by decide) rfl ?_
      refine go_goto (pc := 23) X 2 dX8_takesBack_23 rfl ?_
      exact lp_back h hx11
  refine H7 FU (0, S) r5 h6 ?_
  exact go_vret (pc := 26) X h dX8_takesBack_26
set_option maxRecDepth 100000 in
set_option maxHeartbeats 4000000 in
theorem ct_X8_many {l : Launch} {D : va_G} {cI cB : ClassId} {Z : (Nat → Nat) × (Nat → Nat)} {ad : Nat → Nat} {S : Mem} {r : Int} (h : f_X8_many S = some r) : Ctr l D cI cB Z ad shsM yX8_many cX8_many 1 (some .int) 0 0 [.ref (ad 0)] S (some (.int (i32 r))) S := by
  refine ctr_of (by decide +kernel) (Nat.le_of_ble_eq_true rfl) rfl ?_
  intro p e s m args below meth c A X
  unfold f_X8_many at h
  refine go_aload_n (pc := 0) X 0 dX8_many_0 rfl rfl ?_
  refine go_getr (pc := 1) X (fk := 1) sh8 rfl inT_X8 (by decide) fL_X8_13 rfl dX8_many_1 ?_
  refine go_iconst (pc := 4) X dX8_many_4 ?_
  obtain ⟨g1, h⟩ := gd_some h
  refine go_iald (pc := 5) X shM1 (Nat.le_of_ble_eq_true rfl) rfl g1 dX8_many_5 ?_
  exact go_iretP (pc := 6) X h dX8_many_6
set_option maxRecDepth 100000 in
set_option maxHeartbeats 4000000 in
theorem ct_X8_isBidder {l : Launch} {D : va_G} {cI cB : ClassId} {Z : (Nat → Nat) × (Nat → Nat)} {ad : Nat → Nat} {S : Mem} {a1 : Int} {r : Int} (h : f_X8_isBidder S a1 = some r) : Ctr l D cI cB Z ad shsM yX8_isBidder cX8_isBidder 2 (some .boolean) 1 22 [.ref (ad 0), .int (i32 a1)] S (some (.int (i32 r))) S := by
  refine ctr_of (by decide +kernel) (Nat.le_of_ble_eq_true rfl) rfl ?_
  intro p e s m args below meth c A X
  unfold f_X8_isBidder at h
  refine go_iload_n (pc := 0) X 1 dX8_isBidder_0 rfl rfl ?_
  refine go_iconst (pc := 1) X dX8_isBidder_1 ?_
  refine go_aload_n (pc := 2) X 0 dX8_isBidder_2 rfl rfl ?_
  obtain ⟨r1, h2, h⟩ := bind_some h
  refine go_callVi (pc := 3) X 0 [.int (i32 0), .int (i32 a1)] (ct_X8_many h2) sh8 rfl gg_X8_61 hd_X8_many ⟨Nat.le_of_ble_eq_true rfl, Nat.le_of_ble_eq_true rfl⟩ rfl rfl (Nat.le_of_ble_eq_true rfl) dX8_isBidder_3 ?_
  refine go_iconst (pc := 6) X dX8_isBidder_6 ?_
  refine go_isub (pc := 7) X dX8_isBidder_7 ?_
  obtain ⟨r3, h4, h⟩ := bind_some h
  refine go_callSi (pc := 8) X 3 [] (ct_X8_in h4) gg_X8_65 hd_X8_in ⟨Nat.le_of_ble_eq_true rfl, Nat.le_of_ble_eq_true rfl⟩ rfl rfl (Nat.le_of_ble_eq_true rfl) dX8_isBidder_8 ?_
  obtain ⟨g5, h⟩ := gd_some h
  exact go_zretP (pc := 11) X g5 h dX8_isBidder_11
set_option maxRecDepth 100000 in
set_option maxHeartbeats 4000000 in
theorem ct_X8_isKind {l : Launch} {D : va_G} {cI cB : ClassId} {Z : (Nat → Nat) × (Nat → Nat)} {ad : Nat → Nat} {S : Mem} {a0 : Int} {r : Int} (h : f_X8_isKind S a0 = some r) : Ctr l D cI cB Z ad shsM yX8_isKind cX8_isKind 1 (some .boolean) 1 22 [.int (i32 a0)] S (some (.int (i32 r))) S := by
  refine ctr_of (by decide +kernel) (Nat.le_of_ble_eq_true rfl) rfl ?_
  intro p e s m args below meth c A X
  unfold f_X8_isKind at h
  refine go_iload_n (pc := 0) X 0 dX8_isKind_0 rfl rfl ?_
  refine go_iconst (pc := 1) X dX8_isKind_1 ?_
  refine go_iconst (pc := 2) X dX8_isKind_2 ?_
  obtain ⟨r1, h2, h⟩ := bind_some h
  refine go_callSi (pc := 3) X 3 [] (ct_X8_in h2) gg_X8_65 hd_X8_in ⟨Nat.le_of_ble_eq_true rfl, Nat.le_of_ble_eq_true rfl⟩ rfl rfl (Nat.le_of_ble_eq_true rfl) dX8_isKind_3 ?_
  obtain ⟨g3, h⟩ := gd_some h
  exact go_zretP (pc := 6) X g3 h dX8_isKind_6
set_option maxRecDepth 100000 in
set_option maxHeartbeats 4000000 in
theorem ct_X8_isPrice {l : Launch} {D : va_G} {cI cB : ClassId} {Z : (Nat → Nat) × (Nat → Nat)} {ad : Nat → Nat} {S : Mem} {a0 : Int} {r : Int} (h : f_X8_isPrice S a0 = some r) : Ctr l D cI cB Z ad shsM yX8_isPrice cX8_isPrice 1 (some .boolean) 1 22 [.int (i32 a0)] S (some (.int (i32 r))) S := by
  refine ctr_of (by decide +kernel) (Nat.le_of_ble_eq_true rfl) rfl ?_
  intro p e s m args below meth c A X
  unfold f_X8_isPrice at h
  refine go_iload_n (pc := 0) X 0 dX8_isPrice_0 rfl rfl ?_
  refine go_iconst (pc := 1) X dX8_isPrice_1 ?_
  refine go_bipush (pc := 2) X dX8_isPrice_2 (by decide) (by decide) ?_
  obtain ⟨r1, h2, h⟩ := bind_some h
  refine go_callSi (pc := 4) X 3 [] (ct_X8_in h2) gg_X8_65 hd_X8_in ⟨Nat.le_of_ble_eq_true rfl, Nat.le_of_ble_eq_true rfl⟩ rfl rfl (Nat.le_of_ble_eq_true rfl) dX8_isPrice_4 ?_
  obtain ⟨g3, h⟩ := gd_some h
  exact go_zretP (pc := 7) X g3 h dX8_isPrice_7
set_option maxRecDepth 100000 in
set_option maxHeartbeats 4000000 in
theorem ct_X8_capOf {l : Launch} {D : va_G} {cI cB : ClassId} {Z : (Nat → Nat) × (Nat → Nat)} {ad : Nat → Nat} {S : Mem} {a1 : Int} {r : Int} (h : f_X8_capOf S a1 = some r) : Ctr l D cI cB Z ad shsM yX8_capOf cX8_capOf 2 (some .int) 0 0 [.ref (ad 0), .int (i32 a1)] S (some (.int (i32 r))) S := by
  refine ctr_of (by decide +kernel) (Nat.le_of_ble_eq_true rfl) rfl ?_
  intro p e s m args below meth c A X
  unfold f_X8_capOf at h
  refine go_aload_n (pc := 0) X 0 dX8_capOf_0 rfl rfl ?_
  refine go_getr (pc := 1) X (fk := 1) sh8 rfl inT_X8 (by decide) fL_X8_13 rfl dX8_capOf_1 ?_
  refine go_iconst (pc := 4) X dX8_capOf_4 ?_
  refine go_bipush (pc := 5) X dX8_capOf_5 (by decide) (by decide) ?_
  refine go_iload_n (pc := 7) X 1 dX8_capOf_7 rfl rfl ?_
  refine go_imul (pc := 8) X dX8_capOf_8 ?_
  refine go_iadd (pc := 9) X dX8_capOf_9 ?_
  obtain ⟨g1, h⟩ := gd_some h
  refine go_iald (pc := 10) X shM1 (Nat.le_of_ble_eq_true rfl) rfl g1 dX8_capOf_10 ?_
  exact go_iretP (pc := 11) X h dX8_capOf_11
set_option maxRecDepth 100000 in
set_option maxHeartbeats 4000000 in
theorem ct_X8_valuesOf {l : Launch} {D : va_G} {cI cB : ClassId} {Z : (Nat → Nat) × (Nat → Nat)} {ad : Nat → Nat} {S : Mem} {a1 : Int} {r : Int} (h : f_X8_valuesOf S a1 = some r) : Ctr l D cI cB Z ad shsM yX8_valuesOf cX8_valuesOf 2 (some .int) 0 0 [.ref (ad 0), .int (i32 a1)] S (some (.int (i32 r))) S := by
  refine ctr_of (by decide +kernel) (Nat.le_of_ble_eq_true rfl) rfl ?_
  intro p e s m args below meth c A X
  unfold f_X8_valuesOf at h
  refine go_aload_n (pc := 0) X 0 dX8_valuesOf_0 rfl rfl ?_
  refine go_getr (pc := 1) X (fk := 1) sh8 rfl inT_X8 (by decide) fL_X8_13 rfl dX8_valuesOf_1 ?_
  refine go_iconst (pc := 4) X dX8_valuesOf_4 ?_
  refine go_bipush (pc := 5) X dX8_valuesOf_5 (by decide) (by decide) ?_
  refine go_iload_n (pc := 7) X 1 dX8_valuesOf_7 rfl rfl ?_
  refine go_imul (pc := 8) X dX8_valuesOf_8 ?_
  refine go_iadd (pc := 9) X dX8_valuesOf_9 ?_
  refine go_iconst (pc := 10) X dX8_valuesOf_10 ?_
  refine go_iadd (pc := 11) X dX8_valuesOf_11 ?_
  obtain ⟨g1, h⟩ := gd_some h
  refine go_iald (pc := 12) X shM1 (Nat.le_of_ble_eq_true rfl) rfl g1 dX8_valuesOf_12 ?_
  exact go_iretP (pc := 13) X h dX8_valuesOf_13
set_option maxRecDepth 100000 in
set_option maxHeartbeats 4000000 in
theorem ct_X8_valueAt {l : Launch} {D : va_G} {cI cB : ClassId} {Z : (Nat → Nat) × (Nat → Nat)} {ad : Nat → Nat} {S : Mem} {a1 : Int} {a2 : Int} {r : Int} (h : f_X8_valueAt S a1 a2 = some r) : Ctr l D cI cB Z ad shsM yX8_valueAt cX8_valueAt 3 (some .int) 0 0 [.ref (ad 0), .int (i32 a1), .int (i32 a2)] S (some (.int (i32 r))) S := by
  refine ctr_of (by decide +kernel) (Nat.le_of_ble_eq_true rfl) rfl ?_
  intro p e s m args below meth c A X
  unfold f_X8_valueAt at h
  refine go_aload_n (pc := 0) X 0 dX8_valueAt_0 rfl rfl ?_
  refine go_getr (pc := 1) X (fk := 1) sh8 rfl inT_X8 (by decide) fL_X8_13 rfl dX8_valueAt_1 ?_
  refine go_iconst (pc := 4) X dX8_valueAt_4 ?_
  refine go_bipush (pc := 5) X dX8_valueAt_5 (by decide) (by decide) ?_
  refine go_iload_n (pc := 7) X 1 dX8_valueAt_7 rfl rfl ?_
  refine go_imul (pc := 8) X dX8_valueAt_8 ?_
  refine go_iadd (pc := 9) X dX8_valueAt_9 ?_
  refine go_iconst (pc := 10) X dX8_valueAt_10 ?_
  refine go_iadd (pc := 11) X dX8_valueAt_11 ?_
  refine go_iload_n (pc := 12) X 2 dX8_valueAt_12 rfl rfl ?_
  refine go_iadd (pc := 13) X dX8_valueAt_13 ?_
  obtain ⟨g1, h⟩ := gd_some h
  refine go_iald (pc := 14) X shM1 (Nat.le_of_ble_eq_true rfl) rfl g1 dX8_valueAt_14 ?_
  exact go_iretP (pc := 15) X h dX8_valueAt_15
set_option maxRecDepth 100000 in
set_option maxHeartbeats 4000000 in
theorem ct_X8_usedOf {l : Launch} {D : va_G} {cI cB : ClassId} {Z : (Nat → Nat) × (Nat → Nat)} {ad : Nat → Nat} {S : Mem} {a1 : Int} {r : Int} (h : f_X8_usedOf S a1 = some r) : Ctr l D cI cB Z ad shsM yX8_usedOf cX8_usedOf 2 (some .int) 1 21 [.ref (ad 0), .int (i32 a1)] S (some (.int (i32 r))) S := by
  refine ctr_of (by decide +kernel) (Nat.le_of_ble_eq_true rfl) rfl ?_
  intro p e s m args below meth c A X
  unfold f_X8_usedOf at h
  refine go_aload_n (pc := 0) X 0 dX8_usedOf_0 rfl rfl ?_
  refine go_iload_n (pc := 1) X 1 dX8_usedOf_1 rfl rfl ?_
  obtain ⟨r1, h2, h⟩ := bind_some h
  refine go_callVi (pc := 2) X 1 [] (ct_X8_capOf h2) sh8 rfl gg_X8_69 hd_X8_capOf ⟨Nat.le_of_ble_eq_true rfl, Nat.le_of_ble_eq_true rfl⟩ rfl rfl (Nat.le_of_ble_eq_true rfl) dX8_usedOf_2 ?_
  refine go_aload_n (pc := 5) X 0 dX8_usedOf_5 rfl rfl ?_
  refine go_iload_n (pc := 6) X 1 dX8_usedOf_6 rfl rfl ?_
  obtain ⟨r3, h4, h⟩ := bind_some h
  refine go_callVi (pc := 7) X 1 [.int (i32 r1)] (ct_X8_valuesOf h4) sh8 rfl gg_X8_73 hd_X8_valuesOf ⟨Nat.le_of_ble_eq_true rfl, Nat.le_of_ble_eq_true rfl⟩ rfl rfl (Nat.le_of_ble_eq_true rfl) dX8_usedOf_7 ?_
  obtain ⟨r5, h6, h⟩ := bind_some h
  refine go_callSi (pc := 10) X 2 [] (ct_X8_less h6) gg_X8_76 hd_X8_less ⟨Nat.le_of_ble_eq_true rfl, Nat.le_of_ble_eq_true rfl⟩ rfl rfl (Nat.le_of_ble_eq_true rfl) dX8_usedOf_10 ?_
  exact go_iretP (pc := 13) X h dX8_usedOf_13
set_option maxRecDepth 100000 in
set_option maxHeartbeats 4000000 in
theorem ct_X8_lays {l : Launch} {D : va_G} {cI cB : ClassId} {Z : (Nat → Nat) × (Nat → Nat)} {ad : Nat → Nat} {S : Mem} {a1 : Int} {a2 : Int} {S' : Mem} (h : f_X8_lays S a1 a2 = some S') : Ctr l D cI cB Z ad shsM yX8_lays cX8_lays 4 none 0 0 [.ref (ad 0), .int (i32 a1), .int (i32 a2)] S (none) S' := by
  refine ctr_of (by decide +kernel) (Nat.le_of_ble_eq_true rfl) rfl ?_
  intro p e s m args below meth c A X
  unfold f_X8_lays at h
  refine go_iconst (pc := 0) X dX8_lays_0 ?_
  refine go_istore_n (pc := 1) X [1, 2, 3, 0] (Ls' := [(0, .ref (ad 0)), (1, .int (i32 a1)), (2, .int (i32 a2)), (3, .int (i32 0))]) dX8_lays_1 rfl (by decide) rfl ?_
  obtain ⟨r6, h7, h⟩ := bind_some h
  have H8 : ∀ (n : Nat) (t9 : Int × Mem) (z10 : Mem), lp (f_X8_lays_l2 a1 a2) n t9 = some z10 → Go p l e { frames := 0, cells := 0, slots := 0, locals := 0 } s m args below meth c 4 D cI cB ad shsM A (MQ below (cQ D cI cB ad shsM (none) S' A) args s 0 0 A) 40 [] [] z10 → Go p l e { frames := 0, cells := 0, slots := 0, locals := 0 } s m args below meth c 4 D cI cB ad shsM A (MQ below (cQ D cI cB ad shsM (none) S' A) args s 0 0 A) 2 [(0, .ref (ad 0)), (1, .int (i32 a1)), (2, .int (i32 a2)), (3, .int (i32 t9.1))] [] t9.2 := by
    refine lp_go (fun t9 : Int × Mem => Go p l e { frames := 0, cells := 0, slots := 0, locals := 0 } s m args below meth c 4 D cI cB ad shsM A (MQ below (cQ D cI cB ad shsM (none) S' A) args s 0 0 A) 2 [(0, .ref (ad 0)), (1, .int (i32 a1)), (2, .int (i32 a2)), (3, .int (i32 t9.1))] [] t9.2) (fun z10 : Mem => Go p l e { frames := 0, cells := 0, slots := 0, locals := 0 } s m args below meth c 4 D cI cB ad shsM A (MQ below (cQ D cI cB ad shsM (none) S' A) args s 0 0 A) 40 [] [] z10) ?_
    intro t9 x11 h hx12
    unfold f_X8_lays_l2 at h
    refine go_iload_n (pc := 2) X 3 dX8_lays_2 rfl rfl ?_
    refine go_bipush (pc := 3) X dX8_lays_3 (by decide) (by decide) ?_
    refine go_icmp_ge (pc := 5) X 40 dX8_lays_5 rfl (fun c14 => ?_) (fun c14 => ?_)
    · rw [if_neg c14] at h
      refine go_pick [] (Ls' := []) rfl ?_
      exact lp_back h hx12
    · rw [if_pos c14] at h
      refine go_aload_n (pc := 8) X 0 dX8_lays_8 rfl rfl ?_
      refine go_getr (pc := 9) X (fk := 1) sh8 rfl inT_X8 (by decide) fL_X8_13 rfl dX8_lays_9 ?_
      refine go_iconst (pc := 12) X dX8_lays_12 ?_
      refine go_bipush (pc := 13) X dX8_lays_13 (by decide) (by decide) ?_
      refine go_iload_n (pc := 15) X 2 dX8_lays_15 rfl rfl ?_
      refine go_imul (pc := 16) X dX8_lays_16 ?_
      refine go_iadd (pc := 17) X dX8_lays_17 ?_
      refine go_iload_n (pc := 18) X 3 dX8_lays_18 rfl rfl ?_
      refine go_iadd (pc := 19) X dX8_lays_19 ?_
      refine go_aload_n (pc := 20) X 0 dX8_lays_20 rfl rfl ?_
      refine go_getr (pc := 21) X (fk := 1) sh8 rfl inT_X8 (by decide) fL_X8_13 rfl dX8_lays_21 ?_
      refine go_iconst (pc := 24) X dX8_lays_24 ?_
      refine go_bipush (pc := 25) X dX8_lays_25 (by decide) (by decide) ?_
      refine go_iload_n (pc := 27) X 1 dX8_lays_27 rfl rfl ?_
      refine go_imul (pc := 28) X dX8_lays_28 ?_
      refine go_iadd (pc := 29) X dX8_lays_29 ?_
      refine go_iload_n (pc := 30) X 3 dX8_lays_30 rfl rfl ?_
      refine go_iadd (pc := 31) X dX8_lays_31 ?_
      obtain ⟨g15, h⟩ := gd_some h
      refine go_iald (pc := 32) X shM1 (Nat.le_of_ble_eq_true rfl) rfl g15 dX8_lays_32 ?_
      obtain ⟨g16, h⟩ := gd_some h
      obtain ⟨S17, e18, h⟩ := wrk_some h
      refine go_iastE (pc := 33) X e18 shM1 (Nat.le_of_ble_eq_true rfl) rfl g16 dX8_lays_33 ?_
      refine go_iinc (pc := 34) X [1, 2, 3, 0] 3 (Ls' := [(0, .ref (ad 0)), (1, .int (i32 a1)), (2, .int (i32 a2)), (3, .int (i32 (t9.1 + 1)))]) dX8_lays_34 rfl (by decide) rfl ?_
      refine go_goto (pc := 37) X 2 dX8_lays_37 rfl ?_
      exact lp_back h hx12
  refine H8 FU (0, S) r6 h7 ?_
  exact go_vret (pc := 40) X h dX8_lays_40
set_option maxRecDepth 100000 in
set_option maxHeartbeats 4000000 in
theorem ct_X8_addsOne {l : Launch} {D : va_G} {cI cB : ClassId} {Z : (Nat → Nat) × (Nat → Nat)} {ad : Nat → Nat} {S : Mem} {a1 : Int} {r : Int} {S' : Mem} (h : f_X8_addsOne S a1 = some (r, S')) : Ctr l D cI cB Z ad shsM yX8_addsOne cX8_addsOne 4 (some .int) 1 20 [.ref (ad 0), .int (i32 a1)] S (some (.int (i32 r))) S' := by
  refine ctr_of (by decide +kernel) (Nat.le_of_ble_eq_true rfl) rfl ?_
  intro p e s m args below meth c A X
  unfold f_X8_addsOne at h
  refine go_aload_n (pc := 0) X 0 dX8_addsOne_0 rfl rfl ?_
  obtain ⟨r1, h2, h⟩ := bind_some h
  refine go_callVi (pc := 1) X 0 [] (ct_X8_many h2) sh8 rfl gg_X8_61 hd_X8_many ⟨Nat.le_of_ble_eq_true rfl, Nat.le_of_ble_eq_true rfl⟩ rfl rfl (Nat.le_of_ble_eq_true rfl) dX8_addsOne_1 ?_
  refine go_istore_n (pc := 4) X [1, 2, 0] (Ls' := [(0, .ref (ad 0)), (1, .int (i32 a1)), (2, .int (i32 r1))]) dX8_addsOne_4 rfl (by decide) rfl ?_
  refine go_iconst (pc := 5) X dX8_addsOne_5 ?_
  refine go_istore_n (pc := 6) X [1, 2, 3, 0] (Ls' := [(0, .ref (ad 0)), (1, .int (i32 a1)), (2, .int (i32 r1)), (3, .int (i32 0))]) dX8_addsOne_6 rfl (by decide) rfl ?_
  obtain ⟨r7, h8, h⟩ := bind_some h
  have H9 : ∀ (n : Nat) (t10 : Int × Mem) (z11 : Mem), lp (f_X8_addsOne_l7 a1 r1) n t10 = some z11 → Go p l e { frames := 1, cells := 0, slots := 0, locals := 20 } s m args below meth c 4 D cI cB ad shsM A (MQ below (cQ D cI cB ad shsM (some (.int (i32 r))) S' A) args s 0 0 A) 33 [(0, .ref (ad 0)), (1, .int (i32 a1)), (2, .int (i32 r1))] [] z11 → Go p l e { frames := 1, cells := 0, slots := 0, locals := 20 } s m args below meth c 4 D cI cB ad shsM A (MQ below (cQ D cI cB ad shsM (some (.int (i32 r))) S' A) args s 0 0 A) 7 [(0, .ref (ad 0)), (1, .int (i32 a1)), (2, .int (i32 r1)), (3, .int (i32 t10.1))] [] t10.2 := by
    refine lp_go (fun t10 : Int × Mem => Go p l e { frames := 1, cells := 0, slots := 0, locals := 20 } s m args below meth c 4 D cI cB ad shsM A (MQ below (cQ D cI cB ad shsM (some (.int (i32 r))) S' A) args s 0 0 A) 7 [(0, .ref (ad 0)), (1, .int (i32 a1)), (2, .int (i32 r1)), (3, .int (i32 t10.1))] [] t10.2) (fun z11 : Mem => Go p l e { frames := 1, cells := 0, slots := 0, locals := 20 } s m args below meth c 4 D cI cB ad shsM A (MQ below (cQ D cI cB ad shsM (some (.int (i32 r))) S' A) args s 0 0 A) 33 [(0, .ref (ad 0)), (1, .int (i32 a1)), (2, .int (i32 r1))] [] z11) ?_
    intro t10 x12 h hx13
    unfold f_X8_addsOne_l7 at h
    refine go_iload_n (pc := 7) X 3 dX8_addsOne_7 rfl rfl ?_
    refine go_bipush (pc := 8) X dX8_addsOne_8 (by decide) (by decide) ?_
    refine go_icmp_ge (pc := 10) X 33 dX8_addsOne_10 rfl (fun c15 => ?_) (fun c15 => ?_)
    · rw [if_neg c15] at h
      refine go_pick [0, 1, 2] (Ls' := [(0, .ref (ad 0)), (1, .int (i32 a1)), (2, .int (i32 r1))]) rfl ?_
      exact lp_back h hx13
    · rw [if_pos c15] at h
      refine go_aload_n (pc := 13) X 0 dX8_addsOne_13 rfl rfl ?_
      refine go_getr (pc := 14) X (fk := 1) sh8 rfl inT_X8 (by decide) fL_X8_13 rfl dX8_addsOne_14 ?_
      refine go_iconst (pc := 17) X dX8_addsOne_17 ?_
      refine go_bipush (pc := 18) X dX8_addsOne_18 (by decide) (by decide) ?_
      refine go_iload_n (pc := 20) X 2 dX8_addsOne_20 rfl rfl ?_
      refine go_imul (pc := 21) X dX8_addsOne_21 ?_
      refine go_iadd (pc := 22) X dX8_addsOne_22 ?_
      refine go_iload_n (pc := 23) X 3 dX8_addsOne_23 rfl rfl ?_
      refine go_iadd (pc := 24) X dX8_addsOne_24 ?_
      refine go_iconst (pc := 25) X dX8_addsOne_25 ?_
      obtain ⟨g16, h⟩ := gd_some h
      obtain ⟨S17, e18, h⟩ := wrk_some h
      refine go_iastE (pc := 26) X e18 shM1 (Nat.le_of_ble_eq_true rfl) rfl g16 dX8_addsOne_26 ?_
      refine go_iinc (pc := 27) X [1, 2, 3, 0] 3 (Ls' := [(0, .ref (ad 0)), (1, .int (i32 a1)), (2, .int (i32 r1)), (3, .int (i32 (t10.1 + 1)))]) dX8_addsOne_27 rfl (by decide) rfl ?_
      refine go_goto (pc := 30) X 7 dX8_addsOne_30 rfl ?_
      exact lp_back h hx13
  refine H9 FU (0, S) r7 h8 ?_
  refine go_aload_n (pc := 33) X 0 dX8_addsOne_33 rfl rfl ?_
  refine go_getr (pc := 34) X (fk := 1) sh8 rfl inT_X8 (by decide) fL_X8_13 rfl dX8_addsOne_34 ?_
  refine go_iconst (pc := 37) X dX8_addsOne_37 ?_
  refine go_bipush (pc := 38) X dX8_addsOne_38 (by decide) (by decide) ?_
  refine go_iload_n (pc := 40) X 2 dX8_addsOne_40 rfl rfl ?_
  refine go_imul (pc := 41) X dX8_addsOne_41 ?_
  refine go_iadd (pc := 42) X dX8_addsOne_42 ?_
  refine go_iload_n (pc := 43) X 1 dX8_addsOne_43 rfl rfl ?_
  obtain ⟨g19, h⟩ := gd_some h
  obtain ⟨S20, e21, h⟩ := wrk_some h
  refine go_iastE (pc := 44) X e21 shM1 (Nat.le_of_ble_eq_true rfl) rfl g19 dX8_addsOne_44 ?_
  refine go_aload_n (pc := 45) X 0 dX8_addsOne_45 rfl rfl ?_
  refine go_getr (pc := 46) X (fk := 1) sh8 rfl inT_X8 (by decide) fL_X8_13 rfl dX8_addsOne_46 ?_
  refine go_iconst (pc := 49) X dX8_addsOne_49 ?_
  refine go_dup2 (pc := 50) X dX8_addsOne_50 rfl rfl ?_
  obtain ⟨g22, h⟩ := gd_some h
  refine go_iald (pc := 51) X shM1 (Nat.le_of_ble_eq_true rfl) rfl g22 dX8_addsOne_51 ?_
  refine go_iconst (pc := 52) X dX8_addsOne_52 ?_
  refine go_iadd (pc := 53) X dX8_addsOne_53 ?_
  obtain ⟨S23, e24, h⟩ := wrk_some h
  refine go_iastE (pc := 54) X e24 shM1 (Nat.le_of_ble_eq_true rfl) rfl g22 dX8_addsOne_54 ?_
  refine go_iload_n (pc := 55) X 2 dX8_addsOne_55 rfl rfl ?_
  exact go_iret (pc := 56) X h dX8_addsOne_56
set_option maxRecDepth 100000 in
set_option maxHeartbeats 4000000 in
theorem ct_X8_goes {l : Launch} {D : va_G} {cI cB : ClassId} {Z : (Nat → Nat) × (Nat → Nat)} {ad : Nat → Nat} {S : Mem} {a1 : Int} {S' : Mem} (h : f_X8_goes S a1 = some S') : Ctr l D cI cB Z ad shsM yX8_goes cX8_goes 3 none 1 23 [.ref (ad 0), .int (i32 a1)] S (none) S' := by
  refine ctr_of (by decide +kernel) (Nat.le_of_ble_eq_true rfl) rfl ?_
  intro p e s m args below meth c A X
  unfold f_X8_goes at h
  refine go_iload_n (pc := 0) X 1 dX8_goes_0 rfl rfl ?_
  refine go_istore_n (pc := 1) X [1, 2, 0] (Ls' := [(0, .ref (ad 0)), (1, .int (i32 a1)), (2, .int (i32 a1))]) dX8_goes_1 rfl (by decide) rfl ?_
  obtain ⟨r6, h7, h⟩ := bind_some h
  have H8 : ∀ (n : Nat) (t9 : Int × Mem) (z10 : Mem), lp (f_X8_goes_l2) n t9 = some z10 → Go p l e { frames := 1, cells := 0, slots := 0, locals := 23 } s m args below meth c 3 D cI cB ad shsM A (MQ below (cQ D cI cB ad shsM (none) S' A) args s 0 0 A) 26 [(0, .ref (ad 0))] [] z10 → Go p l e { frames := 1, cells := 0, slots := 0, locals := 23 } s m args below meth c 3 D cI cB ad shsM A (MQ below (cQ D cI cB ad shsM (none) S' A) args s 0 0 A) 2 [(0, .ref (ad 0)), (2, .int (i32 t9.1))] [] t9.2 := by
    refine lp_go (fun t9 : Int × Mem => Go p l e { frames := 1, cells := 0, slots := 0, locals := 23 } s m args below meth c 3 D cI cB ad shsM A (MQ below (cQ D cI cB ad shsM (none) S' A) args s 0 0 A) 2 [(0, .ref (ad 0)), (2, .int (i32 t9.1))] [] t9.2) (fun z10 : Mem => Go p l e { frames := 1, cells := 0, slots := 0, locals := 23 } s m args below meth c 3 D cI cB ad shsM A (MQ below (cQ D cI cB ad shsM (none) S' A) args s 0 0 A) 26 [(0, .ref (ad 0))] [] z10) ?_
    intro t9 x11 h hx12
    unfold f_X8_goes_l2 at h
    refine go_iload_n (pc := 2) X 1 dX8_goes_2 rfl rfl ?_
    refine go_iconst (pc := 3) X dX8_goes_3 ?_
    refine go_iadd (pc := 4) X dX8_goes_4 ?_
    refine go_aload_n (pc := 5) X 0 dX8_goes_5 rfl rfl ?_
    obtain ⟨r14, h15, h⟩ := bind_some h
    refine go_callVi (pc := 6) X 0 [.int (i32 (t9.1 + 1))] (ct_X8_many h15) sh8 rfl gg_X8_61 hd_X8_many ⟨Nat.le_of_ble_eq_true rfl, Nat.le_of_ble_eq_true rfl⟩ rfl rfl (Nat.le_of_ble_eq_true rfl) dX8_goes_6 ?_
    refine go_icmp_ge (pc := 9) X 26 dX8_goes_9 rfl (fun c16 => ?_) (fun c16 => ?_)
    · rw [if_neg c16] at h
      refine go_pick [0] (Ls' := [(0, .ref (ad 0))]) rfl ?_
      exact lp_back h hx12
    · rw [if_pos c16] at h
      refine go_aload_n (pc := 12) X 0 dX8_goes_12 rfl rfl ?_
      refine go_iload_n (pc := 13) X 1 dX8_goes_13 rfl rfl ?_
      refine go_iconst (pc := 14) X dX8_goes_14 ?_
      refine go_iadd (pc := 15) X dX8_goes_15 ?_
      refine go_iload_n (pc := 16) X 1 dX8_goes_16 rfl rfl ?_
      obtain ⟨S17, h18, h⟩ := bind_some h
      refine go_callVv (pc := 17) X 2 [] (ct_X8_lays h18) sh8 rfl gg_X8_80 hd_X8_lays ⟨Nat.le_of_ble_eq_true rfl, Nat.le_of_ble_eq_true rfl⟩ rfl rfl (Nat.le_of_ble_eq_true rfl) dX8_goes_17 ?_
      refine go_iinc (pc := 20) X [1, 0] 1 (Ls' := [(0, .ref (ad 0)), (2, .int (i32 (t9.1 + 1)))]) dX8_goes_20 rfl (by decide) rfl ?_
      refine go_goto (pc := 23) X 2 dX8_goes_23 rfl ?_
      exact lp_back h hx12
  refine go_pick [0, 2] (Ls' := [(0, .ref (ad 0)), (2, .int (i32 a1))]) rfl ?_
  refine H8 FU (a1, S) r6 h7 ?_
  refine go_aload_n (pc := 26) X 0 dX8_goes_26 rfl rfl ?_
  refine go_getr (pc := 27) X (fk := 1) sh8 rfl inT_X8 (by decide) fL_X8_13 rfl dX8_goes_27 ?_
  refine go_iconst (pc := 30) X dX8_goes_30 ?_
  refine go_dup2 (pc := 31) X dX8_goes_31 rfl rfl ?_
  obtain ⟨g19, h⟩ := gd_some h
  refine go_iald (pc := 32) X shM1 (Nat.le_of_ble_eq_true rfl) rfl g19 dX8_goes_32 ?_
  refine go_iconst (pc := 33) X dX8_goes_33 ?_
  refine go_isub (pc := 34) X dX8_goes_34 ?_
  obtain ⟨S20, e21, h⟩ := wrk_some h
  refine go_iastE (pc := 35) X e21 shM1 (Nat.le_of_ble_eq_true rfl) rfl g19 dX8_goes_35 ?_
  exact go_vret (pc := 36) X h dX8_goes_36
set_option maxRecDepth 100000 in
set_option maxHeartbeats 4000000 in
theorem ct_X8_comes {l : Launch} {D : va_G} {cI cB : ClassId} {Z : (Nat → Nat) × (Nat → Nat)} {ad : Nat → Nat} {S : Mem} {a1 : Int} {a2 : Int} {S' : Mem} (h : f_X8_comes S a1 a2 = some S') : Ctr l D cI cB Z ad shsM yX8_comes cX8_comes 5 none 1 21 [.ref (ad 0), .int (i32 a1), .int (i32 a2)] S (none) S' := by
  refine ctr_of (by decide +kernel) (Nat.le_of_ble_eq_true rfl) rfl ?_
  intro p e s m args below meth c A X
  unfold f_X8_comes at h
  refine go_iconst (pc := 0) X dX8_comes_0 ?_
  refine go_bipush (pc := 1) X dX8_comes_1 (by decide) (by decide) ?_
  refine go_iload_n (pc := 3) X 1 dX8_comes_3 rfl rfl ?_
  refine go_imul (pc := 4) X dX8_comes_4 ?_
  refine go_iadd (pc := 5) X dX8_comes_5 ?_
  refine go_iconst (pc := 6) X dX8_comes_6 ?_
  refine go_iadd (pc := 7) X dX8_comes_7 ?_
  refine go_istore_n (pc := 8) X [1, 2, 3, 0] (Ls' := [(0, .ref (ad 0)), (1, .int (i32 a1)), (2, .int (i32 a2)), (3, .int (i32 ((3 + (10 * a1)) + 2)))]) dX8_comes_8 rfl (by decide) rfl ?_
  refine go_aload_n (pc := 9) X 0 dX8_comes_9 rfl rfl ?_
  refine go_iload_n (pc := 10) X 1 dX8_comes_10 rfl rfl ?_
  obtain ⟨r1, h2, h⟩ := bind_some h
  refine go_callVi (pc := 11) X 1 [] (ct_X8_valuesOf h2) sh8 rfl gg_X8_73 hd_X8_valuesOf ⟨Nat.le_of_ble_eq_true rfl, Nat.le_of_ble_eq_true rfl⟩ rfl rfl (Nat.le_of_ble_eq_true rfl) dX8_comes_11 ?_
  refine go_istore (pc := 14) X [1, 2, 3, 4, 0] (Ls' := [(0, .ref (ad 0)), (1, .int (i32 a1)), (2, .int (i32 a2)), (3, .int (i32 ((3 + (10 * a1)) + 2))), (4, .int (i32 r1))]) dX8_comes_14 (by decide) rfl ?_
  obtain ⟨r9, h10, h⟩ := bind_some h
  have H11 : ∀ (n : Nat) (t12 : Int × Mem) (z13 : Int × Mem), lp (f_X8_comes_l16 a2 ((3 + (10 * a1)) + 2)) n t12 = some z13 → Go p l e { frames := 1, cells := 0, slots := 0, locals := 21 } s m args below meth c 5 D cI cB ad shsM A (MQ below (cQ D cI cB ad shsM (none) S' A) args s 0 0 A) 62 [(0, .ref (ad 0)), (2, .int (i32 a2)), (3, .int (i32 ((3 + (10 * a1)) + 2))), (4, .int (i32 z13.1))] [] z13.2 → Go p l e { frames := 1, cells := 0, slots := 0, locals := 21 } s m args below meth c 5 D cI cB ad shsM A (MQ below (cQ D cI cB ad shsM (none) S' A) args s 0 0 A) 16 [(0, .ref (ad 0)), (2, .int (i32 a2)), (3, .int (i32 ((3 + (10 * a1)) + 2))), (4, .int (i32 t12.1))] [] t12.2 := by
    refine lp_go (fun t12 : Int × Mem => Go p l e { frames := 1, cells := 0, slots := 0, locals := 21 } s m args below meth c 5 D cI cB ad shsM A (MQ below (cQ D cI cB ad shsM (none) S' A) args s 0 0 A) 16 [(0, .ref (ad 0)), (2, .int (i32 a2)), (3, .int (i32 ((3 + (10 * a1)) + 2))), (4, .int (i32 t12.1))] [] t12.2) (fun z13 : Int × Mem => Go p l e { frames := 1, cells := 0, slots := 0, locals := 21 } s m args below meth c 5 D cI cB ad shsM A (MQ below (cQ D cI cB ad shsM (none) S' A) args s 0 0 A) 62 [(0, .ref (ad 0)), (2, .int (i32 a2)), (3, .int (i32 ((3 + (10 * a1)) + 2))), (4, .int (i32 z13.1))] [] z13.2) ?_
    intro t12 x14 h hx15
    unfold f_X8_comes_l16 at h
    refine go_iload (pc := 16) X 3 dX8_comes_16 rfl ?_
    refine go_if_le (pc := 18) X 62 dX8_comes_18 rfl (fun c17 => ?_) (fun c17 => ?_)
    · rw [if_neg c17] at h
      exact lp_back h hx15
    · rw [if_pos c17] at h
      refine go_aload_n (pc := 21) X 0 dX8_comes_21 rfl rfl ?_
      refine go_getr (pc := 22) X (fk := 1) sh8 rfl inT_X8 (by decide) fL_X8_13 rfl dX8_comes_22 ?_
      refine go_iload_n (pc := 25) X 2 dX8_comes_25 rfl rfl ?_
      refine go_iload (pc := 26) X 3 dX8_comes_26 rfl ?_
      refine go_iadd (pc := 28) X dX8_comes_28 ?_
      refine go_iconst (pc := 29) X dX8_comes_29 ?_
      refine go_isub (pc := 30) X dX8_comes_30 ?_
      obtain ⟨g18, h⟩ := gd_some h
      refine go_iald (pc := 31) X shM1 (Nat.le_of_ble_eq_true rfl) rfl g18 dX8_comes_31 ?_
      refine go_iload_n (pc := 32) X 1 dX8_comes_32 rfl rfl ?_
      refine go_icmp_ge (pc := 33) X 62 dX8_comes_33 rfl (fun c19 => ?_) (fun c19 => ?_)
      · rw [if_neg c19] at h
        exact lp_back h hx15
      · rw [if_pos c19] at h
        refine go_aload_n (pc := 36) X 0 dX8_comes_36 rfl rfl ?_
        refine go_getr (pc := 37) X (fk := 1) sh8 rfl inT_X8 (by decide) fL_X8_13 rfl dX8_comes_37 ?_
        refine go_iload_n (pc := 40) X 2 dX8_comes_40 rfl rfl ?_
        refine go_iload (pc := 41) X 3 dX8_comes_41 rfl ?_
        refine go_iadd (pc := 43) X dX8_comes_43 ?_
        refine go_aload_n (pc := 44) X 0 dX8_comes_44 rfl rfl ?_
        refine go_getr (pc := 45) X (fk := 1) sh8 rfl inT_X8 (by decide) fL_X8_13 rfl dX8_comes_45 ?_
        refine go_iload_n (pc := 48) X 2 dX8_comes_48 rfl rfl ?_
        refine go_iload (pc := 49) X 3 dX8_comes_49 rfl ?_
        refine go_iadd (pc := 51) X dX8_comes_51 ?_
        refine go_iconst (pc := 52) X dX8_comes_52 ?_
        refine go_isub (pc := 53) X dX8_comes_53 ?_
        refine go_iald (pc := 54) X shM1 (Nat.le_of_ble_eq_true rfl) rfl g18 dX8_comes_54 ?_
        obtain ⟨g20, h⟩ := gd_some h
        obtain ⟨S21, e22, h⟩ := wrk_some h
        refine go_iastE (pc := 55) X e22 shM1 (Nat.le_of_ble_eq_true rfl) rfl g20 dX8_comes_55 ?_
        refine go_iinc (pc := 56) X [1, 2, 3, 0] 3 (Ls' := [(0, .ref (ad 0)), (2, .int (i32 a2)), (3, .int (i32 ((3 + (10 * a1)) + 2))), (4, .int (i32 (t12.1 + (-1))))]) dX8_comes_56 rfl (by decide) rfl ?_
        refine go_goto (pc := 59) X 16 dX8_comes_59 rfl ?_
        exact lp_back h hx15
  refine go_pick [0, 2, 3, 4] (Ls' := [(0, .ref (ad 0)), (2, .int (i32 a2)), (3, .int (i32 ((3 + (10 * a1)) + 2))), (4, .int (i32 r1))]) rfl ?_
  refine H11 FU (r1, S) r9 h10 ?_
  refine go_aload_n (pc := 62) X 0 dX8_comes_62 rfl rfl ?_
  refine go_getr (pc := 63) X (fk := 1) sh8 rfl inT_X8 (by decide) fL_X8_13 rfl dX8_comes_63 ?_
  refine go_iload_n (pc := 66) X 2 dX8_comes_66 rfl rfl ?_
  refine go_iload (pc := 67) X 3 dX8_comes_67 rfl ?_
  refine go_iadd (pc := 69) X dX8_comes_69 ?_
  refine go_iload_n (pc := 70) X 1 dX8_comes_70 rfl rfl ?_
  obtain ⟨g23, h⟩ := gd_some h
  obtain ⟨S24, e25, h⟩ := wrk_some h
  refine go_iastE (pc := 71) X e25 shM1 (Nat.le_of_ble_eq_true rfl) rfl g23 dX8_comes_71 ?_
  refine go_aload_n (pc := 72) X 0 dX8_comes_72 rfl rfl ?_
  refine go_getr (pc := 73) X (fk := 1) sh8 rfl inT_X8 (by decide) fL_X8_13 rfl dX8_comes_73 ?_
  refine go_iload_n (pc := 76) X 2 dX8_comes_76 rfl rfl ?_
  refine go_iconst (pc := 77) X dX8_comes_77 ?_
  refine go_isub (pc := 78) X dX8_comes_78 ?_
  refine go_dup2 (pc := 79) X dX8_comes_79 rfl rfl ?_
  obtain ⟨g26, h⟩ := gd_some h
  refine go_iald (pc := 80) X shM1 (Nat.le_of_ble_eq_true rfl) rfl g26 dX8_comes_80 ?_
  refine go_iconst (pc := 81) X dX8_comes_81 ?_
  refine go_iadd (pc := 82) X dX8_comes_82 ?_
  obtain ⟨S27, e28, h⟩ := wrk_some h
  refine go_iastE (pc := 83) X e28 shM1 (Nat.le_of_ble_eq_true rfl) rfl g26 dX8_comes_83 ?_
  exact go_vret (pc := 84) X h dX8_comes_84
set_option maxRecDepth 100000 in
set_option maxHeartbeats 4000000 in
theorem ct_X8_drops {l : Launch} {D : va_G} {cI cB : ClassId} {Z : (Nat → Nat) × (Nat → Nat)} {ad : Nat → Nat} {S : Mem} {a1 : Int} {a2 : Int} {S' : Mem} (h : f_X8_drops S a1 a2 = some S') : Ctr l D cI cB Z ad shsM yX8_drops cX8_drops 5 none 1 21 [.ref (ad 0), .int (i32 a1), .int (i32 a2)] S (none) S' := by
  refine ctr_of (by decide +kernel) (Nat.le_of_ble_eq_true rfl) rfl ?_
  intro p e s m args below meth c A X
  unfold f_X8_drops at h
  refine go_iconst (pc := 0) X dX8_drops_0 ?_
  refine go_bipush (pc := 1) X dX8_drops_1 (by decide) (by decide) ?_
  refine go_iload_n (pc := 3) X 1 dX8_drops_3 rfl rfl ?_
  refine go_imul (pc := 4) X dX8_drops_4 ?_
  refine go_iadd (pc := 5) X dX8_drops_5 ?_
  refine go_iconst (pc := 6) X dX8_drops_6 ?_
  refine go_iadd (pc := 7) X dX8_drops_7 ?_
  refine go_istore_n (pc := 8) X [1, 2, 3, 0] (Ls' := [(0, .ref (ad 0)), (1, .int (i32 a1)), (2, .int (i32 a2)), (3, .int (i32 ((3 + (10 * a1)) + 2)))]) dX8_drops_8 rfl (by decide) rfl ?_
  refine go_iload_n (pc := 9) X 2 dX8_drops_9 rfl rfl ?_
  refine go_istore (pc := 10) X [1, 2, 3, 4, 0] (Ls' := [(0, .ref (ad 0)), (1, .int (i32 a1)), (2, .int (i32 a2)), (3, .int (i32 ((3 + (10 * a1)) + 2))), (4, .int (i32 a2))]) dX8_drops_10 (by decide) rfl ?_
  obtain ⟨r8, h9, h⟩ := bind_some h
  have H10 : ∀ (n : Nat) (t11 : Int × Mem) (z12 : Mem), lp (f_X8_drops_l12 a1 ((3 + (10 * a1)) + 2)) n t11 = some z12 → Go p l e { frames := 1, cells := 0, slots := 0, locals := 21 } s m args below meth c 5 D cI cB ad shsM A (MQ below (cQ D cI cB ad shsM (none) S' A) args s 0 0 A) 50 [(0, .ref (ad 0)), (3, .int (i32 ((3 + (10 * a1)) + 2)))] [] z12 → Go p l e { frames := 1, cells := 0, slots := 0, locals := 21 } s m args below meth c 5 D cI cB ad shsM A (MQ below (cQ D cI cB ad shsM (none) S' A) args s 0 0 A) 12 [(0, .ref (ad 0)), (1, .int (i32 a1)), (3, .int (i32 ((3 + (10 * a1)) + 2))), (4, .int (i32 t11.1))] [] t11.2 := by
    refine lp_go (fun t11 : Int × Mem => Go p l e { frames := 1, cells := 0, slots := 0, locals := 21 } s m args below meth c 5 D cI cB ad shsM A (MQ below (cQ D cI cB ad shsM (none) S' A) args s 0 0 A) 12 [(0, .ref (ad 0)), (1, .int (i32 a1)), (3, .int (i32 ((3 + (10 * a1)) + 2))), (4, .int (i32 t11.1))] [] t11.2) (fun z12 : Mem => Go p l e { frames := 1, cells := 0, slots := 0, locals := 21 } s m args below meth c 5 D cI cB ad shsM A (MQ below (cQ D cI cB ad shsM (none) S' A) args s 0 0 A) 50 [(0, .ref (ad 0)), (3, .int (i32 ((3 + (10 * a1)) + 2)))] [] z12) ?_
    intro t11 x13 h hx14
    unfold f_X8_drops_l12 at h
    refine go_iload (pc := 12) X 3 dX8_drops_12 rfl ?_
    refine go_iconst (pc := 14) X dX8_drops_14 ?_
    refine go_iadd (pc := 15) X dX8_drops_15 ?_
    refine go_aload_n (pc := 16) X 0 dX8_drops_16 rfl rfl ?_
    refine go_iload_n (pc := 17) X 1 dX8_drops_17 rfl rfl ?_
    obtain ⟨r16, h17, h⟩ := bind_some h
    refine go_callVi (pc := 18) X 1 [.int (i32 (t11.1 + 1))] (ct_X8_valuesOf h17) sh8 rfl gg_X8_73 hd_X8_valuesOf ⟨Nat.le_of_ble_eq_true rfl, Nat.le_of_ble_eq_true rfl⟩ rfl rfl (Nat.le_of_ble_eq_true rfl) dX8_drops_18 ?_
    refine go_icmp_ge (pc := 21) X 50 dX8_drops_21 rfl (fun c18 => ?_) (fun c18 => ?_)
    · rw [if_neg c18] at h
      refine go_pick [0, 2] (Ls' := [(0, .ref (ad 0)), (3, .int (i32 ((3 + (10 * a1)) + 2)))]) rfl ?_
      exact lp_back h hx14
    · rw [if_pos c18] at h
      refine go_aload_n (pc := 24) X 0 dX8_drops_24 rfl rfl ?_
      refine go_getr (pc := 25) X (fk := 1) sh8 rfl inT_X8 (by decide) fL_X8_13 rfl dX8_drops_25 ?_
      refine go_iload_n (pc := 28) X 2 dX8_drops_28 rfl rfl ?_
      refine go_iload (pc := 29) X 3 dX8_drops_29 rfl ?_
      refine go_iadd (pc := 31) X dX8_drops_31 ?_
      refine go_aload_n (pc := 32) X 0 dX8_drops_32 rfl rfl ?_
      refine go_getr (pc := 33) X (fk := 1) sh8 rfl inT_X8 (by decide) fL_X8_13 rfl dX8_drops_33 ?_
      refine go_iload_n (pc := 36) X 2 dX8_drops_36 rfl rfl ?_
      refine go_iload (pc := 37) X 3 dX8_drops_37 rfl ?_
      refine go_iadd (pc := 39) X dX8_drops_39 ?_
      refine go_iconst (pc := 40) X dX8_drops_40 ?_
      refine go_iadd (pc := 41) X dX8_drops_41 ?_
      obtain ⟨g19, h⟩ := gd_some h
      refine go_iald (pc := 42) X shM1 (Nat.le_of_ble_eq_true rfl) rfl g19 dX8_drops_42 ?_
      obtain ⟨g20, h⟩ := gd_some h
      obtain ⟨S21, e22, h⟩ := wrk_some h
      refine go_iastE (pc := 43) X e22 shM1 (Nat.le_of_ble_eq_true rfl) rfl g20 dX8_drops_43 ?_
      refine go_iinc (pc := 44) X [1, 2, 3, 0] 3 (Ls' := [(0, .ref (ad 0)), (1, .int (i32 a1)), (3, .int (i32 ((3 + (10 * a1)) + 2))), (4, .int (i32 (t11.1 + 1)))]) dX8_drops_44 rfl (by decide) rfl ?_
      refine go_goto (pc := 47) X 12 dX8_drops_47 rfl ?_
      exact lp_back h hx14
  refine go_pick [0, 1, 3, 4] (Ls' := [(0, .ref (ad 0)), (1, .int (i32 a1)), (3, .int (i32 ((3 + (10 * a1)) + 2))), (4, .int (i32 a2))]) rfl ?_
  refine H10 FU (a2, S) r8 h9 ?_
  refine go_aload_n (pc := 50) X 0 dX8_drops_50 rfl rfl ?_
  refine go_getr (pc := 51) X (fk := 1) sh8 rfl inT_X8 (by decide) fL_X8_13 rfl dX8_drops_51 ?_
  refine go_iload_n (pc := 54) X 1 dX8_drops_54 rfl rfl ?_
  refine go_iconst (pc := 55) X dX8_drops_55 ?_
  refine go_isub (pc := 56) X dX8_drops_56 ?_
  refine go_dup2 (pc := 57) X dX8_drops_57 rfl rfl ?_
  obtain ⟨g23, h⟩ := gd_some h
  refine go_iald (pc := 58) X shM1 (Nat.le_of_ble_eq_true rfl) rfl g23 dX8_drops_58 ?_
  refine go_iconst (pc := 59) X dX8_drops_59 ?_
  refine go_isub (pc := 60) X dX8_drops_60 ?_
  obtain ⟨S24, e25, h⟩ := wrk_some h
  refine go_iastE (pc := 61) X e25 shM1 (Nat.le_of_ble_eq_true rfl) rfl g23 dX8_drops_61 ?_
  exact go_vret (pc := 62) X h dX8_drops_62
set_option maxRecDepth 100000 in
set_option maxHeartbeats 4000000 in
theorem ct_X8_join {l : Launch} {D : va_G} {cI cB : ClassId} {Z : (Nat → Nat) × (Nat → Nat)} {ad : Nat → Nat} {S : Mem} {r : Int} {S' : Mem} (h : f_X8_join S = some (r, S')) : Ctr l D cI cB Z ad shsM yX8_join cX8_join 1 (some .int) 2 43 [.ref (ad 0)] S (some (.int (i32 r))) S' := by
  refine ctr_of (by decide +kernel) (Nat.le_of_ble_eq_true rfl) rfl ?_
  intro p e s m args below meth c A X
  unfold f_X8_join at h
  refine go_aload_n (pc := 0) X 0 dX8_join_0 rfl rfl ?_
  obtain ⟨r1, h2, h⟩ := bind_some h
  refine go_callVi (pc := 1) X 0 [] (ct_X8_many h2) sh8 rfl gg_X8_61 hd_X8_many ⟨Nat.le_of_ble_eq_true rfl, Nat.le_of_ble_eq_true rfl⟩ rfl rfl (Nat.le_of_ble_eq_true rfl) dX8_join_1 ?_
  refine go_bipush (pc := 4) X dX8_join_4 (by decide) (by decide) ?_
  refine go_icmp_ne (pc := 6) X 11 dX8_join_6 rfl (fun c3 => ?_) (fun c3 => ?_)
  · rw [if_neg c3] at h
    refine go_aload_n (pc := 11) X 0 dX8_join_11 rfl rfl ?_
    obtain ⟨S4, h5, h⟩ := bind_some h
    refine go_callVv (pc := 12) X 0 [] (ct_X8_keeps h5) sh8 rfl gg_X8_84 hd_X8_keeps ⟨Nat.le_of_ble_eq_true rfl, Nat.le_of_ble_eq_true rfl⟩ rfl rfl (Nat.le_of_ble_eq_true rfl) dX8_join_12 ?_
    refine go_aload_n (pc := 15) X 0 dX8_join_15 rfl rfl ?_
    refine go_bipush (pc := 16) X dX8_join_16 (by decide) (by decide) ?_
    obtain ⟨u6, h7, h⟩ := bind_some h
    refine go_callVi (pc := 18) X 1 [] (ct_X8_addsOne h7) sh8 rfl gg_X8_87 hd_X8_addsOne ⟨Nat.le_of_ble_eq_true rfl, Nat.le_of_ble_eq_true rfl⟩ rfl rfl (Nat.le_of_ble_eq_true rfl) dX8_join_18 ?_
    exact go_iret (pc := 21) X h dX8_join_21
  · rw [if_pos c3] at h
    refine go_iconst (pc := 9) X dX8_join_9 ?_
    exact go_iret (pc := 10) X h dX8_join_10
set_option maxRecDepth 100000 in
set_option maxHeartbeats 4000000 in
theorem ct_X8_leave {l : Launch} {D : va_G} {cI cB : ClassId} {Z : (Nat → Nat) × (Nat → Nat)} {ad : Nat → Nat} {S : Mem} {a1 : Int} {r : Int} {S' : Mem} (h : f_X8_leave S a1 = some (r, S')) : Ctr l D cI cB Z ad shsM yX8_leave cX8_leave 2 (some .boolean) 2 45 [.ref (ad 0), .int (i32 a1)] S (some (.int (i32 r))) S' := by
  refine ctr_of (by decide +kernel) (Nat.le_of_ble_eq_true rfl) rfl ?_
  intro p e s m args below meth c A X
  unfold f_X8_leave at h
  refine go_aload_n (pc := 0) X 0 dX8_leave_0 rfl rfl ?_
  refine go_iload_n (pc := 1) X 1 dX8_leave_1 rfl rfl ?_
  obtain ⟨r1, h2, h⟩ := bind_some h
  refine go_callVi (pc := 2) X 1 [] (ct_X8_isBidder h2) sh8 rfl gg_X8_90 hd_X8_isBidder ⟨Nat.le_of_ble_eq_true rfl, Nat.le_of_ble_eq_true rfl⟩ rfl rfl (Nat.le_of_ble_eq_true rfl) dX8_leave_2 ?_
  refine go_if_ne (pc := 5) X 10 dX8_leave_5 rfl (fun c3 => ?_) (fun c3 => ?_)
  · rw [if_neg c3] at h
    refine go_aload_n (pc := 10) X 0 dX8_leave_10 rfl rfl ?_
    obtain ⟨S4, h5, h⟩ := bind_some h
    refine go_callVv (pc := 11) X 0 [] (ct_X8_keeps h5) sh8 rfl gg_X8_84 hd_X8_keeps ⟨Nat.le_of_ble_eq_true rfl, Nat.le_of_ble_eq_true rfl⟩ rfl rfl (Nat.le_of_ble_eq_true rfl) dX8_leave_11 ?_
    refine go_aload_n (pc := 14) X 0 dX8_leave_14 rfl rfl ?_
    refine go_iload_n (pc := 15) X 1 dX8_leave_15 rfl rfl ?_
    obtain ⟨S6, h7, h⟩ := bind_some h
    refine go_callVv (pc := 16) X 1 [] (ct_X8_goes h7) sh8 rfl gg_X8_94 hd_X8_goes ⟨Nat.le_of_ble_eq_true rfl, Nat.le_of_ble_eq_true rfl⟩ rfl rfl (Nat.le_of_ble_eq_true rfl) dX8_leave_16 ?_
    refine go_iconst (pc := 19) X dX8_leave_19 ?_
    exact go_zret (pc := 20) X (Or.inr rfl) h dX8_leave_20
  · rw [if_pos c3] at h
    refine go_iconst (pc := 8) X dX8_leave_8 ?_
    exact go_zret (pc := 9) X (Or.inl rfl) h dX8_leave_9
set_option maxRecDepth 100000 in
set_option maxHeartbeats 4000000 in
theorem ct_X8_value {l : Launch} {D : va_G} {cI cB : ClassId} {Z : (Nat → Nat) × (Nat → Nat)} {ad : Nat → Nat} {S : Mem} {a1 : Int} {a2 : Int} {r : Int} {S' : Mem} (h : f_X8_value S a1 a2 = some (r, S')) : Ctr l D cI cB Z ad shsM yX8_value cX8_value 3 (some .int) 2 45 [.ref (ad 0), .int (i32 a1), .int (i32 a2)] S (some (.int (i32 r))) S' := by
  refine ctr_of (by decide +kernel) (Nat.le_of_ble_eq_true rfl) rfl ?_
  intro p e s m args below meth c A X
  unfold f_X8_value at h
  refine go_aload_n (pc := 0) X 0 dX8_value_0 rfl rfl ?_
  refine go_iload_n (pc := 1) X 1 dX8_value_1 rfl rfl ?_
  obtain ⟨r1, h2, h⟩ := bind_some h
  refine go_callVi (pc := 2) X 1 [] (ct_X8_isBidder h2) sh8 rfl gg_X8_90 hd_X8_isBidder ⟨Nat.le_of_ble_eq_true rfl, Nat.le_of_ble_eq_true rfl⟩ rfl rfl (Nat.le_of_ble_eq_true rfl) dX8_value_2 ?_
  refine go_if_eq (pc := 5) X 25 dX8_value_5 rfl (fun c3 => ?_) (fun c3 => ?_)
  · rw [if_pos c3] at h
    refine go_iconst (pc := 25) X dX8_value_25 ?_
    exact go_iret (pc := 26) X h dX8_value_26
  · rw [if_neg c3] at h
    refine go_iload_n (pc := 8) X 2 dX8_value_8 rfl rfl ?_
    obtain ⟨r4, h5, h⟩ := bind_some h
    refine go_callSi (pc := 9) X 1 [] (ct_X8_isPrice h5) gg_X8_98 hd_X8_isPrice ⟨Nat.le_of_ble_eq_true rfl, Nat.le_of_ble_eq_true rfl⟩ rfl rfl (Nat.le_of_ble_eq_true rfl) dX8_value_9 ?_
    refine go_if_eq (pc := 12) X 25 dX8_value_12 rfl (fun c6 => ?_) (fun c6 => ?_)
    · rw [if_pos c6] at h
      refine go_iconst (pc := 25) X dX8_value_25 ?_
      exact go_iret (pc := 26) X h dX8_value_26
    · rw [if_neg c6] at h
      refine go_aload_n (pc := 15) X 0 dX8_value_15 rfl rfl ?_
      refine go_iload_n (pc := 16) X 1 dX8_value_16 rfl rfl ?_
      obtain ⟨r7, h8, h⟩ := bind_some h
      refine go_callVi (pc := 17) X 1 [] (ct_X8_valuesOf h8) sh8 rfl gg_X8_73 hd_X8_valuesOf ⟨Nat.le_of_ble_eq_true rfl, Nat.le_of_ble_eq_true rfl⟩ rfl rfl (Nat.le_of_ble_eq_true rfl) dX8_value_17 ?_
      refine go_bipush (pc := 20) X dX8_value_20 (by decide) (by decide) ?_
      refine go_icmp_ne (pc := 22) X 27 dX8_value_22 rfl (fun c9 => ?_) (fun c9 => ?_)
      · rw [if_neg c9] at h
        refine go_aload_n (pc := 27) X 0 dX8_value_27 rfl rfl ?_
        obtain ⟨S10, h11, h⟩ := bind_some h
        refine go_callVv (pc := 28) X 0 [] (ct_X8_keeps h11) sh8 rfl gg_X8_84 hd_X8_keeps ⟨Nat.le_of_ble_eq_true rfl, Nat.le_of_ble_eq_true rfl⟩ rfl rfl (Nat.le_of_ble_eq_true rfl) dX8_value_28 ?_
        refine go_aload_n (pc := 31) X 0 dX8_value_31 rfl rfl ?_
        refine go_iload_n (pc := 32) X 1 dX8_value_32 rfl rfl ?_
        refine go_iload_n (pc := 33) X 2 dX8_value_33 rfl rfl ?_
        obtain ⟨S12, h13, h⟩ := bind_some h
        refine go_callVv (pc := 34) X 2 [] (ct_X8_comes h13) sh8 rfl gg_X8_101 hd_X8_comes ⟨Nat.le_of_ble_eq_true rfl, Nat.le_of_ble_eq_true rfl⟩ rfl rfl (Nat.le_of_ble_eq_true rfl) dX8_value_34 ?_
        refine go_aload_n (pc := 37) X 0 dX8_value_37 rfl rfl ?_
        refine go_iload_n (pc := 38) X 1 dX8_value_38 rfl rfl ?_
        obtain ⟨r14, h15, h⟩ := bind_some h
        refine go_callVi (pc := 39) X 1 [] (ct_X8_valuesOf h15) sh8 rfl gg_X8_73 hd_X8_valuesOf ⟨Nat.le_of_ble_eq_true rfl, Nat.le_of_ble_eq_true rfl⟩ rfl rfl (Nat.le_of_ble_eq_true rfl) dX8_value_39 ?_
        exact go_iret (pc := 42) X h dX8_value_42
      · rw [if_pos c9] at h
        refine go_iconst (pc := 25) X dX8_value_25 ?_
        exact go_iret (pc := 26) X h dX8_value_26
set_option maxRecDepth 100000 in
set_option maxHeartbeats 4000000 in
theorem ct_X8_isValue {l : Launch} {D : va_G} {cI cB : ClassId} {Z : (Nat → Nat) × (Nat → Nat)} {ad : Nat → Nat} {S : Mem} {a1 : Int} {a2 : Int} {r : Int} (h : f_X8_isValue S a1 a2 = some r) : Ctr l D cI cB Z ad shsM yX8_isValue cX8_isValue 3 (some .boolean) 2 43 [.ref (ad 0), .int (i32 a1), .int (i32 a2)] S (some (.int (i32 r))) S := by
  refine ctr_of (by decide +kernel) (Nat.le_of_ble_eq_true rfl) rfl ?_
  intro p e s m args below meth c A X
  unfold f_X8_isValue at h
  refine go_aload_n (pc := 0) X 0 dX8_isValue_0 rfl rfl ?_
  refine go_iload_n (pc := 1) X 1 dX8_isValue_1 rfl rfl ?_
  obtain ⟨r1, h2, h⟩ := bind_some h
  refine go_callVi (pc := 2) X 1 [] (ct_X8_isBidder h2) sh8 rfl gg_X8_90 hd_X8_isBidder ⟨Nat.le_of_ble_eq_true rfl, Nat.le_of_ble_eq_true rfl⟩ rfl rfl (Nat.le_of_ble_eq_true rfl) dX8_isValue_2 ?_
  refine go_if_eq (pc := 5) X 27 dX8_isValue_5 rfl (fun c3 => ?_) (fun c3 => ?_)
  · rw [if_pos c3] at h
    refine go_iconst (pc := 27) X dX8_isValue_27 ?_
    exact go_zretP (pc := 28) X (Or.inl rfl) h dX8_isValue_28
  · rw [if_neg c3] at h
    refine go_iload_n (pc := 8) X 2 dX8_isValue_8 rfl rfl ?_
    refine go_iconst (pc := 9) X dX8_isValue_9 ?_
    refine go_aload_n (pc := 10) X 0 dX8_isValue_10 rfl rfl ?_
    refine go_iload_n (pc := 11) X 1 dX8_isValue_11 rfl rfl ?_
    obtain ⟨r4, h5, h⟩ := bind_some h
    refine go_callVi (pc := 12) X 1 [.int (i32 0), .int (i32 a2)] (ct_X8_valuesOf h5) sh8 rfl gg_X8_73 hd_X8_valuesOf ⟨Nat.le_of_ble_eq_true rfl, Nat.le_of_ble_eq_true rfl⟩ rfl rfl (Nat.le_of_ble_eq_true rfl) dX8_isValue_12 ?_
    refine go_iconst (pc := 15) X dX8_isValue_15 ?_
    refine go_isub (pc := 16) X dX8_isValue_16 ?_
    obtain ⟨r6, h7, h⟩ := bind_some h
    refine go_callSi (pc := 17) X 3 [] (ct_X8_in h7) gg_X8_65 hd_X8_in ⟨Nat.le_of_ble_eq_true rfl, Nat.le_of_ble_eq_true rfl⟩ rfl rfl (Nat.le_of_ble_eq_true rfl) dX8_isValue_17 ?_
    refine go_if_eq (pc := 20) X 27 dX8_isValue_20 rfl (fun c8 => ?_) (fun c8 => ?_)
    · rw [if_pos c8] at h
      refine go_iconst (pc := 27) X dX8_isValue_27 ?_
      exact go_zretP (pc := 28) X (Or.inl rfl) h dX8_isValue_28
    · rw [if_neg c8] at h
      refine go_iconst (pc := 23) X dX8_isValue_23 ?_
      refine go_goto (pc := 24) X 28 dX8_isValue_24 rfl ?_
      exact go_zretP (pc := 28) X (Or.inr rfl) h dX8_isValue_28
set_option maxRecDepth 100000 in
set_option maxHeartbeats 4000000 in
theorem ct_X8_without {l : Launch} {D : va_G} {cI cB : ClassId} {Z : (Nat → Nat) × (Nat → Nat)} {ad : Nat → Nat} {S : Mem} {a1 : Int} {a2 : Int} {r : Int} {S' : Mem} (h : f_X8_without S a1 a2 = some (r, S')) : Ctr l D cI cB Z ad shsM yX8_without cX8_without 3 (some .int) 3 65 [.ref (ad 0), .int (i32 a1), .int (i32 a2)] S (some (.int (i32 r))) S' := by
  refine ctr_of (by decide +kernel) (Nat.le_of_ble_eq_true rfl) rfl ?_
  intro p e s m args below meth c A X
  unfold f_X8_without at h
  refine go_aload_n (pc := 0) X 0 dX8_without_0 rfl rfl ?_
  refine go_iload_n (pc := 1) X 1 dX8_without_1 rfl rfl ?_
  refine go_iload_n (pc := 2) X 2 dX8_without_2 rfl rfl ?_
  obtain ⟨r1, h2, h⟩ := bind_some h
  refine go_callVi (pc := 3) X 2 [] (ct_X8_isValue h2) sh8 rfl gg_X8_104 hd_X8_isValue ⟨Nat.le_of_ble_eq_true rfl, Nat.le_of_ble_eq_true rfl⟩ rfl rfl (Nat.le_of_ble_eq_true rfl) dX8_without_3 ?_
  refine go_if_ne (pc := 6) X 11 dX8_without_6 rfl (fun c3 => ?_) (fun c3 => ?_)
  · rw [if_neg c3] at h
    refine go_aload_n (pc := 11) X 0 dX8_without_11 rfl rfl ?_
    obtain ⟨S4, h5, h⟩ := bind_some h
    refine go_callVv (pc := 12) X 0 [] (ct_X8_keeps h5) sh8 rfl gg_X8_84 hd_X8_keeps ⟨Nat.le_of_ble_eq_true rfl, Nat.le_of_ble_eq_true rfl⟩ rfl rfl (Nat.le_of_ble_eq_true rfl) dX8_without_12 ?_
    refine go_aload_n (pc := 15) X 0 dX8_without_15 rfl rfl ?_
    refine go_iload_n (pc := 16) X 1 dX8_without_16 rfl rfl ?_
    refine go_iload_n (pc := 17) X 2 dX8_without_17 rfl rfl ?_
    obtain ⟨S6, h7, h⟩ := bind_some h
    refine go_callVv (pc := 18) X 2 [] (ct_X8_drops h7) sh8 rfl gg_X8_108 hd_X8_drops ⟨Nat.le_of_ble_eq_true rfl, Nat.le_of_ble_eq_true rfl⟩ rfl rfl (Nat.le_of_ble_eq_true rfl) dX8_without_18 ?_
    refine go_aload_n (pc := 21) X 0 dX8_without_21 rfl rfl ?_
    refine go_iload_n (pc := 22) X 1 dX8_without_22 rfl rfl ?_
    obtain ⟨r8, h9, h⟩ := bind_some h
    refine go_callVi (pc := 23) X 1 [] (ct_X8_valuesOf h9) sh8 rfl gg_X8_73 hd_X8_valuesOf ⟨Nat.le_of_ble_eq_true rfl, Nat.le_of_ble_eq_true rfl⟩ rfl rfl (Nat.le_of_ble_eq_true rfl) dX8_without_23 ?_
    exact go_iret (pc := 26) X h dX8_without_26
  · rw [if_pos c3] at h
    refine go_iconst (pc := 9) X dX8_without_9 ?_
    exact go_iret (pc := 10) X h dX8_without_10
set_option maxRecDepth 100000 in
set_option maxHeartbeats 4000000 in
theorem ct_X8_becomes {l : Launch} {D : va_G} {cI cB : ClassId} {Z : (Nat → Nat) × (Nat → Nat)} {ad : Nat → Nat} {S : Mem} {a1 : Int} {a2 : Int} {r : Int} {S' : Mem} (h : f_X8_becomes S a1 a2 = some (r, S')) : Ctr l D cI cB Z ad shsM yX8_becomes cX8_becomes 4 (some .int) 1 21 [.ref (ad 0), .int (i32 a1), .int (i32 a2)] S (some (.int (i32 r))) S' := by
  refine ctr_of (by decide +kernel) (Nat.le_of_ble_eq_true rfl) rfl ?_
  intro p e s m args below meth c A X
  unfold f_X8_becomes at h
  refine go_aload_n (pc := 0) X 0 dX8_becomes_0 rfl rfl ?_
  obtain ⟨S1, h2, h⟩ := bind_some h
  refine go_callVv (pc := 1) X 0 [] (ct_X8_keeps h2) sh8 rfl gg_X8_84 hd_X8_keeps ⟨Nat.le_of_ble_eq_true rfl, Nat.le_of_ble_eq_true rfl⟩ rfl rfl (Nat.le_of_ble_eq_true rfl) dX8_becomes_1 ?_
  refine go_aload_n (pc := 4) X 0 dX8_becomes_4 rfl rfl ?_
  refine go_getr (pc := 5) X (fk := 1) sh8 rfl inT_X8 (by decide) fL_X8_13 rfl dX8_becomes_5 ?_
  refine go_iload_n (pc := 8) X 1 dX8_becomes_8 rfl rfl ?_
  obtain ⟨g3, h⟩ := gd_some h
  refine go_iald (pc := 9) X shM1 (Nat.le_of_ble_eq_true rfl) rfl g3 dX8_becomes_9 ?_
  refine go_istore_n (pc := 10) X [1, 2, 3, 0] (Ls' := [(0, .ref (ad 0)), (1, .int (i32 a1)), (2, .int (i32 a2)), (3, .int (i32 (S1 1 a1)))]) dX8_becomes_10 rfl (by decide) rfl ?_
  refine go_aload_n (pc := 11) X 0 dX8_becomes_11 rfl rfl ?_
  refine go_getr (pc := 12) X (fk := 1) sh8 rfl inT_X8 (by decide) fL_X8_13 rfl dX8_becomes_12 ?_
  refine go_iload_n (pc := 15) X 1 dX8_becomes_15 rfl rfl ?_
  refine go_iload_n (pc := 16) X 2 dX8_becomes_16 rfl rfl ?_
  obtain ⟨S4, e5, h⟩ := wrk_some h
  refine go_iastE (pc := 17) X e5 shM1 (Nat.le_of_ble_eq_true rfl) rfl g3 dX8_becomes_17 ?_
  refine go_iload_n (pc := 18) X 3 dX8_becomes_18 rfl rfl ?_
  exact go_iret (pc := 19) X h dX8_becomes_19
set_option maxRecDepth 100000 in
set_option maxHeartbeats 4000000 in
theorem ct_X8_cap {l : Launch} {D : va_G} {cI cB : ClassId} {Z : (Nat → Nat) × (Nat → Nat)} {ad : Nat → Nat} {S : Mem} {a1 : Int} {a2 : Int} {r : Int} {S' : Mem} (h : f_X8_cap S a1 a2 = some (r, S')) : Ctr l D cI cB Z ad shsM yX8_cap cX8_cap 3 (some .int) 2 44 [.ref (ad 0), .int (i32 a1), .int (i32 a2)] S (some (.int (i32 r))) S' := by
  refine ctr_of (by decide +kernel) (Nat.le_of_ble_eq_true rfl) rfl ?_
  intro p e s m args below meth c A X
  unfold f_X8_cap at h
  refine go_aload_n (pc := 0) X 0 dX8_cap_0 rfl rfl ?_
  refine go_iload_n (pc := 1) X 1 dX8_cap_1 rfl rfl ?_
  obtain ⟨r1, h2, h⟩ := bind_some h
  refine go_callVi (pc := 2) X 1 [] (ct_X8_isBidder h2) sh8 rfl gg_X8_90 hd_X8_isBidder ⟨Nat.le_of_ble_eq_true rfl, Nat.le_of_ble_eq_true rfl⟩ rfl rfl (Nat.le_of_ble_eq_true rfl) dX8_cap_2 ?_
  refine go_if_eq (pc := 5) X 41 dX8_cap_5 rfl (fun c3 => ?_) (fun c3 => ?_)
  · rw [if_pos c3] at h
    refine go_iconst (pc := 41) X dX8_cap_41 ?_
    exact go_iret (pc := 42) X h dX8_cap_42
  · rw [if_neg c3] at h
    refine go_iload_n (pc := 8) X 2 dX8_cap_8 rfl rfl ?_
    refine go_iconst (pc := 9) X dX8_cap_9 ?_
    refine go_bipush (pc := 10) X dX8_cap_10 (by decide) (by decide) ?_
    obtain ⟨r4, h5, h⟩ := bind_some h
    refine go_callSi (pc := 12) X 3 [] (ct_X8_in h5) gg_X8_65 hd_X8_in ⟨Nat.le_of_ble_eq_true rfl, Nat.le_of_ble_eq_true rfl⟩ rfl rfl (Nat.le_of_ble_eq_true rfl) dX8_cap_12 ?_
    refine go_if_eq (pc := 15) X 41 dX8_cap_15 rfl (fun c6 => ?_) (fun c6 => ?_)
    · rw [if_pos c6] at h
      refine go_iconst (pc := 41) X dX8_cap_41 ?_
      exact go_iret (pc := 42) X h dX8_cap_42
    · rw [if_neg c6] at h
      refine go_aload_n (pc := 18) X 0 dX8_cap_18 rfl rfl ?_
      refine go_iload_n (pc := 19) X 1 dX8_cap_19 rfl rfl ?_
      obtain ⟨r7, h8, h⟩ := bind_some h
      refine go_callVi (pc := 20) X 1 [] (ct_X8_capOf h8) sh8 rfl gg_X8_69 hd_X8_capOf ⟨Nat.le_of_ble_eq_true rfl, Nat.le_of_ble_eq_true rfl⟩ rfl rfl (Nat.le_of_ble_eq_true rfl) dX8_cap_20 ?_
      refine go_iload_n (pc := 23) X 2 dX8_cap_23 rfl rfl ?_
      refine go_icmp_eq (pc := 24) X 41 dX8_cap_24 rfl (fun c9 => ?_) (fun c9 => ?_)
      · rw [if_pos c9] at h
        refine go_iconst (pc := 41) X dX8_cap_41 ?_
        exact go_iret (pc := 42) X h dX8_cap_42
      · rw [if_neg c9] at h
        refine go_aload_n (pc := 27) X 0 dX8_cap_27 rfl rfl ?_
        refine go_iconst (pc := 28) X dX8_cap_28 ?_
        refine go_bipush (pc := 29) X dX8_cap_29 (by decide) (by decide) ?_
        refine go_iload_n (pc := 31) X 1 dX8_cap_31 rfl rfl ?_
        refine go_imul (pc := 32) X dX8_cap_32 ?_
        refine go_iadd (pc := 33) X dX8_cap_33 ?_
        refine go_iload_n (pc := 34) X 2 dX8_cap_34 rfl rfl ?_
        obtain ⟨u10, h11, h⟩ := bind_some h
        refine go_callVi (pc := 35) X 2 [] (ct_X8_becomes h11) sh8 rfl gg_X8_111 hd_X8_becomes ⟨Nat.le_of_ble_eq_true rfl, Nat.le_of_ble_eq_true rfl⟩ rfl rfl (Nat.le_of_ble_eq_true rfl) dX8_cap_35 ?_
        refine go_goto (pc := 38) X 42 dX8_cap_38 rfl ?_
        exact go_iret (pc := 42) X h dX8_cap_42
set_option maxRecDepth 100000 in
set_option maxHeartbeats 4000000 in
theorem ct_X8_change {l : Launch} {D : va_G} {cI cB : ClassId} {Z : (Nat → Nat) × (Nat → Nat)} {ad : Nat → Nat} {S : Mem} {a1 : Int} {a2 : Int} {a3 : Int} {r : Int} {S' : Mem} (h : f_X8_change S a1 a2 a3 = some (r, S')) : Ctr l D cI cB Z ad shsM yX8_change cX8_change 5 (some .int) 3 65 [.ref (ad 0), .int (i32 a1), .int (i32 a2), .int (i32 a3)] S (some (.int (i32 r))) S' := by
  refine ctr_of (by decide +kernel) (Nat.le_of_ble_eq_true rfl) rfl ?_
  intro p e s m args below meth c A X
  unfold f_X8_change at h
  refine go_aload_n (pc := 0) X 0 dX8_change_0 rfl rfl ?_
  refine go_iload_n (pc := 1) X 1 dX8_change_1 rfl rfl ?_
  refine go_iload_n (pc := 2) X 2 dX8_change_2 rfl rfl ?_
  obtain ⟨r1, h2, h⟩ := bind_some h
  refine go_callVi (pc := 3) X 2 [] (ct_X8_isValue h2) sh8 rfl gg_X8_104 hd_X8_isValue ⟨Nat.le_of_ble_eq_true rfl, Nat.le_of_ble_eq_true rfl⟩ rfl rfl (Nat.le_of_ble_eq_true rfl) dX8_change_3 ?_
  refine go_if_eq (pc := 6) X 26 dX8_change_6 rfl (fun c3 => ?_) (fun c3 => ?_)
  · rw [if_pos c3] at h
    refine go_iconst (pc := 26) X dX8_change_26 ?_
    exact go_iret (pc := 27) X h dX8_change_27
  · rw [if_neg c3] at h
    refine go_iload_n (pc := 9) X 3 dX8_change_9 rfl rfl ?_
    obtain ⟨r4, h5, h⟩ := bind_some h
    refine go_callSi (pc := 10) X 1 [] (ct_X8_isPrice h5) gg_X8_98 hd_X8_isPrice ⟨Nat.le_of_ble_eq_true rfl, Nat.le_of_ble_eq_true rfl⟩ rfl rfl (Nat.le_of_ble_eq_true rfl) dX8_change_10 ?_
    refine go_if_eq (pc := 13) X 26 dX8_change_13 rfl (fun c6 => ?_) (fun c6 => ?_)
    · rw [if_pos c6] at h
      refine go_iconst (pc := 26) X dX8_change_26 ?_
      exact go_iret (pc := 27) X h dX8_change_27
    · rw [if_neg c6] at h
      refine go_aload_n (pc := 16) X 0 dX8_change_16 rfl rfl ?_
      refine go_iload_n (pc := 17) X 1 dX8_change_17 rfl rfl ?_
      refine go_iload_n (pc := 18) X 2 dX8_change_18 rfl rfl ?_
      obtain ⟨r7, h8, h⟩ := bind_some h
      refine go_callVi (pc := 19) X 2 [] (ct_X8_valueAt h8) sh8 rfl gg_X8_114 hd_X8_valueAt ⟨Nat.le_of_ble_eq_true rfl, Nat.le_of_ble_eq_true rfl⟩ rfl rfl (Nat.le_of_ble_eq_true rfl) dX8_change_19 ?_
      refine go_iload_n (pc := 22) X 3 dX8_change_22 rfl rfl ?_
      refine go_icmp_ne (pc := 23) X 28 dX8_change_23 rfl (fun c9 => ?_) (fun c9 => ?_)
      · rw [if_neg c9] at h
        refine go_aload_n (pc := 28) X 0 dX8_change_28 rfl rfl ?_
        obtain ⟨S10, h11, h⟩ := bind_some h
        refine go_callVv (pc := 29) X 0 [] (ct_X8_keeps h11) sh8 rfl gg_X8_84 hd_X8_keeps ⟨Nat.le_of_ble_eq_true rfl, Nat.le_of_ble_eq_true rfl⟩ rfl rfl (Nat.le_of_ble_eq_true rfl) dX8_change_29 ?_
        refine go_aload_n (pc := 32) X 0 dX8_change_32 rfl rfl ?_
        refine go_iload_n (pc := 33) X 1 dX8_change_33 rfl rfl ?_
        refine go_iload_n (pc := 34) X 2 dX8_change_34 rfl rfl ?_
        obtain ⟨r12, h13, h⟩ := bind_some h
        refine go_callVi (pc := 35) X 2 [] (ct_X8_valueAt h13) sh8 rfl gg_X8_114 hd_X8_valueAt ⟨Nat.le_of_ble_eq_true rfl, Nat.le_of_ble_eq_true rfl⟩ rfl rfl (Nat.le_of_ble_eq_true rfl) dX8_change_35 ?_
        refine go_istore (pc := 38) X [1, 2, 3, 4, 0] (Ls' := [(0, .ref (ad 0)), (1, .int (i32 a1)), (2, .int (i32 a2)), (3, .int (i32 a3)), (4, .int (i32 r12))]) dX8_change_38 (by decide) rfl ?_
        refine go_aload_n (pc := 40) X 0 dX8_change_40 rfl rfl ?_
        refine go_iload_n (pc := 41) X 1 dX8_change_41 rfl rfl ?_
        refine go_iload_n (pc := 42) X 2 dX8_change_42 rfl rfl ?_
        obtain ⟨S14, h15, h⟩ := bind_some h
        refine go_callVv (pc := 43) X 2 [] (ct_X8_drops h15) sh8 rfl gg_X8_108 hd_X8_drops ⟨Nat.le_of_ble_eq_true rfl, Nat.le_of_ble_eq_true rfl⟩ rfl rfl (Nat.le_of_ble_eq_true rfl) dX8_change_43 ?_
        refine go_aload_n (pc := 46) X 0 dX8_change_46 rfl rfl ?_
        refine go_iload_n (pc := 47) X 1 dX8_change_47 rfl rfl ?_
        refine go_iload_n (pc := 48) X 3 dX8_change_48 rfl rfl ?_
        obtain ⟨S16, h17, h⟩ := bind_some h
        refine go_callVv (pc := 49) X 2 [] (ct_X8_comes h17) sh8 rfl gg_X8_101 hd_X8_comes ⟨Nat.le_of_ble_eq_true rfl, Nat.le_of_ble_eq_true rfl⟩ rfl rfl (Nat.le_of_ble_eq_true rfl) dX8_change_49 ?_
        refine go_iload (pc := 52) X 4 dX8_change_52 rfl ?_
        exact go_iret (pc := 54) X h dX8_change_54
      · rw [if_pos c9] at h
        refine go_iconst (pc := 26) X dX8_change_26 ?_
        exact go_iret (pc := 27) X h dX8_change_27
set_option maxRecDepth 100000 in
set_option maxHeartbeats 4000000 in
theorem ct_X8_parts {l : Launch} {D : va_G} {cI cB : ClassId} {Z : (Nat → Nat) × (Nat → Nat)} {ad : Nat → Nat} {S : Mem} {a1 : Int} {a2 : Int} {r : Int} {S' : Mem} (h : f_X8_parts S a1 a2 = some (r, S')) : Ctr l D cI cB Z ad shsM yX8_parts cX8_parts 6 (some .int) 2 45 [.ref (ad 0), .int (i32 a1), .int (i32 a2)] S (some (.int (i32 r))) S' := by
  refine ctr_of (by decide +kernel) (Nat.le_of_ble_eq_true rfl) rfl ?_
  intro p e s m args below meth c A X
  unfold f_X8_parts at h
  refine go_aload_n (pc := 0) X 0 dX8_parts_0 rfl rfl ?_
  refine go_aload_n (pc := 1) X 0 dX8_parts_1 rfl rfl ?_
  refine go_iload_n (pc := 2) X 1 dX8_parts_2 rfl rfl ?_
  obtain ⟨r1, h2, h⟩ := bind_some h
  refine go_callVi (pc := 3) X 1 [.ref (ad 0)] (ct_X8_capOf h2) sh8 rfl gg_X8_69 hd_X8_capOf ⟨Nat.le_of_ble_eq_true rfl, Nat.le_of_ble_eq_true rfl⟩ rfl rfl (Nat.le_of_ble_eq_true rfl) dX8_parts_3 ?_
  obtain ⟨u3, h4, h⟩ := bind_some h
  refine go_callVi (pc := 6) X 1 [] (ct_X8_addsOne h4) sh8 rfl gg_X8_87 hd_X8_addsOne ⟨Nat.le_of_ble_eq_true rfl, Nat.le_of_ble_eq_true rfl⟩ rfl rfl (Nat.le_of_ble_eq_true rfl) dX8_parts_6 ?_
  refine go_istore_n (pc := 9) X [1, 2, 3, 0] (Ls' := [(0, .ref (ad 0)), (1, .int (i32 a1)), (2, .int (i32 a2)), (3, .int (i32 u3.1))]) dX8_parts_9 rfl (by decide) rfl ?_
  refine go_aload_n (pc := 10) X 0 dX8_parts_10 rfl rfl ?_
  refine go_iload_n (pc := 11) X 1 dX8_parts_11 rfl rfl ?_
  obtain ⟨r5, h6, h⟩ := bind_some h
  refine go_callVi (pc := 12) X 1 [] (ct_X8_valuesOf h6) sh8 rfl gg_X8_73 hd_X8_valuesOf ⟨Nat.le_of_ble_eq_true rfl, Nat.le_of_ble_eq_true rfl⟩ rfl rfl (Nat.le_of_ble_eq_true rfl) dX8_parts_12 ?_
  refine go_iload_n (pc := 15) X 2 dX8_parts_15 rfl rfl ?_
  refine go_isub (pc := 16) X dX8_parts_16 ?_
  refine go_istore (pc := 17) X [1, 2, 3, 4, 0] (Ls' := [(0, .ref (ad 0)), (1, .int (i32 a1)), (2, .int (i32 a2)), (3, .int (i32 u3.1)), (4, .int (i32 (r5 - a2)))]) dX8_parts_17 (by decide) rfl ?_
  refine go_iconst (pc := 19) X dX8_parts_19 ?_
  refine go_istore (pc := 20) X [1, 2, 3, 4, 5, 0] (Ls' := [(0, .ref (ad 0)), (1, .int (i32 a1)), (2, .int (i32 a2)), (3, .int (i32 u3.1)), (4, .int (i32 (r5 - a2))), (5, .int (i32 0))]) dX8_parts_20 (by decide) rfl ?_
  obtain ⟨r12, h13, h⟩ := bind_some h
  have H14 : ∀ (n : Nat) (t15 : Int × Mem) (z16 : Mem), lp (f_X8_parts_l22 a1 a2 u3.1 (r5 - a2)) n t15 = some z16 → Go p l e { frames := 2, cells := 0, slots := 0, locals := 45 } s m args below meth c 6 D cI cB ad shsM A (MQ below (cQ D cI cB ad shsM (some (.int (i32 r))) S' A) args s 0 0 A) 49 [(0, .ref (ad 0)), (1, .int (i32 a1)), (3, .int (i32 u3.1)), (4, .int (i32 (r5 - a2)))] [] z16 → Go p l e { frames := 2, cells := 0, slots := 0, locals := 45 } s m args below meth c 6 D cI cB ad shsM A (MQ below (cQ D cI cB ad shsM (some (.int (i32 r))) S' A) args s 0 0 A) 22 [(0, .ref (ad 0)), (1, .int (i32 a1)), (2, .int (i32 a2)), (3, .int (i32 u3.1)), (4, .int (i32 (r5 - a2))), (5, .int (i32 t15.1))] [] t15.2 := by
    refine lp_go (fun t15 : Int × Mem => Go p l e { frames := 2, cells := 0, slots := 0, locals := 45 } s m args below meth c 6 D cI cB ad shsM A (MQ below (cQ D cI cB ad shsM (some (.int (i32 r))) S' A) args s 0 0 A) 22 [(0, .ref (ad 0)), (1, .int (i32 a1)), (2, .int (i32 a2)), (3, .int (i32 u3.1)), (4, .int (i32 (r5 - a2))), (5, .int (i32 t15.1))] [] t15.2) (fun z16 : Mem => Go p l e { frames := 2, cells := 0, slots := 0, locals := 45 } s m args below meth c 6 D cI cB ad shsM A (MQ below (cQ D cI cB ad shsM (some (.int (i32 r))) S' A) args s 0 0 A) 49 [(0, .ref (ad 0)), (1, .int (i32 a1)), (3, .int (i32 u3.1)), (4, .int (i32 (r5 - a2)))] [] z16) ?_
    intro t15 x17 h hx18
    unfold f_X8_parts_l22 at h
    refine go_iload (pc := 22) X 5 dX8_parts_22 rfl ?_
    refine go_iload_n (pc := 24) X 2 dX8_parts_24 rfl rfl ?_
    refine go_icmp_ge (pc := 25) X 49 dX8_parts_25 rfl (fun c20 => ?_) (fun c20 => ?_)
    · rw [if_neg c20] at h
      refine go_pick [0, 1, 3, 4] (Ls' := [(0, .ref (ad 0)), (1, .int (i32 a1)), (3, .int (i32 u3.1)), (4, .int (i32 (r5 - a2)))]) rfl ?_
      exact lp_back h hx18
    · rw [if_pos c20] at h
      refine go_aload_n (pc := 28) X 0 dX8_parts_28 rfl rfl ?_
      refine go_iload_n (pc := 29) X 3 dX8_parts_29 rfl rfl ?_
      refine go_aload_n (pc := 30) X 0 dX8_parts_30 rfl rfl ?_
      refine go_iload_n (pc := 31) X 1 dX8_parts_31 rfl rfl ?_
      refine go_iload (pc := 32) X 4 dX8_parts_32 rfl ?_
      refine go_iload (pc := 34) X 5 dX8_parts_34 rfl ?_
      refine go_iadd (pc := 36) X dX8_parts_36 ?_
      obtain ⟨r21, h22, h⟩ := bind_some h
      refine go_callVi (pc := 37) X 2 [.int (i32 u3.1), .ref (ad 0)] (ct_X8_valueAt h22) sh8 rfl gg_X8_114 hd_X8_valueAt ⟨Nat.le_of_ble_eq_true rfl, Nat.le_of_ble_eq_true rfl⟩ rfl rfl (Nat.le_of_ble_eq_true rfl) dX8_parts_37 ?_
      obtain ⟨S23, h24, h⟩ := bind_some h
      refine go_callVv (pc := 40) X 2 [] (ct_X8_comes h24) sh8 rfl gg_X8_101 hd_X8_comes ⟨Nat.le_of_ble_eq_true rfl, Nat.le_of_ble_eq_true rfl⟩ rfl rfl (Nat.le_of_ble_eq_true rfl) dX8_parts_40 ?_
      refine go_iinc (pc := 43) X [1, 2, 3, 4, 5, 0] 5 (Ls' := [(0, .ref (ad 0)), (1, .int (i32 a1)), (2, .int (i32 a2)), (3, .int (i32 u3.1)), (4, .int (i32 (r5 - a2))), (5, .int (i32 (t15.1 + 1)))]) dX8_parts_43 rfl (by decide) rfl ?_
      refine go_goto (pc := 46) X 22 dX8_parts_46 rfl ?_
      exact lp_back h hx18
  refine H14 FU (0, u3.2) r12 h13 ?_
  refine go_aload_n (pc := 49) X 0 dX8_parts_49 rfl rfl ?_
  refine go_getr (pc := 50) X (fk := 1) sh8 rfl inT_X8 (by decide) fL_X8_13 rfl dX8_parts_50 ?_
  refine go_iconst (pc := 53) X dX8_parts_53 ?_
  refine go_bipush (pc := 54) X dX8_parts_54 (by decide) (by decide) ?_
  refine go_iload_n (pc := 56) X 1 dX8_parts_56 rfl rfl ?_
  refine go_imul (pc := 57) X dX8_parts_57 ?_
  refine go_iadd (pc := 58) X dX8_parts_58 ?_
  refine go_iconst (pc := 59) X dX8_parts_59 ?_
  refine go_iadd (pc := 60) X dX8_parts_60 ?_
  refine go_iload (pc := 61) X 3 dX8_parts_61 rfl ?_
  obtain ⟨g25, h⟩ := gd_some h
  obtain ⟨S26, e27, h⟩ := wrk_some h
  refine go_iastE (pc := 63) X e27 shM1 (Nat.le_of_ble_eq_true rfl) rfl g25 dX8_parts_63 ?_
  refine go_iload_n (pc := 64) X 2 dX8_parts_64 rfl rfl ?_
  exact go_iret (pc := 65) X h dX8_parts_65
set_option maxRecDepth 100000 in
set_option maxHeartbeats 4000000 in
theorem ct_X8_split {l : Launch} {D : va_G} {cI cB : ClassId} {Z : (Nat → Nat) × (Nat → Nat)} {ad : Nat → Nat} {S : Mem} {a1 : Int} {a2 : Int} {r : Int} {S' : Mem} (h : f_X8_split S a1 a2 = some (r, S')) : Ctr l D cI cB Z ad shsM yX8_split cX8_split 3 (some .int) 3 70 [.ref (ad 0), .int (i32 a1), .int (i32 a2)] S (some (.int (i32 r))) S' := by
  refine ctr_of (by decide +kernel) (Nat.le_of_ble_eq_true rfl) rfl ?_
  intro p e s m args below meth c A X
  unfold f_X8_split at h
  refine go_aload_n (pc := 0) X 0 dX8_split_0 rfl rfl ?_
  refine go_iload_n (pc := 1) X 1 dX8_split_1 rfl rfl ?_
  obtain ⟨r1, h2, h⟩ := bind_some h
  refine go_callVi (pc := 2) X 1 [] (ct_X8_isBidder h2) sh8 rfl gg_X8_90 hd_X8_isBidder ⟨Nat.le_of_ble_eq_true rfl, Nat.le_of_ble_eq_true rfl⟩ rfl rfl (Nat.le_of_ble_eq_true rfl) dX8_split_2 ?_
  refine go_if_eq (pc := 5) X 32 dX8_split_5 rfl (fun c3 => ?_) (fun c3 => ?_)
  · rw [if_pos c3] at h
    refine go_iconst (pc := 32) X dX8_split_32 ?_
    exact go_iret (pc := 33) X h dX8_split_33
  · rw [if_neg c3] at h
    refine go_iload_n (pc := 8) X 2 dX8_split_8 rfl rfl ?_
    refine go_iconst (pc := 9) X dX8_split_9 ?_
    refine go_aload_n (pc := 10) X 0 dX8_split_10 rfl rfl ?_
    refine go_iload_n (pc := 11) X 1 dX8_split_11 rfl rfl ?_
    obtain ⟨r4, h5, h⟩ := bind_some h
    refine go_callVi (pc := 12) X 1 [.int (i32 1), .int (i32 a2)] (ct_X8_valuesOf h5) sh8 rfl gg_X8_73 hd_X8_valuesOf ⟨Nat.le_of_ble_eq_true rfl, Nat.le_of_ble_eq_true rfl⟩ rfl rfl (Nat.le_of_ble_eq_true rfl) dX8_split_12 ?_
    refine go_iconst (pc := 15) X dX8_split_15 ?_
    refine go_isub (pc := 16) X dX8_split_16 ?_
    obtain ⟨r6, h7, h⟩ := bind_some h
    refine go_callSi (pc := 17) X 3 [] (ct_X8_in h7) gg_X8_65 hd_X8_in ⟨Nat.le_of_ble_eq_true rfl, Nat.le_of_ble_eq_true rfl⟩ rfl rfl (Nat.le_of_ble_eq_true rfl) dX8_split_17 ?_
    refine go_if_eq (pc := 20) X 32 dX8_split_20 rfl (fun c8 => ?_) (fun c8 => ?_)
    · rw [if_pos c8] at h
      refine go_iconst (pc := 32) X dX8_split_32 ?_
      exact go_iret (pc := 33) X h dX8_split_33
    · rw [if_neg c8] at h
      refine go_aload_n (pc := 23) X 0 dX8_split_23 rfl rfl ?_
      obtain ⟨r9, h10, h⟩ := bind_some h
      refine go_callVi (pc := 24) X 0 [] (ct_X8_many h10) sh8 rfl gg_X8_61 hd_X8_many ⟨Nat.le_of_ble_eq_true rfl, Nat.le_of_ble_eq_true rfl⟩ rfl rfl (Nat.le_of_ble_eq_true rfl) dX8_split_24 ?_
      refine go_bipush (pc := 27) X dX8_split_27 (by decide) (by decide) ?_
      refine go_icmp_ne (pc := 29) X 34 dX8_split_29 rfl (fun c11 => ?_) (fun c11 => ?_)
      · rw [if_neg c11] at h
        refine go_aload_n (pc := 34) X 0 dX8_split_34 rfl rfl ?_
        obtain ⟨S12, h13, h⟩ := bind_some h
        refine go_callVv (pc := 35) X 0 [] (ct_X8_keeps h13) sh8 rfl gg_X8_84 hd_X8_keeps ⟨Nat.le_of_ble_eq_true rfl, Nat.le_of_ble_eq_true rfl⟩ rfl rfl (Nat.le_of_ble_eq_true rfl) dX8_split_35 ?_
        refine go_aload_n (pc := 38) X 0 dX8_split_38 rfl rfl ?_
        refine go_iload_n (pc := 39) X 1 dX8_split_39 rfl rfl ?_
        refine go_iload_n (pc := 40) X 2 dX8_split_40 rfl rfl ?_
        obtain ⟨u14, h15, h⟩ := bind_some h
        refine go_callVi (pc := 41) X 2 [] (ct_X8_parts h15) sh8 rfl gg_X8_117 hd_X8_parts ⟨Nat.le_of_ble_eq_true rfl, Nat.le_of_ble_eq_true rfl⟩ rfl rfl (Nat.le_of_ble_eq_true rfl) dX8_split_41 ?_
        exact go_iret (pc := 44) X h dX8_split_44
      · rw [if_pos c11] at h
        refine go_iconst (pc := 32) X dX8_split_32 ?_
        exact go_iret (pc := 33) X h dX8_split_33
set_option maxRecDepth 100000 in
set_option maxHeartbeats 4000000 in
theorem ct_X8_move {l : Launch} {D : va_G} {cI cB : ClassId} {Z : (Nat → Nat) × (Nat → Nat)} {ad : Nat → Nat} {S : Mem} {a1 : Int} {a2 : Int} {r : Int} {S' : Mem} (h : f_X8_move S a1 a2 = some (r, S')) : Ctr l D cI cB Z ad shsM yX8_move cX8_move 5 (some .boolean) 2 43 [.ref (ad 0), .int (i32 a1), .int (i32 a2)] S (some (.int (i32 r))) S' := by
  refine ctr_of (by decide +kernel) (Nat.le_of_ble_eq_true rfl) rfl ?_
  intro p e s m args below meth c A X
  unfold f_X8_move at h
  refine go_aload_n (pc := 0) X 0 dX8_move_0 rfl rfl ?_
  refine go_iload_n (pc := 1) X 1 dX8_move_1 rfl rfl ?_
  obtain ⟨r1, h2, h⟩ := bind_some h
  refine go_callVi (pc := 2) X 1 [] (ct_X8_isBidder h2) sh8 rfl gg_X8_90 hd_X8_isBidder ⟨Nat.le_of_ble_eq_true rfl, Nat.le_of_ble_eq_true rfl⟩ rfl rfl (Nat.le_of_ble_eq_true rfl) dX8_move_2 ?_
  refine go_if_eq (pc := 5) X 21 dX8_move_5 rfl (fun c3 => ?_) (fun c3 => ?_)
  · rw [if_pos c3] at h
    refine go_iconst (pc := 21) X dX8_move_21 ?_
    exact go_zret (pc := 22) X (Or.inl rfl) h dX8_move_22
  · rw [if_neg c3] at h
    refine go_aload_n (pc := 8) X 0 dX8_move_8 rfl rfl ?_
    refine go_iload_n (pc := 9) X 2 dX8_move_9 rfl rfl ?_
    obtain ⟨r4, h5, h⟩ := bind_some h
    refine go_callVi (pc := 10) X 1 [] (ct_X8_isBidder h5) sh8 rfl gg_X8_90 hd_X8_isBidder ⟨Nat.le_of_ble_eq_true rfl, Nat.le_of_ble_eq_true rfl⟩ rfl rfl (Nat.le_of_ble_eq_true rfl) dX8_move_10 ?_
    refine go_if_eq (pc := 13) X 21 dX8_move_13 rfl (fun c6 => ?_) (fun c6 => ?_)
    · rw [if_pos c6] at h
      refine go_iconst (pc := 21) X dX8_move_21 ?_
      exact go_zret (pc := 22) X (Or.inl rfl) h dX8_move_22
    · rw [if_neg c6] at h
      refine go_iload_n (pc := 16) X 1 dX8_move_16 rfl rfl ?_
      refine go_iload_n (pc := 17) X 2 dX8_move_17 rfl rfl ?_
      refine go_icmp_ne (pc := 18) X 23 dX8_move_18 rfl (fun c7 => ?_) (fun c7 => ?_)
      · rw [if_neg c7] at h
        refine go_aload_n (pc := 23) X 0 dX8_move_23 rfl rfl ?_
        obtain ⟨S8, h9, h⟩ := bind_some h
        refine go_callVv (pc := 24) X 0 [] (ct_X8_keeps h9) sh8 rfl gg_X8_84 hd_X8_keeps ⟨Nat.le_of_ble_eq_true rfl, Nat.le_of_ble_eq_true rfl⟩ rfl rfl (Nat.le_of_ble_eq_true rfl) dX8_move_24 ?_
        refine go_aload_n (pc := 27) X 0 dX8_move_27 rfl rfl ?_
        obtain ⟨r10, h11, h⟩ := bind_some h
        refine go_callVi (pc := 28) X 0 [] (ct_X8_many h11) sh8 rfl gg_X8_61 hd_X8_many ⟨Nat.le_of_ble_eq_true rfl, Nat.le_of_ble_eq_true rfl⟩ rfl rfl (Nat.le_of_ble_eq_true rfl) dX8_move_28 ?_
        refine go_istore_n (pc := 31) X [1, 2, 3, 0] (Ls' := [(0, .ref (ad 0)), (1, .int (i32 a1)), (2, .int (i32 a2)), (3, .int (i32 r10))]) dX8_move_31 rfl (by decide) rfl ?_
        refine go_aload_n (pc := 32) X 0 dX8_move_32 rfl rfl ?_
        refine go_iload_n (pc := 33) X 1 dX8_move_33 rfl rfl ?_
        refine go_iload_n (pc := 34) X 3 dX8_move_34 rfl rfl ?_
        obtain ⟨S12, h13, h⟩ := bind_some h
        refine go_callVv (pc := 35) X 2 [] (ct_X8_lays h13) sh8 rfl gg_X8_80 hd_X8_lays ⟨Nat.le_of_ble_eq_true rfl, Nat.le_of_ble_eq_true rfl⟩ rfl rfl (Nat.le_of_ble_eq_true rfl) dX8_move_35 ?_
        refine go_iload_n (pc := 38) X 1 dX8_move_38 rfl rfl ?_
        refine go_istore (pc := 39) X [1, 2, 3, 4, 0] (Ls' := [(0, .ref (ad 0)), (1, .int (i32 a1)), (2, .int (i32 a2)), (3, .int (i32 r10)), (4, .int (i32 a1))]) dX8_move_39 (by decide) rfl ?_
        obtain ⟨r17, h18, h⟩ := bind_some h
        have H19 : ∀ (n : Nat) (t20 : Int × Mem) (z21 : Mem), lp (f_X8_move_l41 a1 a2 r10) n t20 = some z21 → Go p l e { frames := 2, cells := 0, slots := 0, locals := 43 } s m args below meth c 5 D cI cB ad shsM A (MQ below (cQ D cI cB ad shsM (some (.int (i32 r))) S' A) args s 0 0 A) 63 [(0, .ref (ad 0)), (1, .int (i32 a1)), (2, .int (i32 a2)), (3, .int (i32 r10))] [] z21 → Go p l e { frames := 2, cells := 0, slots := 0, locals := 43 } s m args below meth c 5 D cI cB ad shsM A (MQ below (cQ D cI cB ad shsM (some (.int (i32 r))) S' A) args s 0 0 A) 41 [(0, .ref (ad 0)), (1, .int (i32 a1)), (2, .int (i32 a2)), (3, .int (i32 r10)), (4, .int (i32 t20.1))] [] t20.2 := by
          refine lp_go (fun t20 : Int × Mem => Go p l e { frames := 2, cells := 0, slots := 0, locals := 43 } s m args below meth c 5 D cI cB ad shsM A (MQ below (cQ D cI cB ad shsM (some (.int (i32 r))) S' A) args s 0 0 A) 41 [(0, .ref (ad 0)), (1, .int (i32 a1)), (2, .int (i32 a2)), (3, .int (i32 r10)), (4, .int (i32 t20.1))] [] t20.2) (fun z21 : Mem => Go p l e { frames := 2, cells := 0, slots := 0, locals := 43 } s m args below meth c 5 D cI cB ad shsM A (MQ below (cQ D cI cB ad shsM (some (.int (i32 r))) S' A) args s 0 0 A) 63 [(0, .ref (ad 0)), (1, .int (i32 a1)), (2, .int (i32 a2)), (3, .int (i32 r10))] [] z21) ?_
          intro t20 x22 h hx23
          unfold f_X8_move_l41 at h
          refine go_iload (pc := 41) X 4 dX8_move_41 rfl ?_
          refine go_iload_n (pc := 43) X 2 dX8_move_43 rfl rfl ?_
          refine go_icmp_ge (pc := 44) X 63 dX8_move_44 rfl (fun c25 => ?_) (fun c25 => ?_)
          · rw [if_neg c25] at h
            refine go_pick [0, 1, 2, 3] (Ls' := [(0, .ref (ad 0)), (1, .int (i32 a1)), (2, .int (i32 a2)), (3, .int (i32 r10))]) rfl ?_
            exact lp_back h hx23
          · rw [if_pos c25] at h
            refine go_aload_n (pc := 47) X 0 dX8_move_47 rfl rfl ?_
            refine go_iload (pc := 48) X 4 dX8_move_48 rfl ?_
            refine go_iconst (pc := 50) X dX8_move_50 ?_
            refine go_iadd (pc := 51) X dX8_move_51 ?_
            refine go_iload (pc := 52) X 4 dX8_move_52 rfl ?_
            obtain ⟨S26, h27, h⟩ := bind_some h
            refine go_callVv (pc := 54) X 2 [] (ct_X8_lays h27) sh8 rfl gg_X8_80 hd_X8_lays ⟨Nat.le_of_ble_eq_true rfl, Nat.le_of_ble_eq_true rfl⟩ rfl rfl (Nat.le_of_ble_eq_true rfl) dX8_move_54 ?_
            refine go_iinc (pc := 57) X [1, 2, 3, 4, 0] 4 (Ls' := [(0, .ref (ad 0)), (1, .int (i32 a1)), (2, .int (i32 a2)), (3, .int (i32 r10)), (4, .int (i32 (t20.1 + 1)))]) dX8_move_57 rfl (by decide) rfl ?_
            refine go_goto (pc := 60) X 41 dX8_move_60 rfl ?_
            exact lp_back h hx23
        refine H19 FU (a1, S12) r17 h18 ?_
        refine go_iload_n (pc := 63) X 1 dX8_move_63 rfl rfl ?_
        refine go_istore (pc := 64) X [1, 2, 3, 4, 0] (Ls' := [(0, .ref (ad 0)), (1, .int (i32 a1)), (2, .int (i32 a2)), (3, .int (i32 r10)), (4, .int (i32 a1))]) dX8_move_64 (by decide) rfl ?_
        obtain ⟨r31, h32, h⟩ := bind_some h
        have H33 : ∀ (n : Nat) (t34 : Int × Mem) (z35 : Mem), lp (f_X8_move_l66 a2 r10) n t34 = some z35 → Go p l e { frames := 2, cells := 0, slots := 0, locals := 43 } s m args below meth c 5 D cI cB ad shsM A (MQ below (cQ D cI cB ad shsM (some (.int (i32 r))) S' A) args s 0 0 A) 88 [(0, .ref (ad 0)), (2, .int (i32 a2)), (3, .int (i32 r10))] [] z35 → Go p l e { frames := 2, cells := 0, slots := 0, locals := 43 } s m args below meth c 5 D cI cB ad shsM A (MQ below (cQ D cI cB ad shsM (some (.int (i32 r))) S' A) args s 0 0 A) 66 [(0, .ref (ad 0)), (2, .int (i32 a2)), (3, .int (i32 r10)), (4, .int (i32 t34.1))] [] t34.2 := by
          refine lp_go (fun t34 : Int × Mem => Go p l e { frames := 2, cells := 0, slots := 0, locals := 43 } s m args below meth c 5 D cI cB ad shsM A (MQ below (cQ D cI cB ad shsM (some (.int (i32 r))) S' A) args s 0 0 A) 66 [(0, .ref (ad 0)), (2, .int (i32 a2)), (3, .int (i32 r10)), (4, .int (i32 t34.1))] [] t34.2) (fun z35 : Mem => Go p l e { frames := 2, cells := 0, slots := 0, locals := 43 } s m args below meth c 5 D cI cB ad shsM A (MQ below (cQ D cI cB ad shsM (some (.int (i32 r))) S' A) args s 0 0 A) 88 [(0, .ref (ad 0)), (2, .int (i32 a2)), (3, .int (i32 r10))] [] z35) ?_
          intro t34 x36 h hx37
          unfold f_X8_move_l66 at h
          refine go_iload (pc := 66) X 3 dX8_move_66 rfl ?_
          refine go_iload_n (pc := 68) X 1 dX8_move_68 rfl rfl ?_
          refine go_icmp_le (pc := 69) X 88 dX8_move_69 rfl (fun c39 => ?_) (fun c39 => ?_)
          · rw [if_neg c39] at h
            refine go_pick [0, 1, 2] (Ls' := [(0, .ref (ad 0)), (2, .int (i32 a2)), (3, .int (i32 r10))]) rfl ?_
            exact lp_back h hx37
          · rw [if_pos c39] at h
            refine go_aload_n (pc := 72) X 0 dX8_move_72 rfl rfl ?_
            refine go_iload (pc := 73) X 3 dX8_move_73 rfl ?_
            refine go_iconst (pc := 75) X dX8_move_75 ?_
            refine go_isub (pc := 76) X dX8_move_76 ?_
            refine go_iload (pc := 77) X 3 dX8_move_77 rfl ?_
            obtain ⟨S40, h41, h⟩ := bind_some h
            refine go_callVv (pc := 79) X 2 [] (ct_X8_lays h41) sh8 rfl gg_X8_80 hd_X8_lays ⟨Nat.le_of_ble_eq_true rfl, Nat.le_of_ble_eq_true rfl⟩ rfl rfl (Nat.le_of_ble_eq_true rfl) dX8_move_79 ?_
            refine go_iinc (pc := 82) X [1, 2, 3, 0] 3 (Ls' := [(0, .ref (ad 0)), (2, .int (i32 a2)), (3, .int (i32 r10)), (4, .int (i32 (t34.1 + (-1))))]) dX8_move_82 rfl (by decide) rfl ?_
            refine go_goto (pc := 85) X 66 dX8_move_85 rfl ?_
            exact lp_back h hx37
        refine go_pick [0, 2, 3, 4] (Ls' := [(0, .ref (ad 0)), (2, .int (i32 a2)), (3, .int (i32 r10)), (4, .int (i32 a1))]) rfl ?_
        refine H33 FU (a1, r17) r31 h32 ?_
        refine go_aload_n (pc := 88) X 0 dX8_move_88 rfl rfl ?_
        refine go_iload_n (pc := 89) X 2 dX8_move_89 rfl rfl ?_
        refine go_iload_n (pc := 90) X 1 dX8_move_90 rfl rfl ?_
        obtain ⟨S42, h43, h⟩ := bind_some h
        refine go_callVv (pc := 91) X 2 [] (ct_X8_lays h43) sh8 rfl gg_X8_80 hd_X8_lays ⟨Nat.le_of_ble_eq_true rfl, Nat.le_of_ble_eq_true rfl⟩ rfl rfl (Nat.le_of_ble_eq_true rfl) dX8_move_91 ?_
        refine go_iconst (pc := 94) X dX8_move_94 ?_
        exact go_zret (pc := 95) X (Or.inr rfl) h dX8_move_95
      · rw [if_pos c7] at h
        refine go_iconst (pc := 21) X dX8_move_21 ?_
        exact go_zret (pc := 22) X (Or.inl rfl) h dX8_move_22
set_option maxRecDepth 100000 in
set_option maxHeartbeats 4000000 in
theorem ct_X8_copy {l : Launch} {D : va_G} {cI cB : ClassId} {Z : (Nat → Nat) × (Nat → Nat)} {ad : Nat → Nat} {S : Mem} {a1 : Int} {r : Int} {S' : Mem} (h : f_X8_copy S a1 = some (r, S')) : Ctr l D cI cB Z ad shsM yX8_copy cX8_copy 2 (some .int) 2 43 [.ref (ad 0), .int (i32 a1)] S (some (.int (i32 r))) S' := by
  refine ctr_of (by decide +kernel) (Nat.le_of_ble_eq_true rfl) rfl ?_
  intro p e s m args below meth c A X
  unfold f_X8_copy at h
  refine go_aload_n (pc := 0) X 0 dX8_copy_0 rfl rfl ?_
  refine go_iload_n (pc := 1) X 1 dX8_copy_1 rfl rfl ?_
  obtain ⟨r1, h2, h⟩ := bind_some h
  refine go_callVi (pc := 2) X 1 [] (ct_X8_isBidder h2) sh8 rfl gg_X8_90 hd_X8_isBidder ⟨Nat.le_of_ble_eq_true rfl, Nat.le_of_ble_eq_true rfl⟩ rfl rfl (Nat.le_of_ble_eq_true rfl) dX8_copy_2 ?_
  refine go_if_eq (pc := 5) X 17 dX8_copy_5 rfl (fun c3 => ?_) (fun c3 => ?_)
  · rw [if_pos c3] at h
    refine go_iconst (pc := 17) X dX8_copy_17 ?_
    exact go_iret (pc := 18) X h dX8_copy_18
  · rw [if_neg c3] at h
    refine go_aload_n (pc := 8) X 0 dX8_copy_8 rfl rfl ?_
    obtain ⟨r4, h5, h⟩ := bind_some h
    refine go_callVi (pc := 9) X 0 [] (ct_X8_many h5) sh8 rfl gg_X8_61 hd_X8_many ⟨Nat.le_of_ble_eq_true rfl, Nat.le_of_ble_eq_true rfl⟩ rfl rfl (Nat.le_of_ble_eq_true rfl) dX8_copy_9 ?_
    refine go_bipush (pc := 12) X dX8_copy_12 (by decide) (by decide) ?_
    refine go_icmp_ne (pc := 14) X 19 dX8_copy_14 rfl (fun c6 => ?_) (fun c6 => ?_)
    · rw [if_neg c6] at h
      refine go_aload_n (pc := 19) X 0 dX8_copy_19 rfl rfl ?_
      obtain ⟨S7, h8, h⟩ := bind_some h
      refine go_callVv (pc := 20) X 0 [] (ct_X8_keeps h8) sh8 rfl gg_X8_84 hd_X8_keeps ⟨Nat.le_of_ble_eq_true rfl, Nat.le_of_ble_eq_true rfl⟩ rfl rfl (Nat.le_of_ble_eq_true rfl) dX8_copy_20 ?_
      refine go_aload_n (pc := 23) X 0 dX8_copy_23 rfl rfl ?_
      refine go_iload_n (pc := 24) X 1 dX8_copy_24 rfl rfl ?_
      refine go_aload_n (pc := 25) X 0 dX8_copy_25 rfl rfl ?_
      obtain ⟨r9, h10, h⟩ := bind_some h
      refine go_callVi (pc := 26) X 0 [.int (i32 a1), .ref (ad 0)] (ct_X8_many h10) sh8 rfl gg_X8_61 hd_X8_many ⟨Nat.le_of_ble_eq_true rfl, Nat.le_of_ble_eq_true rfl⟩ rfl rfl (Nat.le_of_ble_eq_true rfl) dX8_copy_26 ?_
      obtain ⟨S11, h12, h⟩ := bind_some h
      refine go_callVv (pc := 29) X 2 [] (ct_X8_lays h12) sh8 rfl gg_X8_80 hd_X8_lays ⟨Nat.le_of_ble_eq_true rfl, Nat.le_of_ble_eq_true rfl⟩ rfl rfl (Nat.le_of_ble_eq_true rfl) dX8_copy_29 ?_
      refine go_aload_n (pc := 32) X 0 dX8_copy_32 rfl rfl ?_
      refine go_getr (pc := 33) X (fk := 1) sh8 rfl inT_X8 (by decide) fL_X8_13 rfl dX8_copy_33 ?_
      refine go_iconst (pc := 36) X dX8_copy_36 ?_
      refine go_dup2 (pc := 37) X dX8_copy_37 rfl rfl ?_
      obtain ⟨g13, h⟩ := gd_some h
      refine go_iald (pc := 38) X shM1 (Nat.le_of_ble_eq_true rfl) rfl g13 dX8_copy_38 ?_
      refine go_iconst (pc := 39) X dX8_copy_39 ?_
      refine go_iadd (pc := 40) X dX8_copy_40 ?_
      obtain ⟨S14, e15, h⟩ := wrk_some h
      refine go_iastE (pc := 41) X e15 shM1 (Nat.le_of_ble_eq_true rfl) rfl g13 dX8_copy_41 ?_
      refine go_aload_n (pc := 42) X 0 dX8_copy_42 rfl rfl ?_
      obtain ⟨r16, h17, h⟩ := bind_some h
      refine go_callVi (pc := 43) X 0 [] (ct_X8_many h17) sh8 rfl gg_X8_61 hd_X8_many ⟨Nat.le_of_ble_eq_true rfl, Nat.le_of_ble_eq_true rfl⟩ rfl rfl (Nat.le_of_ble_eq_true rfl) dX8_copy_43 ?_
      refine go_iconst (pc := 46) X dX8_copy_46 ?_
      refine go_isub (pc := 47) X dX8_copy_47 ?_
      exact go_iret (pc := 48) X h dX8_copy_48
    · rw [if_pos c6] at h
      refine go_iconst (pc := 17) X dX8_copy_17 ?_
      exact go_iret (pc := 18) X h dX8_copy_18
set_option maxRecDepth 100000 in
set_option maxHeartbeats 4000000 in
theorem ct_X8_clear {l : Launch} {D : va_G} {cI cB : ClassId} {Z : (Nat → Nat) × (Nat → Nat)} {ad : Nat → Nat} {S : Mem} {a1 : Int} {r : Int} {S' : Mem} (h : f_X8_clear S a1 = some (r, S')) : Ctr l D cI cB Z ad shsM yX8_clear cX8_clear 2 (some .int) 2 44 [.ref (ad 0), .int (i32 a1)] S (some (.int (i32 r))) S' := by
  refine ctr_of (by decide +kernel) (Nat.le_of_ble_eq_true rfl) rfl ?_
  intro p e s m args below meth c A X
  unfold f_X8_clear at h
  refine go_aload_n (pc := 0) X 0 dX8_clear_0 rfl rfl ?_
  refine go_iload_n (pc := 1) X 1 dX8_clear_1 rfl rfl ?_
  obtain ⟨r1, h2, h⟩ := bind_some h
  refine go_callVi (pc := 2) X 1 [] (ct_X8_isBidder h2) sh8 rfl gg_X8_90 hd_X8_isBidder ⟨Nat.le_of_ble_eq_true rfl, Nat.le_of_ble_eq_true rfl⟩ rfl rfl (Nat.le_of_ble_eq_true rfl) dX8_clear_2 ?_
  refine go_if_eq (pc := 5) X 16 dX8_clear_5 rfl (fun c3 => ?_) (fun c3 => ?_)
  · rw [if_pos c3] at h
    refine go_iconst (pc := 16) X dX8_clear_16 ?_
    exact go_iret (pc := 17) X h dX8_clear_17
  · rw [if_neg c3] at h
    refine go_aload_n (pc := 8) X 0 dX8_clear_8 rfl rfl ?_
    refine go_iload_n (pc := 9) X 1 dX8_clear_9 rfl rfl ?_
    obtain ⟨r4, h5, h⟩ := bind_some h
    refine go_callVi (pc := 10) X 1 [] (ct_X8_valuesOf h5) sh8 rfl gg_X8_73 hd_X8_valuesOf ⟨Nat.le_of_ble_eq_true rfl, Nat.le_of_ble_eq_true rfl⟩ rfl rfl (Nat.le_of_ble_eq_true rfl) dX8_clear_10 ?_
    refine go_if_ne (pc := 13) X 18 dX8_clear_13 rfl (fun c6 => ?_) (fun c6 => ?_)
    · rw [if_neg c6] at h
      refine go_aload_n (pc := 18) X 0 dX8_clear_18 rfl rfl ?_
      refine go_iconst (pc := 19) X dX8_clear_19 ?_
      refine go_bipush (pc := 20) X dX8_clear_20 (by decide) (by decide) ?_
      refine go_iload_n (pc := 22) X 1 dX8_clear_22 rfl rfl ?_
      refine go_imul (pc := 23) X dX8_clear_23 ?_
      refine go_iadd (pc := 24) X dX8_clear_24 ?_
      refine go_iconst (pc := 25) X dX8_clear_25 ?_
      refine go_iadd (pc := 26) X dX8_clear_26 ?_
      refine go_iconst (pc := 27) X dX8_clear_27 ?_
      obtain ⟨u7, h8, h⟩ := bind_some h
      refine go_callVi (pc := 28) X 2 [] (ct_X8_becomes h8) sh8 rfl gg_X8_111 hd_X8_becomes ⟨Nat.le_of_ble_eq_true rfl, Nat.le_of_ble_eq_true rfl⟩ rfl rfl (Nat.le_of_ble_eq_true rfl) dX8_clear_28 ?_
      exact go_iret (pc := 31) X h dX8_clear_31
    · rw [if_pos c6] at h
      refine go_iconst (pc := 16) X dX8_clear_16 ?_
      exact go_iret (pc := 17) X h dX8_clear_17
set_option maxRecDepth 100000 in
set_option maxHeartbeats 4000000 in
theorem ct_X8_held {l : Launch} {D : va_G} {cI cB : ClassId} {Z : (Nat → Nat) × (Nat → Nat)} {ad : Nat → Nat} {S : Mem} {a0 : Int} {r : Int} (h : f_X8_held S a0 = some r) : Ctr l D cI cB Z ad shsM yX8_held cX8_held 1 (some .int) 0 0 [.int (i32 a0)] S (some (.int (i32 r))) S := by
  refine ctr_of (by decide +kernel) (Nat.le_of_ble_eq_true rfl) rfl ?_
  intro p e s m args below meth c A X
  unfold f_X8_held at h
  refine go_iload_n (pc := 0) X 0 dX8_held_0 rfl rfl ?_
  refine go_if_ge (pc := 1) X 8 dX8_held_1 rfl (fun c1 => ?_) (fun c1 => ?_)
  · rw [if_neg c1] at h
    refine go_iload_n (pc := 8) X 0 dX8_held_8 rfl rfl ?_
    refine go_bipush (pc := 9) X dX8_held_9 (by decide) (by decide) ?_
    refine go_icmp_le (pc := 11) X 19 dX8_held_11 rfl (fun c2 => ?_) (fun c2 => ?_)
    · rw [if_neg c2] at h
      refine go_iload_n (pc := 19) X 0 dX8_held_19 rfl rfl ?_
      exact go_iretP (pc := 20) X h dX8_held_20
    · rw [if_pos c2] at h
      refine go_bipush (pc := 14) X dX8_held_14 (by decide) (by decide) ?_
      refine go_goto (pc := 16) X 20 dX8_held_16 rfl ?_
      exact go_iretP (pc := 20) X h dX8_held_20
  · rw [if_pos c1] at h
    refine go_iconst (pc := 4) X dX8_held_4 ?_
    refine go_goto (pc := 5) X 20 dX8_held_5 rfl ?_
    exact go_iretP (pc := 20) X h dX8_held_20
set_option maxRecDepth 100000 in
set_option maxHeartbeats 4000000 in
theorem ct_X8_shades {l : Launch} {D : va_G} {cI cB : ClassId} {Z : (Nat → Nat) × (Nat → Nat)} {ad : Nat → Nat} {S : Mem} {a1 : Int} {a2 : Int} {r : Int} {S' : Mem} (h : f_X8_shades S a1 a2 = some (r, S')) : Ctr l D cI cB Z ad shsM yX8_shades cX8_shades 6 (some .int) 1 22 [.ref (ad 0), .int (i32 a1), .int (i32 a2)] S (some (.int (i32 r))) S' := by
  refine ctr_of (by decide +kernel) (Nat.le_of_ble_eq_true rfl) rfl ?_
  intro p e s m args below meth c A X
  unfold f_X8_shades at h
  refine go_iconst (pc := 0) X dX8_shades_0 ?_
  refine go_istore_n (pc := 1) X [1, 2, 3, 0] (Ls' := [(0, .ref (ad 0)), (1, .int (i32 a1)), (2, .int (i32 a2)), (3, .int (i32 0))]) dX8_shades_1 rfl (by decide) rfl ?_
  refine go_iconst (pc := 2) X dX8_shades_2 ?_
  refine go_istore (pc := 3) X [1, 2, 3, 4, 0] (Ls' := [(0, .ref (ad 0)), (1, .int (i32 a1)), (2, .int (i32 a2)), (3, .int (i32 0)), (4, .int (i32 0))]) dX8_shades_3 (by decide) rfl ?_
  obtain ⟨r17, h18, h⟩ := bind_some h
  have H19 : ∀ (n : Nat) (t20 : Int × Int × Mem) (z21 : Int × Mem), lp (f_X8_shades_l5 a1 a2) n t20 = some z21 → Go p l e { frames := 1, cells := 0, slots := 0, locals := 22 } s m args below meth c 6 D cI cB ad shsM A (MQ below (cQ D cI cB ad shsM (some (.int (i32 r))) S' A) args s 0 0 A) 68 [(3, .int (i32 z21.1))] [] z21.2 → Go p l e { frames := 1, cells := 0, slots := 0, locals := 22 } s m args below meth c 6 D cI cB ad shsM A (MQ below (cQ D cI cB ad shsM (some (.int (i32 r))) S' A) args s 0 0 A) 5 [(0, .ref (ad 0)), (1, .int (i32 a1)), (2, .int (i32 a2)), (3, .int (i32 t20.1)), (4, .int (i32 t20.2.1))] [] t20.2.2 := by
    refine lp_go (fun t20 : Int × Int × Mem => Go p l e { frames := 1, cells := 0, slots := 0, locals := 22 } s m args below meth c 6 D cI cB ad shsM A (MQ below (cQ D cI cB ad shsM (some (.int (i32 r))) S' A) args s 0 0 A) 5 [(0, .ref (ad 0)), (1, .int (i32 a1)), (2, .int (i32 a2)), (3, .int (i32 t20.1)), (4, .int (i32 t20.2.1))] [] t20.2.2) (fun z21 : Int × Mem => Go p l e { frames := 1, cells := 0, slots := 0, locals := 22 } s m args below meth c 6 D cI cB ad shsM A (MQ below (cQ D cI cB ad shsM (some (.int (i32 r))) S' A) args s 0 0 A) 68 [(3, .int (i32 z21.1))] [] z21.2) ?_
    intro t20 x22 h hx23
    unfold f_X8_shades_l5 at h
    refine go_iload (pc := 5) X 4 dX8_shades_5 rfl ?_
    refine go_aload_n (pc := 7) X 0 dX8_shades_7 rfl rfl ?_
    refine go_iload_n (pc := 8) X 1 dX8_shades_8 rfl rfl ?_
    obtain ⟨r25, h26, h⟩ := bind_some h
    refine go_callVi (pc := 9) X 1 [.int (i32 t20.2.1)] (ct_X8_valuesOf h26) sh8 rfl gg_X8_73 hd_X8_valuesOf ⟨Nat.le_of_ble_eq_true rfl, Nat.le_of_ble_eq_true rfl⟩ rfl rfl (Nat.le_of_ble_eq_true rfl) dX8_shades_9 ?_
    refine go_icmp_ge (pc := 12) X 68 dX8_shades_12 rfl (fun c27 => ?_) (fun c27 => ?_)
    · rw [if_neg c27] at h
      refine go_pick [3] (Ls' := [(3, .int (i32 t20.1))]) rfl ?_
      exact lp_back h hx23
    · rw [if_pos c27] at h
      refine go_aload_n (pc := 15) X 0 dX8_shades_15 rfl rfl ?_
      refine go_iload_n (pc := 16) X 1 dX8_shades_16 rfl rfl ?_
      refine go_iload (pc := 17) X 4 dX8_shades_17 rfl ?_
      obtain ⟨r28, h29, h⟩ := bind_some h
      refine go_callVi (pc := 19) X 2 [] (ct_X8_valueAt h29) sh8 rfl gg_X8_114 hd_X8_valueAt ⟨Nat.le_of_ble_eq_true rfl, Nat.le_of_ble_eq_true rfl⟩ rfl rfl (Nat.le_of_ble_eq_true rfl) dX8_shades_19 ?_
      refine go_iload_n (pc := 22) X 2 dX8_shades_22 rfl rfl ?_
      refine go_iadd (pc := 23) X dX8_shades_23 ?_
      obtain ⟨r30, h31, h⟩ := bind_some h
      refine go_callSi (pc := 24) X 1 [] (ct_X8_held h31) gg_X8_120 hd_X8_held ⟨Nat.le_of_ble_eq_true rfl, Nat.le_of_ble_eq_true rfl⟩ rfl rfl (Nat.le_of_ble_eq_true rfl) dX8_shades_24 ?_
      refine go_istore (pc := 27) X [1, 2, 3, 4, 5, 0] (Ls' := [(0, .ref (ad 0)), (1, .int (i32 a1)), (2, .int (i32 a2)), (3, .int (i32 t20.1)), (4, .int (i32 t20.2.1)), (5, .int (i32 r30))]) dX8_shades_27 (by decide) rfl ?_
      refine go_iload (pc := 29) X 5 dX8_shades_29 rfl ?_
      refine go_aload_n (pc := 31) X 0 dX8_shades_31 rfl rfl ?_
      refine go_iload_n (pc := 32) X 1 dX8_shades_32 rfl rfl ?_
      refine go_iload (pc := 33) X 4 dX8_shades_33 rfl ?_
      obtain ⟨r32, h33, h⟩ := bind_some h
      refine go_callVi (pc := 35) X 2 [.int (i32 r30)] (ct_X8_valueAt h33) sh8 rfl gg_X8_114 hd_X8_valueAt ⟨Nat.le_of_ble_eq_true rfl, Nat.le_of_ble_eq_true rfl⟩ rfl rfl (Nat.le_of_ble_eq_true rfl) dX8_shades_35 ?_
      obtain ⟨j34, h35, h⟩ := bind_some h
      have k36 : Go p l e { frames := 1, cells := 0, slots := 0, locals := 22 } s m args below meth c 6 D cI cB ad shsM A (MQ below (cQ D cI cB ad shsM (some (.int (i32 r))) S' A) args s 0 0 A) 44 [(0, .ref (ad 0)), (1, .int (i32 a1)), (2, .int (i32 a2)), (3, .int (i32 j34)), (4, .int (i32 t20.2.1)), (5, .int (i32 r30))] [] t20.2.2 := by
        refine go_aload_n (pc := 44) X 0 dX8_shades_44 rfl rfl ?_
        refine go_getr (pc := 45) X (fk := 1) sh8 rfl inT_X8 (by decide) fL_X8_13 rfl dX8_shades_45 ?_
        refine go_iconst (pc := 48) X dX8_shades_48 ?_
        refine go_bipush (pc := 49) X dX8_shades_49 (by decide) (by decide) ?_
        refine go_iload_n (pc := 51) X 1 dX8_shades_51 rfl rfl ?_
        refine go_imul (pc := 52) X dX8_shades_52 ?_
        refine go_iadd (pc := 53) X dX8_shades_53 ?_
        refine go_iconst (pc := 54) X dX8_shades_54 ?_
        refine go_iadd (pc := 55) X dX8_shades_55 ?_
        refine go_iload (pc := 56) X 4 dX8_shades_56 rfl ?_
        refine go_iadd (pc := 58) X dX8_shades_58 ?_
        refine go_iload (pc := 59) X 5 dX8_shades_59 rfl ?_
        obtain ⟨g37, h⟩ := gd_some h
        obtain ⟨S38, e39, h⟩ := wrk_some h
        refine go_iastE (pc := 61) X e39 shM1 (Nat.le_of_ble_eq_true rfl) rfl g37 dX8_shades_61 ?_
        refine go_iinc (pc := 62) X [1, 2, 3, 4, 0, 5] 4 (Ls' := [(0, .ref (ad 0)), (1, .int (i32 a1)), (2, .int (i32 a2)), (3, .int (i32 j34)), (4, .int (i32 (t20.2.1 + 1))), (5, .int (i32 r30))]) dX8_shades_62 rfl (by decide) rfl ?_
        refine go_goto (pc := 65) X 5 dX8_shades_65 rfl ?_
        refine go_pick [0, 1, 2, 3, 4] (Ls' := [(0, .ref (ad 0)), (1, .int (i32 a1)), (2, .int (i32 a2)), (3, .int (i32 j34)), (4, .int (i32 (t20.2.1 + 1)))]) rfl ?_
        exact lp_back h hx23
      refine go_icmp_eq (pc := 38) X 44 dX8_shades_38 rfl (fun c40 => ?_) (fun c40 => ?_)
      · rw [if_pos c40] at h35
        cases h35
        exact k36
      · rw [if_neg c40] at h35
        refine go_iinc (pc := 41) X [1, 2, 3, 0, 4, 5] 3 (Ls' := [(0, .ref (ad 0)), (1, .int (i32 a1)), (2, .int (i32 a2)), (3, .int (i32 (t20.1 + 1))), (4, .int (i32 t20.2.1)), (5, .int (i32 r30))]) dX8_shades_41 rfl (by decide) rfl ?_
        cases h35
        exact k36
  refine H19 FU (0, 0, S) r17 h18 ?_
  refine go_iload_n (pc := 68) X 0 dX8_shades_68 rfl rfl ?_
  exact go_iret (pc := 69) X h dX8_shades_69
set_option maxRecDepth 100000 in
set_option maxHeartbeats 4000000 in
theorem ct_X8_shade {l : Launch} {D : va_G} {cI cB : ClassId} {Z : (Nat → Nat) × (Nat → Nat)} {ad : Nat → Nat} {S : Mem} {a1 : Int} {a2 : Int} {r : Int} {S' : Mem} (h : f_X8_shade S a1 a2 = some (r, S')) : Ctr l D cI cB Z ad shsM yX8_shade cX8_shade 5 (some .int) 2 47 [.ref (ad 0), .int (i32 a1), .int (i32 a2)] S (some (.int (i32 r))) S' := by
  refine ctr_of (by decide +kernel) (Nat.le_of_ble_eq_true rfl) rfl ?_
  intro p e s m args below meth c A X
  unfold f_X8_shade at h
  refine go_aload_n (pc := 0) X 0 dX8_shade_0 rfl rfl ?_
  refine go_iload_n (pc := 1) X 1 dX8_shade_1 rfl rfl ?_
  obtain ⟨r1, h2, h⟩ := bind_some h
  refine go_callVi (pc := 2) X 1 [] (ct_X8_isBidder h2) sh8 rfl gg_X8_90 hd_X8_isBidder ⟨Nat.le_of_ble_eq_true rfl, Nat.le_of_ble_eq_true rfl⟩ rfl rfl (Nat.le_of_ble_eq_true rfl) dX8_shade_2 ?_
  refine go_if_eq (pc := 5) X 19 dX8_shade_5 rfl (fun c3 => ?_) (fun c3 => ?_)
  · rw [if_pos c3] at h
    refine go_iconst (pc := 19) X dX8_shade_19 ?_
    exact go_iret (pc := 20) X h dX8_shade_20
  · rw [if_neg c3] at h
    refine go_iload_n (pc := 8) X 2 dX8_shade_8 rfl rfl ?_
    refine go_bipush (pc := 9) X dX8_shade_9 (by decide) (by decide) ?_
    refine go_bipush (pc := 11) X dX8_shade_11 (by decide) (by decide) ?_
    obtain ⟨r4, h5, h⟩ := bind_some h
    refine go_callSi (pc := 13) X 3 [] (ct_X8_in h5) gg_X8_65 hd_X8_in ⟨Nat.le_of_ble_eq_true rfl, Nat.le_of_ble_eq_true rfl⟩ rfl rfl (Nat.le_of_ble_eq_true rfl) dX8_shade_13 ?_
    refine go_if_ne (pc := 16) X 21 dX8_shade_16 rfl (fun c6 => ?_) (fun c6 => ?_)
    · rw [if_neg c6] at h
      refine go_iconst (pc := 21) X dX8_shade_21 ?_
      refine go_istore_n (pc := 22) X [1, 2, 3, 0] (Ls' := [(0, .ref (ad 0)), (1, .int (i32 a1)), (2, .int (i32 a2)), (3, .int (i32 0))]) dX8_shade_22 rfl (by decide) rfl ?_
      refine go_iconst (pc := 23) X dX8_shade_23 ?_
      refine go_istore (pc := 24) X [1, 2, 3, 4, 0] (Ls' := [(0, .ref (ad 0)), (1, .int (i32 a1)), (2, .int (i32 a2)), (3, .int (i32 0)), (4, .int (i32 0))]) dX8_shade_24 (by decide) rfl ?_
      obtain ⟨r20, h21, h⟩ := bind_some h
      have H22 : ∀ (n : Nat) (t23 : Int × Int) (z24 : Int), lp (f_X8_shade_l26 S a1 a2) n t23 = some z24 → Go p l e { frames := 2, cells := 0, slots := 0, locals := 47 } s m args below meth c 5 D cI cB ad shsM A (MQ below (cQ D cI cB ad shsM (some (.int (i32 r))) S' A) args s 0 0 A) 67 [(0, .ref (ad 0)), (1, .int (i32 a1)), (2, .int (i32 a2)), (3, .int (i32 z24))] [] S → Go p l e { frames := 2, cells := 0, slots := 0, locals := 47 } s m args below meth c 5 D cI cB ad shsM A (MQ below (cQ D cI cB ad shsM (some (.int (i32 r))) S' A) args s 0 0 A) 26 [(0, .ref (ad 0)), (1, .int (i32 a1)), (2, .int (i32 a2)), (3, .int (i32 t23.1)), (4, .int (i32 t23.2))] [] S := by
        refine lp_go (fun t23 : Int × Int => Go p l e { frames := 2, cells := 0, slots := 0, locals := 47 } s m args below meth c 5 D cI cB ad shsM A (MQ below (cQ D cI cB ad shsM (some (.int (i32 r))) S' A) args s 0 0 A) 26 [(0, .ref (ad 0)), (1, .int (i32 a1)), (2, .int (i32 a2)), (3, .int (i32 t23.1)), (4, .int (i32 t23.2))] [] S) (fun z24 : Int => Go p l e { frames := 2, cells := 0, slots := 0, locals := 47 } s m args below meth c 5 D cI cB ad shsM A (MQ below (cQ D cI cB ad shsM (some (.int (i32 r))) S' A) args s 0 0 A) 67 [(0, .ref (ad 0)), (1, .int (i32 a1)), (2, .int (i32 a2)), (3, .int (i32 z24))] [] S) ?_
        intro t23 x25 h hx26
        unfold f_X8_shade_l26 at h
        refine go_iload (pc := 26) X 4 dX8_shade_26 rfl ?_
        refine go_aload_n (pc := 28) X 0 dX8_shade_28 rfl rfl ?_
        refine go_iload_n (pc := 29) X 1 dX8_shade_29 rfl rfl ?_
        obtain ⟨r28, h29, h⟩ := bind_some h
        refine go_callVi (pc := 30) X 1 [.int (i32 t23.2)] (ct_X8_valuesOf h29) sh8 rfl gg_X8_73 hd_X8_valuesOf ⟨Nat.le_of_ble_eq_true rfl, Nat.le_of_ble_eq_true rfl⟩ rfl rfl (Nat.le_of_ble_eq_true rfl) dX8_shade_30 ?_
        refine go_icmp_ge (pc := 33) X 67 dX8_shade_33 rfl (fun c30 => ?_) (fun c30 => ?_)
        · rw [if_neg c30] at h
          refine go_pick [0, 1, 2, 3] (Ls' := [(0, .ref (ad 0)), (1, .int (i32 a1)), (2, .int (i32 a2)), (3, .int (i32 t23.1))]) rfl ?_
          exact lp_back h hx26
        · rw [if_pos c30] at h
          refine go_aload_n (pc := 36) X 0 dX8_shade_36 rfl rfl ?_
          refine go_iload_n (pc := 37) X 1 dX8_shade_37 rfl rfl ?_
          refine go_iload (pc := 38) X 4 dX8_shade_38 rfl ?_
          obtain ⟨r31, h32, h⟩ := bind_some h
          refine go_callVi (pc := 40) X 2 [] (ct_X8_valueAt h32) sh8 rfl gg_X8_114 hd_X8_valueAt ⟨Nat.le_of_ble_eq_true rfl, Nat.le_of_ble_eq_true rfl⟩ rfl rfl (Nat.le_of_ble_eq_true rfl) dX8_shade_40 ?_
          refine go_iload_n (pc := 43) X 2 dX8_shade_43 rfl rfl ?_
          refine go_iadd (pc := 44) X dX8_shade_44 ?_
          obtain ⟨r33, h34, h⟩ := bind_some h
          refine go_callSi (pc := 45) X 1 [] (ct_X8_held h34) gg_X8_120 hd_X8_held ⟨Nat.le_of_ble_eq_true rfl, Nat.le_of_ble_eq_true rfl⟩ rfl rfl (Nat.le_of_ble_eq_true rfl) dX8_shade_45 ?_
          refine go_aload_n (pc := 48) X 0 dX8_shade_48 rfl rfl ?_
          refine go_iload_n (pc := 49) X 1 dX8_shade_49 rfl rfl ?_
          refine go_iload (pc := 50) X 4 dX8_shade_50 rfl ?_
          obtain ⟨r35, h36, h⟩ := bind_some h
          refine go_callVi (pc := 52) X 2 [.int (i32 r33)] (ct_X8_valueAt h36) sh8 rfl gg_X8_114 hd_X8_valueAt ⟨Nat.le_of_ble_eq_true rfl, Nat.le_of_ble_eq_true rfl⟩ rfl rfl (Nat.le_of_ble_eq_true rfl) dX8_shade_52 ?_
          obtain ⟨j37, h38, h⟩ := bind_some h
          have k39 : Go p l e { frames := 2, cells := 0, slots := 0, locals := 47 } s m args below meth c 5 D cI cB ad shsM A (MQ below (cQ D cI cB ad shsM (some (.int (i32 r))) S' A) args s 0 0 A) 61 [(0, .ref (ad 0)), (1, .int (i32 a1)), (2, .int (i32 a2)), (3, .int (i32 j37)), (4, .int (i32 t23.2))] [] S := by
            refine go_iinc (pc := 61) X [1, 2, 3, 4, 0] 4 (Ls' := [(0, .ref (ad 0)), (1, .int (i32 a1)), (2, .int (i32 a2)), (3, .int (i32 j37)), (4, .int (i32 (t23.2 + 1)))]) dX8_shade_61 rfl (by decide) rfl ?_
            refine go_goto (pc := 64) X 26 dX8_shade_64 rfl ?_
            exact lp_back h hx26
          refine go_icmp_eq (pc := 55) X 61 dX8_shade_55 rfl (fun c40 => ?_) (fun c40 => ?_)
          · rw [if_pos c40] at h38
            cases h38
            exact k39
          · rw [if_neg c40] at h38
            refine go_iinc (pc := 58) X [1, 2, 3, 0, 4] 3 (Ls' := [(0, .ref (ad 0)), (1, .int (i32 a1)), (2, .int (i32 a2)), (3, .int (i32 (t23.1 + 1))), (4, .int (i32 t23.2))]) dX8_shade_58 rfl (by decide) rfl ?_
            cases h38
            exact k39
      refine H22 FU (0, 0) r20 h21 ?_
      refine go_iload_n (pc := 67) X 3 dX8_shade_67 rfl rfl ?_
      refine go_if_ne (pc := 68) X 73 dX8_shade_68 rfl (fun c41 => ?_) (fun c41 => ?_)
      · rw [if_neg c41] at h
        refine go_aload_n (pc := 73) X 0 dX8_shade_73 rfl rfl ?_
        obtain ⟨S42, h43, h⟩ := bind_some h
        refine go_callVv (pc := 74) X 0 [] (ct_X8_keeps h43) sh8 rfl gg_X8_84 hd_X8_keeps ⟨Nat.le_of_ble_eq_true rfl, Nat.le_of_ble_eq_true rfl⟩ rfl rfl (Nat.le_of_ble_eq_true rfl) dX8_shade_74 ?_
        refine go_aload_n (pc := 77) X 0 dX8_shade_77 rfl rfl ?_
        refine go_iload_n (pc := 78) X 1 dX8_shade_78 rfl rfl ?_
        refine go_iload_n (pc := 79) X 2 dX8_shade_79 rfl rfl ?_
        obtain ⟨u44, h45, h⟩ := bind_some h
        refine go_callVi (pc := 80) X 2 [] (ct_X8_shades h45) sh8 rfl gg_X8_123 hd_X8_shades ⟨Nat.le_of_ble_eq_true rfl, Nat.le_of_ble_eq_true rfl⟩ rfl rfl (Nat.le_of_ble_eq_true rfl) dX8_shade_80 ?_
        exact go_iret (pc := 83) X h dX8_shade_83
      · rw [if_pos c41] at h
        refine go_iconst (pc := 71) X dX8_shade_71 ?_
        exact go_iret (pc := 72) X h dX8_shade_72
    · rw [if_pos c6] at h
      refine go_iconst (pc := 19) X dX8_shade_19 ?_
      exact go_iret (pc := 20) X h dX8_shade_20
set_option maxRecDepth 100000 in
set_option maxHeartbeats 4000000 in
theorem ct_X8_swap {l : Launch} {D : va_G} {cI cB : ClassId} {Z : (Nat → Nat) × (Nat → Nat)} {ad : Nat → Nat} {S : Mem} {a1 : Int} {a2 : Int} {r : Int} {S' : Mem} (h : f_X8_swap S a1 a2 = some (r, S')) : Ctr l D cI cB Z ad shsM yX8_swap cX8_swap 4 (some .boolean) 2 43 [.ref (ad 0), .int (i32 a1), .int (i32 a2)] S (some (.int (i32 r))) S' := by
  refine ctr_of (by decide +kernel) (Nat.le_of_ble_eq_true rfl) rfl ?_
  intro p e s m args below meth c A X
  unfold f_X8_swap at h
  refine go_aload_n (pc := 0) X 0 dX8_swap_0 rfl rfl ?_
  refine go_iload_n (pc := 1) X 1 dX8_swap_1 rfl rfl ?_
  obtain ⟨r1, h2, h⟩ := bind_some h
  refine go_callVi (pc := 2) X 1 [] (ct_X8_isBidder h2) sh8 rfl gg_X8_90 hd_X8_isBidder ⟨Nat.le_of_ble_eq_true rfl, Nat.le_of_ble_eq_true rfl⟩ rfl rfl (Nat.le_of_ble_eq_true rfl) dX8_swap_2 ?_
  refine go_if_eq (pc := 5) X 21 dX8_swap_5 rfl (fun c3 => ?_) (fun c3 => ?_)
  · rw [if_pos c3] at h
    refine go_iconst (pc := 21) X dX8_swap_21 ?_
    exact go_zret (pc := 22) X (Or.inl rfl) h dX8_swap_22
  · rw [if_neg c3] at h
    refine go_aload_n (pc := 8) X 0 dX8_swap_8 rfl rfl ?_
    refine go_iload_n (pc := 9) X 2 dX8_swap_9 rfl rfl ?_
    obtain ⟨r4, h5, h⟩ := bind_some h
    refine go_callVi (pc := 10) X 1 [] (ct_X8_isBidder h5) sh8 rfl gg_X8_90 hd_X8_isBidder ⟨Nat.le_of_ble_eq_true rfl, Nat.le_of_ble_eq_true rfl⟩ rfl rfl (Nat.le_of_ble_eq_true rfl) dX8_swap_10 ?_
    refine go_if_eq (pc := 13) X 21 dX8_swap_13 rfl (fun c6 => ?_) (fun c6 => ?_)
    · rw [if_pos c6] at h
      refine go_iconst (pc := 21) X dX8_swap_21 ?_
      exact go_zret (pc := 22) X (Or.inl rfl) h dX8_swap_22
    · rw [if_neg c6] at h
      refine go_iload_n (pc := 16) X 1 dX8_swap_16 rfl rfl ?_
      refine go_iload_n (pc := 17) X 2 dX8_swap_17 rfl rfl ?_
      refine go_icmp_ne (pc := 18) X 23 dX8_swap_18 rfl (fun c7 => ?_) (fun c7 => ?_)
      · rw [if_neg c7] at h
        refine go_aload_n (pc := 23) X 0 dX8_swap_23 rfl rfl ?_
        obtain ⟨S8, h9, h⟩ := bind_some h
        refine go_callVv (pc := 24) X 0 [] (ct_X8_keeps h9) sh8 rfl gg_X8_84 hd_X8_keeps ⟨Nat.le_of_ble_eq_true rfl, Nat.le_of_ble_eq_true rfl⟩ rfl rfl (Nat.le_of_ble_eq_true rfl) dX8_swap_24 ?_
        refine go_aload_n (pc := 27) X 0 dX8_swap_27 rfl rfl ?_
        obtain ⟨r10, h11, h⟩ := bind_some h
        refine go_callVi (pc := 28) X 0 [] (ct_X8_many h11) sh8 rfl gg_X8_61 hd_X8_many ⟨Nat.le_of_ble_eq_true rfl, Nat.le_of_ble_eq_true rfl⟩ rfl rfl (Nat.le_of_ble_eq_true rfl) dX8_swap_28 ?_
        refine go_istore_n (pc := 31) X [1, 2, 3, 0] (Ls' := [(0, .ref (ad 0)), (1, .int (i32 a1)), (2, .int (i32 a2)), (3, .int (i32 r10))]) dX8_swap_31 rfl (by decide) rfl ?_
        refine go_aload_n (pc := 32) X 0 dX8_swap_32 rfl rfl ?_
        refine go_iload_n (pc := 33) X 1 dX8_swap_33 rfl rfl ?_
        refine go_iload_n (pc := 34) X 3 dX8_swap_34 rfl rfl ?_
        obtain ⟨S12, h13, h⟩ := bind_some h
        refine go_callVv (pc := 35) X 2 [] (ct_X8_lays h13) sh8 rfl gg_X8_80 hd_X8_lays ⟨Nat.le_of_ble_eq_true rfl, Nat.le_of_ble_eq_true rfl⟩ rfl rfl (Nat.le_of_ble_eq_true rfl) dX8_swap_35 ?_
        refine go_aload_n (pc := 38) X 0 dX8_swap_38 rfl rfl ?_
        refine go_iload_n (pc := 39) X 2 dX8_swap_39 rfl rfl ?_
        refine go_iload_n (pc := 40) X 1 dX8_swap_40 rfl rfl ?_
        obtain ⟨S14, h15, h⟩ := bind_some h
        refine go_callVv (pc := 41) X 2 [] (ct_X8_lays h15) sh8 rfl gg_X8_80 hd_X8_lays ⟨Nat.le_of_ble_eq_true rfl, Nat.le_of_ble_eq_true rfl⟩ rfl rfl (Nat.le_of_ble_eq_true rfl) dX8_swap_41 ?_
        refine go_aload_n (pc := 44) X 0 dX8_swap_44 rfl rfl ?_
        refine go_iload_n (pc := 45) X 3 dX8_swap_45 rfl rfl ?_
        refine go_iload_n (pc := 46) X 2 dX8_swap_46 rfl rfl ?_
        obtain ⟨S16, h17, h⟩ := bind_some h
        refine go_callVv (pc := 47) X 2 [] (ct_X8_lays h17) sh8 rfl gg_X8_80 hd_X8_lays ⟨Nat.le_of_ble_eq_true rfl, Nat.le_of_ble_eq_true rfl⟩ rfl rfl (Nat.le_of_ble_eq_true rfl) dX8_swap_47 ?_
        refine go_iconst (pc := 50) X dX8_swap_50 ?_
        exact go_zret (pc := 51) X (Or.inr rfl) h dX8_swap_51
      · rw [if_pos c7] at h
        refine go_iconst (pc := 21) X dX8_swap_21 ?_
        exact go_zret (pc := 22) X (Or.inl rfl) h dX8_swap_22
set_option maxRecDepth 100000 in
set_option maxHeartbeats 4000000 in
theorem ct_X8_supply {l : Launch} {D : va_G} {cI cB : ClassId} {Z : (Nat → Nat) × (Nat → Nat)} {ad : Nat → Nat} {S : Mem} {a1 : Int} {r : Int} {S' : Mem} (h : f_X8_supply S a1 = some (r, S')) : Ctr l D cI cB Z ad shsM yX8_supply cX8_supply 2 (some .int) 2 44 [.ref (ad 0), .int (i32 a1)] S (some (.int (i32 r))) S' := by
  refine ctr_of (by decide +kernel) (Nat.le_of_ble_eq_true rfl) rfl ?_
  intro p e s m args below meth c A X
  unfold f_X8_supply at h
  refine go_iload_n (pc := 0) X 1 dX8_supply_0 rfl rfl ?_
  refine go_iconst (pc := 1) X dX8_supply_1 ?_
  refine go_bipush (pc := 2) X dX8_supply_2 (by decide) (by decide) ?_
  obtain ⟨r1, h2, h⟩ := bind_some h
  refine go_callSi (pc := 4) X 3 [] (ct_X8_in h2) gg_X8_65 hd_X8_in ⟨Nat.le_of_ble_eq_true rfl, Nat.le_of_ble_eq_true rfl⟩ rfl rfl (Nat.le_of_ble_eq_true rfl) dX8_supply_4 ?_
  refine go_if_eq (pc := 7) X 29 dX8_supply_7 rfl (fun c3 => ?_) (fun c3 => ?_)
  · rw [if_pos c3] at h
    refine go_iconst (pc := 29) X dX8_supply_29 ?_
    exact go_iret (pc := 30) X h dX8_supply_30
  · rw [if_neg c3] at h
    refine go_iload_n (pc := 10) X 1 dX8_supply_10 rfl rfl ?_
    refine go_aload_n (pc := 11) X 0 dX8_supply_11 rfl rfl ?_
    refine go_getr (pc := 12) X (fk := 1) sh8 rfl inT_X8 (by decide) fL_X8_13 rfl dX8_supply_12 ?_
    refine go_iconst (pc := 15) X dX8_supply_15 ?_
    obtain ⟨g4, h⟩ := gd_some h
    refine go_iald (pc := 16) X shM1 (Nat.le_of_ble_eq_true rfl) rfl g4 dX8_supply_16 ?_
    refine go_icmp_eq (pc := 17) X 29 dX8_supply_17 rfl (fun c5 => ?_) (fun c5 => ?_)
    · rw [if_pos c5] at h
      refine go_iconst (pc := 29) X dX8_supply_29 ?_
      exact go_iret (pc := 30) X h dX8_supply_30
    · rw [if_neg c5] at h
      refine go_aload_n (pc := 20) X 0 dX8_supply_20 rfl rfl ?_
      refine go_iconst (pc := 21) X dX8_supply_21 ?_
      refine go_iload_n (pc := 22) X 1 dX8_supply_22 rfl rfl ?_
      obtain ⟨u6, h7, h⟩ := bind_some h
      refine go_callVi (pc := 23) X 2 [] (ct_X8_becomes h7) sh8 rfl gg_X8_111 hd_X8_becomes ⟨Nat.le_of_ble_eq_true rfl, Nat.le_of_ble_eq_true rfl⟩ rfl rfl (Nat.le_of_ble_eq_true rfl) dX8_supply_23 ?_
      refine go_goto (pc := 26) X 30 dX8_supply_26 rfl ?_
      exact go_iret (pc := 30) X h dX8_supply_30
set_option maxRecDepth 100000 in
set_option maxHeartbeats 4000000 in
theorem ct_X8_reserve {l : Launch} {D : va_G} {cI cB : ClassId} {Z : (Nat → Nat) × (Nat → Nat)} {ad : Nat → Nat} {S : Mem} {a1 : Int} {r : Int} {S' : Mem} (h : f_X8_reserve S a1 = some (r, S')) : Ctr l D cI cB Z ad shsM yX8_reserve cX8_reserve 2 (some .int) 2 44 [.ref (ad 0), .int (i32 a1)] S (some (.int (i32 r))) S' := by
  refine ctr_of (by decide +kernel) (Nat.le_of_ble_eq_true rfl) rfl ?_
  intro p e s m args below meth c A X
  unfold f_X8_reserve at h
  refine go_iload_n (pc := 0) X 1 dX8_reserve_0 rfl rfl ?_
  obtain ⟨r1, h2, h⟩ := bind_some h
  refine go_callSi (pc := 1) X 1 [] (ct_X8_isPrice h2) gg_X8_98 hd_X8_isPrice ⟨Nat.le_of_ble_eq_true rfl, Nat.le_of_ble_eq_true rfl⟩ rfl rfl (Nat.le_of_ble_eq_true rfl) dX8_reserve_1 ?_
  refine go_if_eq (pc := 4) X 26 dX8_reserve_4 rfl (fun c3 => ?_) (fun c3 => ?_)
  · rw [if_pos c3] at h
    refine go_iconst (pc := 26) X dX8_reserve_26 ?_
    exact go_iret (pc := 27) X h dX8_reserve_27
  · rw [if_neg c3] at h
    refine go_iload_n (pc := 7) X 1 dX8_reserve_7 rfl rfl ?_
    refine go_aload_n (pc := 8) X 0 dX8_reserve_8 rfl rfl ?_
    refine go_getr (pc := 9) X (fk := 1) sh8 rfl inT_X8 (by decide) fL_X8_13 rfl dX8_reserve_9 ?_
    refine go_iconst (pc := 12) X dX8_reserve_12 ?_
    obtain ⟨g4, h⟩ := gd_some h
    refine go_iald (pc := 13) X shM1 (Nat.le_of_ble_eq_true rfl) rfl g4 dX8_reserve_13 ?_
    refine go_icmp_eq (pc := 14) X 26 dX8_reserve_14 rfl (fun c5 => ?_) (fun c5 => ?_)
    · rw [if_pos c5] at h
      refine go_iconst (pc := 26) X dX8_reserve_26 ?_
      exact go_iret (pc := 27) X h dX8_reserve_27
    · rw [if_neg c5] at h
      refine go_aload_n (pc := 17) X 0 dX8_reserve_17 rfl rfl ?_
      refine go_iconst (pc := 18) X dX8_reserve_18 ?_
      refine go_iload_n (pc := 19) X 1 dX8_reserve_19 rfl rfl ?_
      obtain ⟨u6, h7, h⟩ := bind_some h
      refine go_callVi (pc := 20) X 2 [] (ct_X8_becomes h7) sh8 rfl gg_X8_111 hd_X8_becomes ⟨Nat.le_of_ble_eq_true rfl, Nat.le_of_ble_eq_true rfl⟩ rfl rfl (Nat.le_of_ble_eq_true rfl) dX8_reserve_20 ?_
      refine go_goto (pc := 23) X 27 dX8_reserve_23 rfl ?_
      exact go_iret (pc := 27) X h dX8_reserve_27
set_option maxRecDepth 100000 in
set_option maxHeartbeats 4000000 in
theorem ct_X8_undo {l : Launch} {D : va_G} {cI cB : ClassId} {Z : (Nat → Nat) × (Nat → Nat)} {ad : Nat → Nat} {S : Mem} {r : Int} {S' : Mem} (h : f_X8_undo S = some (r, S')) : Ctr l D cI cB Z ad shsM yX8_undo cX8_undo 2 (some .int) 0 0 [.ref (ad 0)] S (some (.int (i32 r))) S' := by
  refine ctr_of (by decide +kernel) (Nat.le_of_ble_eq_true rfl) rfl ?_
  intro p e s m args below meth c A X
  unfold f_X8_undo at h
  refine go_aload_n (pc := 0) X 0 dX8_undo_0 rfl rfl ?_
  refine go_get (pc := 1) X (fk := 5) (fi := 5) rfl sh8 rfl inT_X8 (by decide) fL_X8_58 rfl dX8_undo_1 ?_
  refine go_if_ne (pc := 4) X 9 dX8_undo_4 rfl (fun c1 => ?_) (fun c1 => ?_)
  · rw [if_neg c1] at h
    refine go_aload_n (pc := 9) X 0 dX8_undo_9 rfl rfl ?_
    refine go_dup (pc := 10) X dX8_undo_10 rfl ?_
    refine go_get (pc := 11) X (fk := 5) (fi := 5) rfl sh8 rfl inT_X8 (by decide) fL_X8_58 rfl dX8_undo_11 ?_
    refine go_iconst (pc := 14) X dX8_undo_14 ?_
    refine go_isub (pc := 15) X dX8_undo_15 ?_
    obtain ⟨S2, e3, h⟩ := wrk_some h
    refine go_putE (pc := 16) X (fk := 5) (fi := 5) rfl e3 sh8 rfl inT_X8 tyX8_ok nmX8 (by decide) fL_X8_58 rfl rfl rfl rfl rfl dX8_undo_16 ?_
    refine go_iconst (pc := 19) X dX8_undo_19 ?_
    refine go_istore_n (pc := 20) X [1, 0] (Ls' := [(0, .ref (ad 0)), (1, .int (i32 0))]) dX8_undo_20 rfl (by decide) rfl ?_
    obtain ⟨r9, h10, h⟩ := bind_some h
    have H11 : ∀ (n : Nat) (t12 : Int × Mem) (z13 : Mem), lp (f_X8_undo_l21) n t12 = some z13 → Go p l e { frames := 0, cells := 0, slots := 0, locals := 0 } s m args below meth c 2 D cI cB ad shsM A (MQ below (cQ D cI cB ad shsM (some (.int (i32 r))) S' A) args s 0 0 A) 53 [(0, .ref (ad 0))] [] z13 → Go p l e { frames := 0, cells := 0, slots := 0, locals := 0 } s m args below meth c 2 D cI cB ad shsM A (MQ below (cQ D cI cB ad shsM (some (.int (i32 r))) S' A) args s 0 0 A) 21 [(0, .ref (ad 0)), (1, .int (i32 t12.1))] [] t12.2 := by
      refine lp_go (fun t12 : Int × Mem => Go p l e { frames := 0, cells := 0, slots := 0, locals := 0 } s m args below meth c 2 D cI cB ad shsM A (MQ below (cQ D cI cB ad shsM (some (.int (i32 r))) S' A) args s 0 0 A) 21 [(0, .ref (ad 0)), (1, .int (i32 t12.1))] [] t12.2) (fun z13 : Mem => Go p l e { frames := 0, cells := 0, slots := 0, locals := 0 } s m args below meth c 2 D cI cB ad shsM A (MQ below (cQ D cI cB ad shsM (some (.int (i32 r))) S' A) args s 0 0 A) 53 [(0, .ref (ad 0))] [] z13) ?_
      intro t12 x14 h hx15
      unfold f_X8_undo_l21 at h
      refine go_iload_n (pc := 21) X 1 dX8_undo_21 rfl rfl ?_
      refine go_bipush (pc := 22) X dX8_undo_22 (by decide) (by decide) ?_
      refine go_icmp_ge (pc := 24) X 53 dX8_undo_24 rfl (fun c17 => ?_) (fun c17 => ?_)
      · rw [if_neg c17] at h
        refine go_pick [0] (Ls' := [(0, .ref (ad 0))]) rfl ?_
        exact lp_back h hx15
      · rw [if_pos c17] at h
        refine go_aload_n (pc := 27) X 0 dX8_undo_27 rfl rfl ?_
        refine go_getr (pc := 28) X (fk := 1) sh8 rfl inT_X8 (by decide) fL_X8_13 rfl dX8_undo_28 ?_
        refine go_iload_n (pc := 31) X 1 dX8_undo_31 rfl rfl ?_
        refine go_aload_n (pc := 32) X 0 dX8_undo_32 rfl rfl ?_
        refine go_getr (pc := 33) X (fk := 4) sh8 rfl inT_X8 (by decide) fL_X8_23 rfl dX8_undo_33 ?_
        refine go_bipush (pc := 36) X dX8_undo_36 (by decide) (by decide) ?_
        refine go_aload_n (pc := 38) X 0 dX8_undo_38 rfl rfl ?_
        refine go_get (pc := 39) X (fk := 5) (fi := 5) rfl sh8 rfl inT_X8 (by decide) fL_X8_58 rfl dX8_undo_39 ?_
        refine go_imul (pc := 42) X dX8_undo_42 ?_
        refine go_iload_n (pc := 43) X 1 dX8_undo_43 rfl rfl ?_
        refine go_iadd (pc := 44) X dX8_undo_44 ?_
        obtain ⟨g18, h⟩ := gd_some h
        refine go_iald (pc := 45) X shM4 (Nat.le_of_ble_eq_true rfl) rfl g18 dX8_undo_45 ?_
        obtain ⟨g19, h⟩ := gd_some h
        obtain ⟨S20, e21, h⟩ := wrk_some h
        refine go_iastE (pc := 46) X e21 shM1 (Nat.le_of_ble_eq_true rfl) rfl g19 dX8_undo_46 ?_
        refine go_iinc (pc := 47) X [1, 0] 1 (Ls' := [(0, .ref (ad 0)), (1, .int (i32 (t12.1 + 1)))]) dX8_undo_47 rfl (by decide) rfl ?_
        refine go_goto (pc := 50) X 21 dX8_undo_50 rfl ?_
        exact lp_back h hx15
    refine H11 FU (0, S2) r9 h10 ?_
    refine go_aload_n (pc := 53) X 0 dX8_undo_53 rfl rfl ?_
    refine go_get (pc := 54) X (fk := 5) (fi := 5) rfl sh8 rfl inT_X8 (by decide) fL_X8_58 rfl dX8_undo_54 ?_
    exact go_iret (pc := 57) X h dX8_undo_57
  · rw [if_pos c1] at h
    refine go_iconst (pc := 7) X dX8_undo_7 ?_
    exact go_iret (pc := 8) X h dX8_undo_8
set_option maxRecDepth 100000 in
set_option maxHeartbeats 4000000 in
theorem ct_X8_aboveOf {l : Launch} {D : va_G} {cI cB : ClassId} {Z : (Nat → Nat) × (Nat → Nat)} {ad : Nat → Nat} {S : Mem} {a1 : Int} {a2 : Int} {r : Int} (h : f_X8_aboveOf S a1 a2 = some r) : Ctr l D cI cB Z ad shsM yX8_aboveOf cX8_aboveOf 4 (some .int) 2 42 [.ref (ad 0), .int (i32 a1), .int (i32 a2)] S (some (.int (i32 r))) S := by
  refine ctr_of (by decide +kernel) (Nat.le_of_ble_eq_true rfl) rfl ?_
  intro p e s m args below meth c A X
  unfold f_X8_aboveOf at h
  refine go_iconst (pc := 0) X dX8_aboveOf_0 ?_
  refine go_istore_n (pc := 1) X [1, 2, 3, 0] (Ls' := [(0, .ref (ad 0)), (1, .int (i32 a1)), (2, .int (i32 a2)), (3, .int (i32 0))]) dX8_aboveOf_1 rfl (by decide) rfl ?_
  obtain ⟨r7, h8, h⟩ := bind_some h
  have H9 : ∀ (n : Nat) (t10 : Int) (z11 : Int), lp (f_X8_aboveOf_l2 S a1 a2) n t10 = some z11 → Go p l e { frames := 2, cells := 0, slots := 0, locals := 42 } s m args below meth c 4 D cI cB ad shsM A (MQ below (cQ D cI cB ad shsM (some (.int (i32 r))) S A) args s 0 0 A) 27 [(3, .int (i32 z11))] [] S → Go p l e { frames := 2, cells := 0, slots := 0, locals := 42 } s m args below meth c 4 D cI cB ad shsM A (MQ below (cQ D cI cB ad shsM (some (.int (i32 r))) S A) args s 0 0 A) 2 [(0, .ref (ad 0)), (1, .int (i32 a1)), (2, .int (i32 a2)), (3, .int (i32 t10))] [] S := by
    refine lp_go (fun t10 : Int => Go p l e { frames := 2, cells := 0, slots := 0, locals := 42 } s m args below meth c 4 D cI cB ad shsM A (MQ below (cQ D cI cB ad shsM (some (.int (i32 r))) S A) args s 0 0 A) 2 [(0, .ref (ad 0)), (1, .int (i32 a1)), (2, .int (i32 a2)), (3, .int (i32 t10))] [] S) (fun z11 : Int => Go p l e { frames := 2, cells := 0, slots := 0, locals := 42 } s m args below meth c 4 D cI cB ad shsM A (MQ below (cQ D cI cB ad shsM (some (.int (i32 r))) S A) args s 0 0 A) 27 [(3, .int (i32 z11))] [] S) ?_
    intro t10 x12 h hx13
    unfold f_X8_aboveOf_l2 at h
    refine go_iload_n (pc := 2) X 3 dX8_aboveOf_2 rfl rfl ?_
    refine go_aload_n (pc := 3) X 0 dX8_aboveOf_3 rfl rfl ?_
    refine go_iload_n (pc := 4) X 1 dX8_aboveOf_4 rfl rfl ?_
    obtain ⟨r15, h16, h⟩ := bind_some h
    refine go_callVi (pc := 5) X 1 [.int (i32 t10)] (ct_X8_usedOf h16) sh8 rfl gg_X8_126 hd_X8_usedOf ⟨Nat.le_of_ble_eq_true rfl, Nat.le_of_ble_eq_true rfl⟩ rfl rfl (Nat.le_of_ble_eq_true rfl) dX8_aboveOf_5 ?_
    refine go_icmp_ge (pc := 8) X 27 dX8_aboveOf_8 rfl (fun c17 => ?_) (fun c17 => ?_)
    · rw [if_neg c17] at h
      refine go_pick [3] (Ls' := [(3, .int (i32 t10))]) rfl ?_
      exact lp_back h hx13
    · rw [if_pos c17] at h
      refine go_aload_n (pc := 11) X 0 dX8_aboveOf_11 rfl rfl ?_
      refine go_iload_n (pc := 12) X 1 dX8_aboveOf_12 rfl rfl ?_
      refine go_iload_n (pc := 13) X 3 dX8_aboveOf_13 rfl rfl ?_
      obtain ⟨r18, h19, h⟩ := bind_some h
      refine go_callVi (pc := 14) X 2 [] (ct_X8_valueAt h19) sh8 rfl gg_X8_114 hd_X8_valueAt ⟨Nat.le_of_ble_eq_true rfl, Nat.le_of_ble_eq_true rfl⟩ rfl rfl (Nat.le_of_ble_eq_true rfl) dX8_aboveOf_14 ?_
      refine go_iload_n (pc := 17) X 2 dX8_aboveOf_17 rfl rfl ?_
      refine go_icmp_le (pc := 18) X 27 dX8_aboveOf_18 rfl (fun c20 => ?_) (fun c20 => ?_)
      · rw [if_neg c20] at h
        refine go_pick [3] (Ls' := [(3, .int (i32 t10))]) rfl ?_
        exact lp_back h hx13
      · rw [if_pos c20] at h
        refine go_iinc (pc := 21) X [1, 2, 3, 0] 3 (Ls' := [(0, .ref (ad 0)), (1, .int (i32 a1)), (2, .int (i32 a2)), (3, .int (i32 (t10 + 1)))]) dX8_aboveOf_21 rfl (by decide) rfl ?_
        refine go_goto (pc := 24) X 2 dX8_aboveOf_24 rfl ?_
        exact lp_back h hx13
  refine H9 FU 0 r7 h8 ?_
  refine go_iload_n (pc := 27) X 0 dX8_aboveOf_27 rfl rfl ?_
  exact go_iretP (pc := 28) X h dX8_aboveOf_28
set_option maxRecDepth 100000 in
set_option maxHeartbeats 4000000 in
theorem ct_X8_wantedAt {l : Launch} {D : va_G} {cI cB : ClassId} {Z : (Nat → Nat) × (Nat → Nat)} {ad : Nat → Nat} {S : Mem} {a1 : Int} {r : Int} (h : f_X8_wantedAt S a1 = some r) : Ctr l D cI cB Z ad shsM yX8_wantedAt cX8_wantedAt 4 (some .int) 3 65 [.ref (ad 0), .int (i32 a1)] S (some (.int (i32 r))) S := by
  refine ctr_of (by decide +kernel) (Nat.le_of_ble_eq_true rfl) rfl ?_
  intro p e s m args below meth c A X
  unfold f_X8_wantedAt at h
  refine go_iconst (pc := 0) X dX8_wantedAt_0 ?_
  refine go_istore_n (pc := 1) X [1, 2, 0] (Ls' := [(0, .ref (ad 0)), (1, .int (i32 a1)), (2, .int (i32 0))]) dX8_wantedAt_1 rfl (by decide) rfl ?_
  refine go_iconst (pc := 2) X dX8_wantedAt_2 ?_
  refine go_istore_n (pc := 3) X [1, 2, 3, 0] (Ls' := [(0, .ref (ad 0)), (1, .int (i32 a1)), (2, .int (i32 0)), (3, .int (i32 0))]) dX8_wantedAt_3 rfl (by decide) rfl ?_
  obtain ⟨r6, h7, h⟩ := bind_some h
  have H8 : ∀ (n : Nat) (t9 : Int × Int) (z10 : Int), lp (f_X8_wantedAt_l4 S a1) n t9 = some z10 → Go p l e { frames := 3, cells := 0, slots := 0, locals := 65 } s m args below meth c 4 D cI cB ad shsM A (MQ below (cQ D cI cB ad shsM (some (.int (i32 r))) S A) args s 0 0 A) 27 [(2, .int (i32 z10))] [] S → Go p l e { frames := 3, cells := 0, slots := 0, locals := 65 } s m args below meth c 4 D cI cB ad shsM A (MQ below (cQ D cI cB ad shsM (some (.int (i32 r))) S A) args s 0 0 A) 4 [(0, .ref (ad 0)), (1, .int (i32 a1)), (2, .int (i32 t9.1)), (3, .int (i32 t9.2))] [] S := by
    refine lp_go (fun t9 : Int × Int => Go p l e { frames := 3, cells := 0, slots := 0, locals := 65 } s m args below meth c 4 D cI cB ad shsM A (MQ below (cQ D cI cB ad shsM (some (.int (i32 r))) S A) args s 0 0 A) 4 [(0, .ref (ad 0)), (1, .int (i32 a1)), (2, .int (i32 t9.1)), (3, .int (i32 t9.2))] [] S) (fun z10 : Int => Go p l e { frames := 3, cells := 0, slots := 0, locals := 65 } s m args below meth c 4 D cI cB ad shsM A (MQ below (cQ D cI cB ad shsM (some (.int (i32 r))) S A) args s 0 0 A) 27 [(2, .int (i32 z10))] [] S) ?_
    intro t9 x11 h hx12
    unfold f_X8_wantedAt_l4 at h
    refine go_iload_n (pc := 4) X 3 dX8_wantedAt_4 rfl rfl ?_
    refine go_aload_n (pc := 5) X 0 dX8_wantedAt_5 rfl rfl ?_
    obtain ⟨r14, h15, h⟩ := bind_some h
    refine go_callVi (pc := 6) X 0 [.int (i32 t9.2)] (ct_X8_many h15) sh8 rfl gg_X8_61 hd_X8_many ⟨Nat.le_of_ble_eq_true rfl, Nat.le_of_ble_eq_true rfl⟩ rfl rfl (Nat.le_of_ble_eq_true rfl) dX8_wantedAt_6 ?_
    refine go_icmp_ge (pc := 9) X 27 dX8_wantedAt_9 rfl (fun c16 => ?_) (fun c16 => ?_)
    · rw [if_neg c16] at h
      refine go_pick [2] (Ls' := [(2, .int (i32 t9.1))]) rfl ?_
      exact lp_back h hx12
    · rw [if_pos c16] at h
      refine go_iload_n (pc := 12) X 2 dX8_wantedAt_12 rfl rfl ?_
      refine go_aload_n (pc := 13) X 0 dX8_wantedAt_13 rfl rfl ?_
      refine go_iload_n (pc := 14) X 3 dX8_wantedAt_14 rfl rfl ?_
      refine go_iload_n (pc := 15) X 1 dX8_wantedAt_15 rfl rfl ?_
      obtain ⟨r17, h18, h⟩ := bind_some h
      refine go_callVi (pc := 16) X 2 [.int (i32 t9.1)] (ct_X8_aboveOf h18) sh8 rfl gg_X8_129 hd_X8_aboveOf ⟨Nat.le_of_ble_eq_true rfl, Nat.le_of_ble_eq_true rfl⟩ rfl rfl (Nat.le_of_ble_eq_true rfl) dX8_wantedAt_16 ?_
      refine go_iadd (pc := 19) X dX8_wantedAt_19 ?_
      refine go_istore_n (pc := 20) X [1, 2, 0, 3] (Ls' := [(0, .ref (ad 0)), (1, .int (i32 a1)), (2, .int (i32 (t9.1 + r17))), (3, .int (i32 t9.2))]) dX8_wantedAt_20 rfl (by decide) rfl ?_
      refine go_iinc (pc := 21) X [1, 2, 3, 0] 3 (Ls' := [(0, .ref (ad 0)), (1, .int (i32 a1)), (2, .int (i32 (t9.1 + r17))), (3, .int (i32 (t9.2 + 1)))]) dX8_wantedAt_21 rfl (by decide) rfl ?_
      refine go_goto (pc := 24) X 4 dX8_wantedAt_24 rfl ?_
      exact lp_back h hx12
  refine H8 FU (0, 0) r6 h7 ?_
  refine go_iload_n (pc := 27) X 0 dX8_wantedAt_27 rfl rfl ?_
  exact go_iretP (pc := 28) X h dX8_wantedAt_28
set_option maxRecDepth 100000 in
set_option maxHeartbeats 4000000 in
theorem ct_X8_freeOf {l : Launch} {D : va_G} {cI cB : ClassId} {Z : (Nat → Nat) × (Nat → Nat)} {ad : Nat → Nat} {S : Mem} {a1 : Int} {a2 : Int} {r : Int} (h : f_X8_freeOf S a1 a2 = some r) : Ctr l D cI cB Z ad shsM yX8_freeOf cX8_freeOf 4 (some .int) 4 88 [.ref (ad 0), .int (i32 a1), .int (i32 a2)] S (some (.int (i32 r))) S := by
  refine ctr_of (by decide +kernel) (Nat.le_of_ble_eq_true rfl) rfl ?_
  intro p e s m args below meth c A X
  unfold f_X8_freeOf at h
  refine go_aload_n (pc := 0) X 0 dX8_freeOf_0 rfl rfl ?_
  refine go_getr (pc := 1) X (fk := 1) sh8 rfl inT_X8 (by decide) fL_X8_13 rfl dX8_freeOf_1 ?_
  refine go_iconst (pc := 4) X dX8_freeOf_4 ?_
  obtain ⟨g1, h⟩ := gd_some h
  refine go_iald (pc := 5) X shM1 (Nat.le_of_ble_eq_true rfl) rfl g1 dX8_freeOf_5 ?_
  refine go_aload_n (pc := 6) X 0 dX8_freeOf_6 rfl rfl ?_
  refine go_iload_n (pc := 7) X 2 dX8_freeOf_7 rfl rfl ?_
  obtain ⟨r2, h3, h⟩ := bind_some h
  refine go_callVi (pc := 8) X 1 [.int (i32 (S 1 0))] (ct_X8_wantedAt h3) sh8 rfl gg_X8_132 hd_X8_wantedAt ⟨Nat.le_of_ble_eq_true rfl, Nat.le_of_ble_eq_true rfl⟩ rfl rfl (Nat.le_of_ble_eq_true rfl) dX8_freeOf_8 ?_
  refine go_isub (pc := 11) X dX8_freeOf_11 ?_
  refine go_aload_n (pc := 12) X 0 dX8_freeOf_12 rfl rfl ?_
  refine go_iload_n (pc := 13) X 1 dX8_freeOf_13 rfl rfl ?_
  refine go_iload_n (pc := 14) X 2 dX8_freeOf_14 rfl rfl ?_
  obtain ⟨r4, h5, h⟩ := bind_some h
  refine go_callVi (pc := 15) X 2 [.int (i32 ((S 1 0) - r2))] (ct_X8_aboveOf h5) sh8 rfl gg_X8_129 hd_X8_aboveOf ⟨Nat.le_of_ble_eq_true rfl, Nat.le_of_ble_eq_true rfl⟩ rfl rfl (Nat.le_of_ble_eq_true rfl) dX8_freeOf_15 ?_
  refine go_iadd (pc := 18) X dX8_freeOf_18 ?_
  refine go_istore_n (pc := 19) X [1, 2, 3, 0] (Ls' := [(0, .ref (ad 0)), (1, .int (i32 a1)), (2, .int (i32 a2)), (3, .int (i32 (((S 1 0) - r2) + r4)))]) dX8_freeOf_19 rfl (by decide) rfl ?_
  refine go_iload_n (pc := 20) X 3 dX8_freeOf_20 rfl rfl ?_
  refine go_if_ge (pc := 21) X 28 dX8_freeOf_21 rfl (fun c6 => ?_) (fun c6 => ?_)
  · rw [if_neg c6] at h
    refine go_iload_n (pc := 28) X 3 dX8_freeOf_28 rfl rfl ?_
    exact go_iretP (pc := 29) X h dX8_freeOf_29
  · rw [if_pos c6] at h
    refine go_iconst (pc := 24) X dX8_freeOf_24 ?_
    refine go_goto (pc := 25) X 29 dX8_freeOf_25 rfl ?_
    exact go_iretP (pc := 29) X h dX8_freeOf_29
set_option maxRecDepth 100000 in
set_option maxHeartbeats 4000000 in
theorem ct_X8_gets {l : Launch} {D : va_G} {cI cB : ClassId} {Z : (Nat → Nat) × (Nat → Nat)} {ad : Nat → Nat} {S : Mem} {a1 : Int} {a2 : Int} {S' : Mem} (h : f_X8_gets S a1 a2 = some S') : Ctr l D cI cB Z ad shsM yX8_gets cX8_gets 3 none 0 0 [.ref (ad 0), .int (i32 a1), .int (i32 a2)] S (none) S' := by
  refine ctr_of (by decide +kernel) (Nat.le_of_ble_eq_true rfl) rfl ?_
  intro p e s m args below meth c A X
  unfold f_X8_gets at h
  refine go_aload_n (pc := 0) X 0 dX8_gets_0 rfl rfl ?_
  refine go_getr (pc := 1) X (fk := 8) sh8 rfl inT_X8 (by decide) fL_X8_32 rfl dX8_gets_1 ?_
  refine go_bipush (pc := 4) X dX8_gets_4 (by decide) (by decide) ?_
  refine go_iload_n (pc := 6) X 1 dX8_gets_6 rfl rfl ?_
  refine go_imul (pc := 7) X dX8_gets_7 ?_
  refine go_aload_n (pc := 8) X 0 dX8_gets_8 rfl rfl ?_
  refine go_getr (pc := 9) X (fk := 6) sh8 rfl inT_X8 (by decide) fL_X8_26 rfl dX8_gets_9 ?_
  refine go_iload_n (pc := 12) X 1 dX8_gets_12 rfl rfl ?_
  obtain ⟨g1, h⟩ := gd_some h
  refine go_iald (pc := 13) X shM5 (Nat.le_of_ble_eq_true rfl) rfl g1 dX8_gets_13 ?_
  refine go_iadd (pc := 14) X dX8_gets_14 ?_
  refine go_iload_n (pc := 15) X 2 dX8_gets_15 rfl rfl ?_
  obtain ⟨g2, h⟩ := gd_some h
  obtain ⟨S3, e4, h⟩ := wrk_some h
  refine go_iastE (pc := 16) X e4 shM7 (Nat.le_of_ble_eq_true rfl) rfl g2 dX8_gets_16 ?_
  refine go_aload_n (pc := 17) X 0 dX8_gets_17 rfl rfl ?_
  refine go_getr (pc := 18) X (fk := 6) sh8 rfl inT_X8 (by decide) fL_X8_26 rfl dX8_gets_18 ?_
  refine go_iload_n (pc := 21) X 1 dX8_gets_21 rfl rfl ?_
  refine go_dup2 (pc := 22) X dX8_gets_22 rfl rfl ?_
  refine go_iald (pc := 23) X shM5 (Nat.le_of_ble_eq_true rfl) rfl g1 dX8_gets_23 ?_
  refine go_iconst (pc := 24) X dX8_gets_24 ?_
  refine go_iadd (pc := 25) X dX8_gets_25 ?_
  obtain ⟨S5, e6, h⟩ := wrk_some h
  refine go_iastE (pc := 26) X e6 shM5 (Nat.le_of_ble_eq_true rfl) rfl g1 dX8_gets_26 ?_
  refine go_aload_n (pc := 27) X 0 dX8_gets_27 rfl rfl ?_
  refine go_getr (pc := 28) X (fk := 9) sh8 rfl inT_X8 (by decide) fL_X8_35 rfl dX8_gets_28 ?_
  refine go_aload_n (pc := 31) X 0 dX8_gets_31 rfl rfl ?_
  refine go_get (pc := 32) X (fk := 11) (fi := 11) rfl sh8 rfl inT_X8 (by decide) fL_X8_135 rfl dX8_gets_32 ?_
  refine go_iload_n (pc := 35) X 1 dX8_gets_35 rfl rfl ?_
  obtain ⟨g7, h⟩ := gd_some h
  obtain ⟨S8, e9, h⟩ := wrk_some h
  refine go_iastE (pc := 36) X e9 shM8 (Nat.le_of_ble_eq_true rfl) rfl g7 dX8_gets_36 ?_
  refine go_aload_n (pc := 37) X 0 dX8_gets_37 rfl rfl ?_
  refine go_getr (pc := 38) X (fk := 10) sh8 rfl inT_X8 (by decide) fL_X8_38 rfl dX8_gets_38 ?_
  refine go_aload_n (pc := 41) X 0 dX8_gets_41 rfl rfl ?_
  refine go_get (pc := 42) X (fk := 11) (fi := 11) rfl sh8 rfl inT_X8 (by decide) fL_X8_135 rfl dX8_gets_42 ?_
  refine go_iload_n (pc := 45) X 2 dX8_gets_45 rfl rfl ?_
  obtain ⟨g10, h⟩ := gd_some h
  obtain ⟨S11, e12, h⟩ := wrk_some h
  refine go_iastE (pc := 46) X e12 shM9 (Nat.le_of_ble_eq_true rfl) rfl g10 dX8_gets_46 ?_
  refine go_aload_n (pc := 47) X 0 dX8_gets_47 rfl rfl ?_
  refine go_dup (pc := 48) X dX8_gets_48 rfl ?_
  refine go_get (pc := 49) X (fk := 11) (fi := 11) rfl sh8 rfl inT_X8 (by decide) fL_X8_135 rfl dX8_gets_49 ?_
  refine go_iconst (pc := 52) X dX8_gets_52 ?_
  refine go_iadd (pc := 53) X dX8_gets_53 ?_
  obtain ⟨S13, e14, h⟩ := wrk_some h
  refine go_putE (pc := 54) X (fk := 11) (fi := 11) rfl e14 sh8 rfl inT_X8 tyX8_ok nmX8 (by decide) fL_X8_135 rfl rfl rfl rfl rfl dX8_gets_54 ?_
  exact go_vret (pc := 57) X h dX8_gets_57
set_option maxRecDepth 100000 in
set_option maxHeartbeats 4000000 in
theorem ct_X8_shows {l : Launch} {D : va_G} {cI cB : ClassId} {Z : (Nat → Nat) × (Nat → Nat)} {ad : Nat → Nat} {S : Mem} {a1 : Int} {S' : Mem} (h : f_X8_shows S a1 = some S') : Ctr l D cI cB Z ad shsM yX8_shows cX8_shows 4 none 5 111 [.ref (ad 0), .int (i32 a1)] S (none) S' := by
  refine ctr_of (by decide +kernel) (Nat.le_of_ble_eq_true rfl) rfl ?_
  intro p e s m args below meth c A X
  unfold f_X8_shows at h
  refine go_iconst (pc := 0) X dX8_shows_0 ?_
  refine go_istore_n (pc := 1) X [1, 2, 0] (Ls' := [(0, .ref (ad 0)), (1, .int (i32 a1)), (2, .int (i32 0))]) dX8_shows_1 rfl (by decide) rfl ?_
  obtain ⟨r26, h27, h⟩ := bind_some h
  have H28 : ∀ (n : Nat) (t29 : Int × Mem) (z30 : Mem), lp (f_X8_shows_l2 a1) n t29 = some z30 → Go p l e { frames := 5, cells := 0, slots := 0, locals := 111 } s m args below meth c 4 D cI cB ad shsM A (MQ below (cQ D cI cB ad shsM (none) S' A) args s 0 0 A) 51 [] [] z30 → Go p l e { frames := 5, cells := 0, slots := 0, locals := 111 } s m args below meth c 4 D cI cB ad shsM A (MQ below (cQ D cI cB ad shsM (none) S' A) args s 0 0 A) 2 [(0, .ref (ad 0)), (1, .int (i32 a1)), (2, .int (i32 t29.1))] [] t29.2 := by
    refine lp_go (fun t29 : Int × Mem => Go p l e { frames := 5, cells := 0, slots := 0, locals := 111 } s m args below meth c 4 D cI cB ad shsM A (MQ below (cQ D cI cB ad shsM (none) S' A) args s 0 0 A) 2 [(0, .ref (ad 0)), (1, .int (i32 a1)), (2, .int (i32 t29.1))] [] t29.2) (fun z30 : Mem => Go p l e { frames := 5, cells := 0, slots := 0, locals := 111 } s m args below meth c 4 D cI cB ad shsM A (MQ below (cQ D cI cB ad shsM (none) S' A) args s 0 0 A) 51 [] [] z30) ?_
    intro t29 x31 h hx32
    unfold f_X8_shows_l2 at h
    refine go_iload_n (pc := 2) X 2 dX8_shows_2 rfl rfl ?_
    refine go_aload_n (pc := 3) X 0 dX8_shows_3 rfl rfl ?_
    obtain ⟨r34, h35, h⟩ := bind_some h
    refine go_callVi (pc := 4) X 0 [.int (i32 t29.1)] (ct_X8_many h35) sh8 rfl gg_X8_61 hd_X8_many ⟨Nat.le_of_ble_eq_true rfl, Nat.le_of_ble_eq_true rfl⟩ rfl rfl (Nat.le_of_ble_eq_true rfl) dX8_shows_4 ?_
    refine go_icmp_ge (pc := 7) X 51 dX8_shows_7 rfl (fun c36 => ?_) (fun c36 => ?_)
    · rw [if_neg c36] at h
      refine go_pick [] (Ls' := []) rfl ?_
      exact lp_back h hx32
    · rw [if_pos c36] at h
      refine go_aload_n (pc := 10) X 0 dX8_shows_10 rfl rfl ?_
      refine go_iload_n (pc := 11) X 2 dX8_shows_11 rfl rfl ?_
      refine go_iload_n (pc := 12) X 1 dX8_shows_12 rfl rfl ?_
      obtain ⟨r37, h38, h⟩ := bind_some h
      refine go_callVi (pc := 13) X 2 [] (ct_X8_aboveOf h38) sh8 rfl gg_X8_129 hd_X8_aboveOf ⟨Nat.le_of_ble_eq_true rfl, Nat.le_of_ble_eq_true rfl⟩ rfl rfl (Nat.le_of_ble_eq_true rfl) dX8_shows_13 ?_
      refine go_aload_n (pc := 16) X 0 dX8_shows_16 rfl rfl ?_
      refine go_iload_n (pc := 17) X 2 dX8_shows_17 rfl rfl ?_
      refine go_iload_n (pc := 18) X 1 dX8_shows_18 rfl rfl ?_
      obtain ⟨r39, h40, h⟩ := bind_some h
      refine go_callVi (pc := 19) X 2 [.int (i32 r37)] (ct_X8_freeOf h40) sh8 rfl gg_X8_138 hd_X8_freeOf ⟨Nat.le_of_ble_eq_true rfl, Nat.le_of_ble_eq_true rfl⟩ rfl rfl (Nat.le_of_ble_eq_true rfl) dX8_shows_19 ?_
      obtain ⟨r41, h42, h⟩ := bind_some h
      refine go_callSi (pc := 22) X 2 [] (ct_X8_less h42) gg_X8_76 hd_X8_less ⟨Nat.le_of_ble_eq_true rfl, Nat.le_of_ble_eq_true rfl⟩ rfl rfl (Nat.le_of_ble_eq_true rfl) dX8_shows_22 ?_
      refine go_istore_n (pc := 25) X [1, 2, 3, 0] (Ls' := [(0, .ref (ad 0)), (1, .int (i32 a1)), (2, .int (i32 t29.1)), (3, .int (i32 r41))]) dX8_shows_25 rfl (by decide) rfl ?_
      obtain ⟨r43, h44, h⟩ := bind_some h
      have H45 : ∀ (n : Nat) (t46 : Mem) (z47 : Mem), lp (f_X8_shows_l26 a1 t29.1 r41) n t46 = some z47 → Go p l e { frames := 5, cells := 0, slots := 0, locals := 111 } s m args below meth c 4 D cI cB ad shsM A (MQ below (cQ D cI cB ad shsM (none) S' A) args s 0 0 A) 45 [(0, .ref (ad 0)), (1, .int (i32 a1)), (2, .int (i32 t29.1))] [] z47 → Go p l e { frames := 5, cells := 0, slots := 0, locals := 111 } s m args below meth c 4 D cI cB ad shsM A (MQ below (cQ D cI cB ad shsM (none) S' A) args s 0 0 A) 26 [(0, .ref (ad 0)), (1, .int (i32 a1)), (2, .int (i32 t29.1)), (3, .int (i32 r41))] [] t46 := by
        refine lp_go (fun t46 : Mem => Go p l e { frames := 5, cells := 0, slots := 0, locals := 111 } s m args below meth c 4 D cI cB ad shsM A (MQ below (cQ D cI cB ad shsM (none) S' A) args s 0 0 A) 26 [(0, .ref (ad 0)), (1, .int (i32 a1)), (2, .int (i32 t29.1)), (3, .int (i32 r41))] [] t46) (fun z47 : Mem => Go p l e { frames := 5, cells := 0, slots := 0, locals := 111 } s m args below meth c 4 D cI cB ad shsM A (MQ below (cQ D cI cB ad shsM (none) S' A) args s 0 0 A) 45 [(0, .ref (ad 0)), (1, .int (i32 a1)), (2, .int (i32 t29.1))] [] z47) ?_
        intro t46 x48 h hx49
        unfold f_X8_shows_l26 at h
        refine go_aload_n (pc := 26) X 0 dX8_shows_26 rfl rfl ?_
        refine go_getr (pc := 27) X (fk := 6) sh8 rfl inT_X8 (by decide) fL_X8_26 rfl dX8_shows_27 ?_
        refine go_iload_n (pc := 30) X 2 dX8_shows_30 rfl rfl ?_
        obtain ⟨g51, h⟩ := gd_some h
        refine go_iald (pc := 31) X shM5 (Nat.le_of_ble_eq_true rfl) rfl g51 dX8_shows_31 ?_
        refine go_iload_n (pc := 32) X 3 dX8_shows_32 rfl rfl ?_
        refine go_icmp_ge (pc := 33) X 45 dX8_shows_33 rfl (fun c52 => ?_) (fun c52 => ?_)
        · rw [if_neg c52] at h
          refine go_pick [0, 1, 2] (Ls' := [(0, .ref (ad 0)), (1, .int (i32 a1)), (2, .int (i32 t29.1))]) rfl ?_
          exact lp_back h hx49
        · rw [if_pos c52] at h
          refine go_aload_n (pc := 36) X 0 dX8_shows_36 rfl rfl ?_
          refine go_iload_n (pc := 37) X 2 dX8_shows_37 rfl rfl ?_
          refine go_iload_n (pc := 38) X 1 dX8_shows_38 rfl rfl ?_
          obtain ⟨S53, h54, h⟩ := bind_some h
          refine go_callVv (pc := 39) X 2 [] (ct_X8_gets h54) sh8 rfl gg_X8_141 hd_X8_gets ⟨Nat.le_of_ble_eq_true rfl, Nat.le_of_ble_eq_true rfl⟩ rfl rfl (Nat.le_of_ble_eq_true rfl) dX8_shows_39 ?_
          refine go_goto (pc := 42) X 26 dX8_shows_42 rfl ?_
          exact lp_back h hx49
      refine H45 FU t29.2 r43 h44 ?_
      refine go_iinc (pc := 45) X [1, 2, 0] 2 (Ls' := [(0, .ref (ad 0)), (1, .int (i32 a1)), (2, .int (i32 (t29.1 + 1)))]) dX8_shows_45 rfl (by decide) rfl ?_
      refine go_goto (pc := 48) X 2 dX8_shows_48 rfl ?_
      exact lp_back h hx32
  refine H28 FU (0, S) r26 h27 ?_
  exact go_vret (pc := 51) X h dX8_shows_51
