set_option maxRecDepth 100000 in
set_option maxHeartbeats 4000000 in
theorem ct_X6_kindOf {l : Launch} {D : va_G} {cI cB : ClassId} {Z : (Nat → Nat) × (Nat → Nat)} {ad : Nat → Nat} {S : Mem} {a0 : Int} {r : Int} (h : f_X6_kindOf S a0 = some r) : Ctr l D cI cB Z ad shsC yX6_kindOf cX6_kindOf 1 (some .int) 0 0 [.int (i32 a0)] S (some (.int (i32 r))) S := by
  refine ctr_of (by decide +kernel) (Nat.le_of_ble_eq_true rfl) rfl ?_
  intro p e s m args below meth c A X
  unfold f_X6_kindOf at h
  refine go_iload_n (pc := 0) X 0 dX6_kindOf_0 rfl rfl ?_
  refine go_bipush (pc := 1) X dX6_kindOf_1 (by decide) (by decide) ?_
  refine go_icmp_lt (pc := 3) X 14 dX6_kindOf_3 rfl (fun c1 => ?_) (fun c1 => ?_)
  · rw [if_pos c1] at h
    refine go_iload_n (pc := 14) X 0 dX6_kindOf_14 rfl rfl ?_
    refine go_bipush (pc := 15) X dX6_kindOf_15 (by decide) (by decide) ?_
    refine go_icmp_lt (pc := 17) X 28 dX6_kindOf_17 rfl (fun c2 => ?_) (fun c2 => ?_)
    · rw [if_pos c2] at h
      refine go_iload_n (pc := 28) X 0 dX6_kindOf_28 rfl rfl ?_
      refine go_bipush (pc := 29) X dX6_kindOf_29 (by decide) (by decide) ?_
      refine go_icmp_eq (pc := 31) X 40 dX6_kindOf_31 rfl (fun c3 => ?_) (fun c3 => ?_)
      · rw [if_pos c3] at h
        refine go_iconst (pc := 40) X dX6_kindOf_40 ?_
        exact go_iretP (pc := 41) X h dX6_kindOf_41
      · rw [if_neg c3] at h
        refine go_iload_n (pc := 34) X 0 dX6_kindOf_34 rfl rfl ?_
        refine go_bipush (pc := 35) X dX6_kindOf_35 (by decide) (by decide) ?_
        refine go_icmp_ne (pc := 37) X 42 dX6_kindOf_37 rfl (fun c4 => ?_) (fun c4 => ?_)
        · rw [if_neg c4] at h
          refine go_iload_n (pc := 42) X 0 dX6_kindOf_42 rfl rfl ?_
          refine go_bipush (pc := 43) X dX6_kindOf_43 (by decide) (by decide) ?_
          refine go_icmp_ne (pc := 45) X 52 dX6_kindOf_45 rfl (fun c5 => ?_) (fun c5 => ?_)
          · rw [if_neg c5] at h
            refine go_iconst (pc := 52) X dX6_kindOf_52 ?_
            exact go_iretP (pc := 53) X h dX6_kindOf_53
          · rw [if_pos c5] at h
            refine go_iconst (pc := 48) X dX6_kindOf_48 ?_
            refine go_goto (pc := 49) X 53 dX6_kindOf_49 rfl ?_
            exact go_iretP (pc := 53) X h dX6_kindOf_53
        · rw [if_pos c4] at h
          refine go_iconst (pc := 40) X dX6_kindOf_40 ?_
          exact go_iretP (pc := 41) X h dX6_kindOf_41
    · rw [if_neg c2] at h
      refine go_iload_n (pc := 20) X 0 dX6_kindOf_20 rfl rfl ?_
      refine go_bipush (pc := 21) X dX6_kindOf_21 (by decide) (by decide) ?_
      refine go_icmp_gt (pc := 23) X 28 dX6_kindOf_23 rfl (fun c6 => ?_) (fun c6 => ?_)
      · rw [if_pos c6] at h
        refine go_iload_n (pc := 28) X 0 dX6_kindOf_28 rfl rfl ?_
        refine go_bipush (pc := 29) X dX6_kindOf_29 (by decide) (by decide) ?_
        refine go_icmp_eq (pc := 31) X 40 dX6_kindOf_31 rfl (fun c7 => ?_) (fun c7 => ?_)
        · rw [if_pos c7] at h
          refine go_iconst (pc := 40) X dX6_kindOf_40 ?_
          exact go_iretP (pc := 41) X h dX6_kindOf_41
        · rw [if_neg c7] at h
          refine go_iload_n (pc := 34) X 0 dX6_kindOf_34 rfl rfl ?_
          refine go_bipush (pc := 35) X dX6_kindOf_35 (by decide) (by decide) ?_
          refine go_icmp_ne (pc := 37) X 42 dX6_kindOf_37 rfl (fun c8 => ?_) (fun c8 => ?_)
          · rw [if_neg c8] at h
            refine go_iload_n (pc := 42) X 0 dX6_kindOf_42 rfl rfl ?_
            refine go_bipush (pc := 43) X dX6_kindOf_43 (by decide) (by decide) ?_
            refine go_icmp_ne (pc := 45) X 52 dX6_kindOf_45 rfl (fun c9 => ?_) (fun c9 => ?_)
            · rw [if_neg c9] at h
              refine go_iconst (pc := 52) X dX6_kindOf_52 ?_
              exact go_iretP (pc := 53) X h dX6_kindOf_53
            · rw [if_pos c9] at h
              refine go_iconst (pc := 48) X dX6_kindOf_48 ?_
              refine go_goto (pc := 49) X 53 dX6_kindOf_49 rfl ?_
              exact go_iretP (pc := 53) X h dX6_kindOf_53
          · rw [if_pos c8] at h
            refine go_iconst (pc := 40) X dX6_kindOf_40 ?_
            exact go_iretP (pc := 41) X h dX6_kindOf_41
      · rw [if_neg c6] at h
        refine go_iconst (pc := 26) X dX6_kindOf_26 ?_
        exact go_iretP (pc := 27) X h dX6_kindOf_27
  · rw [if_neg c1] at h
    refine go_iload_n (pc := 6) X 0 dX6_kindOf_6 rfl rfl ?_
    refine go_bipush (pc := 7) X dX6_kindOf_7 (by decide) (by decide) ?_
    refine go_icmp_gt (pc := 9) X 14 dX6_kindOf_9 rfl (fun c10 => ?_) (fun c10 => ?_)
    · rw [if_pos c10] at h
      refine go_iload_n (pc := 14) X 0 dX6_kindOf_14 rfl rfl ?_
      refine go_bipush (pc := 15) X dX6_kindOf_15 (by decide) (by decide) ?_
      refine go_icmp_lt (pc := 17) X 28 dX6_kindOf_17 rfl (fun c11 => ?_) (fun c11 => ?_)
      · rw [if_pos c11] at h
        refine go_iload_n (pc := 28) X 0 dX6_kindOf_28 rfl rfl ?_
        refine go_bipush (pc := 29) X dX6_kindOf_29 (by decide) (by decide) ?_
        refine go_icmp_eq (pc := 31) X 40 dX6_kindOf_31 rfl (fun c12 => ?_) (fun c12 => ?_)
        · rw [if_pos c12] at h
          refine go_iconst (pc := 40) X dX6_kindOf_40 ?_
          exact go_iretP (pc := 41) X h dX6_kindOf_41
        · rw [if_neg c12] at h
          refine go_iload_n (pc := 34) X 0 dX6_kindOf_34 rfl rfl ?_
          refine go_bipush (pc := 35) X dX6_kindOf_35 (by decide) (by decide) ?_
          refine go_icmp_ne (pc := 37) X 42 dX6_kindOf_37 rfl (fun c13 => ?_) (fun c13 => ?_)
          · rw [if_neg c13] at h
            refine go_iload_n (pc := 42) X 0 dX6_kindOf_42 rfl rfl ?_
            refine go_bipush (pc := 43) X dX6_kindOf_43 (by decide) (by decide) ?_
            refine go_icmp_ne (pc := 45) X 52 dX6_kindOf_45 rfl (fun c14 => ?_) (fun c14 => ?_)
            · rw [if_neg c14] at h
              refine go_iconst (pc := 52) X dX6_kindOf_52 ?_
              exact go_iretP (pc := 53) X h dX6_kindOf_53
            · rw [if_pos c14] at h
              refine go_iconst (pc := 48) X dX6_kindOf_48 ?_
              refine go_goto (pc := 49) X 53 dX6_kindOf_49 rfl ?_
              exact go_iretP (pc := 53) X h dX6_kindOf_53
          · rw [if_pos c13] at h
            refine go_iconst (pc := 40) X dX6_kindOf_40 ?_
            exact go_iretP (pc := 41) X h dX6_kindOf_41
      · rw [if_neg c11] at h
        refine go_iload_n (pc := 20) X 0 dX6_kindOf_20 rfl rfl ?_
        refine go_bipush (pc := 21) X dX6_kindOf_21 (by decide) (by decide) ?_
        refine go_icmp_gt (pc := 23) X 28 dX6_kindOf_23 rfl (fun c15 => ?_) (fun c15 => ?_)
        · rw [if_pos c15] at h
          refine go_iload_n (pc := 28) X 0 dX6_kindOf_28 rfl rfl ?_
          refine go_bipush (pc := 29) X dX6_kindOf_29 (by decide) (by decide) ?_
          refine go_icmp_eq (pc := 31) X 40 dX6_kindOf_31 rfl (fun c16 => ?_) (fun c16 => ?_)
          · rw [if_pos c16] at h
            refine go_iconst (pc := 40) X dX6_kindOf_40 ?_
            exact go_iretP (pc := 41) X h dX6_kindOf_41
          · rw [if_neg c16] at h
            refine go_iload_n (pc := 34) X 0 dX6_kindOf_34 rfl rfl ?_
            refine go_bipush (pc := 35) X dX6_kindOf_35 (by decide) (by decide) ?_
            refine go_icmp_ne (pc := 37) X 42 dX6_kindOf_37 rfl (fun c17 => ?_) (fun c17 => ?_)
            · rw [if_neg c17] at h
              refine go_iload_n (pc := 42) X 0 dX6_kindOf_42 rfl rfl ?_
              refine go_bipush (pc := 43) X dX6_kindOf_43 (by decide) (by decide) ?_
              refine go_icmp_ne (pc := 45) X 52 dX6_kindOf_45 rfl (fun c18 => ?_) (fun c18 => ?_)
              · rw [if_neg c18] at h
                refine go_iconst (pc := 52) X dX6_kindOf_52 ?_
                exact go_iretP (pc := 53) X h dX6_kindOf_53
              · rw [if_pos c18] at h
                refine go_iconst (pc := 48) X dX6_kindOf_48 ?_
                refine go_goto (pc := 49) X 53 dX6_kindOf_49 rfl ?_
                exact go_iretP (pc := 53) X h dX6_kindOf_53
            · rw [if_pos c17] at h
              refine go_iconst (pc := 40) X dX6_kindOf_40 ?_
              exact go_iretP (pc := 41) X h dX6_kindOf_41
        · rw [if_neg c15] at h
          refine go_iconst (pc := 26) X dX6_kindOf_26 ?_
          exact go_iretP (pc := 27) X h dX6_kindOf_27
    · rw [if_neg c10] at h
      refine go_iconst (pc := 12) X dX6_kindOf_12 ?_
      exact go_iretP (pc := 13) X h dX6_kindOf_13
set_option maxRecDepth 100000 in
set_option maxHeartbeats 4000000 in
theorem ct_X6_endOfRun {l : Launch} {D : va_G} {cI cB : ClassId} {Z : (Nat → Nat) × (Nat → Nat)} {ad : Nat → Nat} {S : Mem} {a1 : Int} {a2 : Int} {r : Int} (h : f_X6_endOfRun S a1 a2 = some r) : Ctr l D cI cB Z ad shsC yX6_endOfRun cX6_endOfRun 4 (some .int) 1 20 [.ref (ad 1), .int (i32 a1), .int (i32 a2)] S (some (.int (i32 r))) S := by
  refine ctr_of (by decide +kernel) (Nat.le_of_ble_eq_true rfl) rfl ?_
  intro p e s m args below meth c A X
  unfold f_X6_endOfRun at h
  refine go_iload_n (pc := 0) X 1 dX6_endOfRun_0 rfl rfl ?_
  refine go_istore_n (pc := 1) X [1, 2, 3, 0] (Ls' := [(0, .ref (ad 1)), (1, .int (i32 a1)), (2, .int (i32 a2)), (3, .int (i32 a1))]) dX6_endOfRun_1 rfl (by decide) rfl ?_
  obtain ⟨r6, h7, h⟩ := bind_some h
  have H8 : ∀ (n : Nat) (t9 : Int) (z10 : Int), lp (f_X6_endOfRun_l2 S a2) n t9 = some z10 → Go p l e { frames := 1, cells := 0, slots := 0, locals := 20 } s m args below meth c 4 D cI cB ad shsC A (MQ below (cQ D cI cB ad shsC (some (.int (i32 r))) S A) args s 0 0 A) 35 [(3, .int (i32 z10))] [] S → Go p l e { frames := 1, cells := 0, slots := 0, locals := 20 } s m args below meth c 4 D cI cB ad shsC A (MQ below (cQ D cI cB ad shsC (some (.int (i32 r))) S A) args s 0 0 A) 2 [(0, .ref (ad 1)), (2, .int (i32 a2)), (3, .int (i32 t9))] [] S := by
    refine lp_go (fun t9 : Int => Go p l e { frames := 1, cells := 0, slots := 0, locals := 20 } s m args below meth c 4 D cI cB ad shsC A (MQ below (cQ D cI cB ad shsC (some (.int (i32 r))) S A) args s 0 0 A) 2 [(0, .ref (ad 1)), (2, .int (i32 a2)), (3, .int (i32 t9))] [] S) (fun z10 : Int => Go p l e { frames := 1, cells := 0, slots := 0, locals := 20 } s m args below meth c 4 D cI cB ad shsC A (MQ below (cQ D cI cB ad shsC (some (.int (i32 r))) S A) args s 0 0 A) 35 [(3, .int (i32 z10))] [] S) ?_
    intro t9 x11 h hx12
    unfold f_X6_endOfRun_l2 at h
    refine go_iload_n (pc := 2) X 2 dX6_endOfRun_2 rfl rfl ?_
    refine go_aload_n (pc := 3) X 0 dX6_endOfRun_3 rfl rfl ?_
    refine go_getr (pc := 4) X (fk := 0) sh6 rfl inT_X6 (by decide) fL_X6_12 rfl dX6_endOfRun_4 ?_
    refine go_get (pc := 7) X (fk := 0) (fi := 0) rfl sh5 rfl inT_X5 (by decide) fL_X6_103 rfl dX6_endOfRun_7 ?_
    refine go_icmp_ge (pc := 10) X 35 dX6_endOfRun_10 rfl (fun c14 => ?_) (fun c14 => ?_)
    · rw [if_neg c14] at h
      refine go_pick [2] (Ls' := [(3, .int (i32 t9))]) rfl ?_
      exact lp_back h hx12
    · rw [if_pos c14] at h
      refine go_aload_n (pc := 13) X 0 dX6_endOfRun_13 rfl rfl ?_
      refine go_getr (pc := 14) X (fk := 0) sh6 rfl inT_X6 (by decide) fL_X6_12 rfl dX6_endOfRun_14 ?_
      refine go_getr (pc := 17) X (fk := 1) sh5 rfl inT_X5 (by decide) fL_X6_87 rfl dX6_endOfRun_17 ?_
      refine go_iload_n (pc := 20) X 2 dX6_endOfRun_20 rfl rfl ?_
      obtain ⟨g15, h⟩ := gd_some h
      refine go_bald (pc := 21) X shBy (Nat.le_of_ble_eq_true rfl) rfl g15 dX6_endOfRun_21 ?_
      obtain ⟨r16, h17, h⟩ := bind_some h
      refine go_callSi (pc := 22) X 1 [] (ct_X6_kindOf h17) gg_X6_105 hd_X6_kindOf ⟨Nat.le_of_ble_eq_true rfl, Nat.le_of_ble_eq_true rfl⟩ rfl rfl (Nat.le_of_ble_eq_true rfl) dX6_endOfRun_22 ?_
      refine go_iload_n (pc := 25) X 1 dX6_endOfRun_25 rfl rfl ?_
      refine go_icmp_ne (pc := 26) X 35 dX6_endOfRun_26 rfl (fun c18 => ?_) (fun c18 => ?_)
      · rw [if_neg c18] at h
        refine go_pick [2] (Ls' := [(3, .int (i32 t9))]) rfl ?_
        exact lp_back h hx12
      · rw [if_pos c18] at h
        refine go_iinc (pc := 29) X [1, 2, 0] 2 (Ls' := [(0, .ref (ad 1)), (2, .int (i32 a2)), (3, .int (i32 (t9 + 1)))]) dX6_endOfRun_29 rfl (by decide) rfl ?_
        refine go_goto (pc := 32) X 2 dX6_endOfRun_32 rfl ?_
        exact lp_back h hx12
  refine go_pick [0, 2, 3] (Ls' := [(0, .ref (ad 1)), (2, .int (i32 a2)), (3, .int (i32 a1))]) rfl ?_
  refine H8 FU a1 r6 h7 ?_
  refine go_iload_n (pc := 35) X 0 dX6_endOfRun_35 rfl rfl ?_
  exact go_iretP (pc := 36) X h dX6_endOfRun_36
set_option maxRecDepth 100000 in
set_option maxHeartbeats 4000000 in
theorem ct_X6_advance {l : Launch} {D : va_G} {cI cB : ClassId} {Z : (Nat → Nat) × (Nat → Nat)} {ad : Nat → Nat} {S : Mem} {S' : Mem} (h : f_X6_advance S = some S') : Ctr l D cI cB Z ad shsC yX6_advance cX6_advance 4 none 2 43 [.ref (ad 1)] S (none) S' := by
  refine ctr_of (by decide +kernel) (Nat.le_of_ble_eq_true rfl) rfl ?_
  intro p e s m args below meth c A X
  unfold f_X6_advance at h
  refine go_aload_n (pc := 0) X 0 dX6_advance_0 rfl rfl ?_
  refine go_get (pc := 1) X (fk := 1) (fi := 1) rfl sh6 rfl inT_X6 (by decide) fL_X6_18 rfl dX6_advance_1 ?_
  refine go_iconst (pc := 4) X dX6_advance_4 ?_
  obtain ⟨j1, h2, h⟩ := bind_some h
  have k3 : Go p l e { frames := 2, cells := 0, slots := 0, locals := 43 } s m args below meth c 4 D cI cB ad shsC A (MQ below (cQ D cI cB ad shsC (none) S' A) args s 0 0 A) 21 [(0, .ref (ad 1))] [.int (i32 j1)] S := by
    refine go_istore_n (pc := 21) X [1, 0] (Ls' := [(0, .ref (ad 1)), (1, .int (i32 j1))]) dX6_advance_21 rfl (by decide) rfl ?_
    refine go_aload_n (pc := 22) X 0 dX6_advance_22 rfl rfl ?_
    refine go_get (pc := 23) X (fk := 3) (fi := 3) rfl sh6 rfl inT_X6 (by decide) fL_X6_25 rfl dX6_advance_23 ?_
    refine go_istore_n (pc := 26) X [1, 2, 0] (Ls' := [(0, .ref (ad 1)), (1, .int (i32 j1)), (2, .int (i32 (S 1 3)))]) dX6_advance_26 rfl (by decide) rfl ?_
    refine go_aload_n (pc := 27) X 0 dX6_advance_27 rfl rfl ?_
    refine go_aload_n (pc := 28) X 0 dX6_advance_28 rfl rfl ?_
    refine go_iload_n (pc := 29) X 2 dX6_advance_29 rfl rfl ?_
    refine go_iconst (pc := 30) X dX6_advance_30 ?_
    obtain ⟨r4, h5, h⟩ := bind_some h
    refine go_callVi (pc := 31) X 2 [.ref (ad 1)] (ct_X6_endOfRun h5) sh6 rfl gg_X6_100 hd_X6_endOfRun ⟨Nat.le_of_ble_eq_true rfl, Nat.le_of_ble_eq_true rfl⟩ rfl rfl (Nat.le_of_ble_eq_true rfl) dX6_advance_31 ?_
    obtain ⟨S6, e7, h⟩ := wrk_some h
    refine go_putE (pc := 34) X (fk := 2) (fi := 2) rfl e7 sh6 rfl inT_X6 tyX6_ok nmX6 (by decide) fL_X6_22 rfl rfl rfl rfl rfl dX6_advance_34 ?_
    refine go_aload_n (pc := 37) X 0 dX6_advance_37 rfl rfl ?_
    refine go_aload_n (pc := 38) X 0 dX6_advance_38 rfl rfl ?_
    refine go_get (pc := 39) X (fk := 2) (fi := 2) rfl sh6 rfl inT_X6 (by decide) fL_X6_22 rfl dX6_advance_39 ?_
    refine go_aload_n (pc := 42) X 0 dX6_advance_42 rfl rfl ?_
    refine go_getr (pc := 43) X (fk := 0) sh6 rfl inT_X6 (by decide) fL_X6_12 rfl dX6_advance_43 ?_
    refine go_get (pc := 46) X (fk := 0) (fi := 0) rfl sh5 rfl inT_X5 (by decide) fL_X6_103 rfl dX6_advance_46 ?_
    obtain ⟨j8, h9, h⟩ := bind_some h
    have k10 : Go p l e { frames := 2, cells := 0, slots := 0, locals := 43 } s m args below meth c 4 D cI cB ad shsC A (MQ below (cQ D cI cB ad shsC (none) S' A) args s 0 0 A) 71 [(0, .ref (ad 1)), (1, .int (i32 j1)), (2, .int (i32 (S 1 3)))] [.int (i32 j8), .ref (ad 1)] S6 := by
      obtain ⟨S11, e12, h⟩ := wrk_some h
      refine go_putE (pc := 71) X (fk := 1) (fi := 1) rfl e12 sh6 rfl inT_X6 tyX6_ok nmX6 (by decide) fL_X6_18 rfl rfl rfl rfl rfl dX6_advance_71 ?_
      refine go_aload_n (pc := 74) X 0 dX6_advance_74 rfl rfl ?_
      refine go_get (pc := 75) X (fk := 1) (fi := 1) rfl sh6 rfl inT_X6 (by decide) fL_X6_18 rfl dX6_advance_75 ?_
      refine go_iconst (pc := 78) X dX6_advance_78 ?_
      obtain ⟨j13, h14, h⟩ := bind_some h
      have k15 : Go p l e { frames := 2, cells := 0, slots := 0, locals := 43 } s m args below meth c 4 D cI cB ad shsC A (MQ below (cQ D cI cB ad shsC (none) S' A) args s 0 0 A) 95 [(0, .ref (ad 1)), (1, .int (i32 j1)), (2, .int (i32 (S 1 3)))] [.int (i32 j13)] S11 := by
        refine go_istore_n (pc := 95) X [1, 2, 3, 0] (Ls' := [(0, .ref (ad 1)), (1, .int (i32 j1)), (2, .int (i32 (S 1 3))), (3, .int (i32 j13))]) dX6_advance_95 rfl (by decide) rfl ?_
        refine go_aload_n (pc := 96) X 0 dX6_advance_96 rfl rfl ?_
        refine go_iload_n (pc := 97) X 3 dX6_advance_97 rfl rfl ?_
        obtain ⟨j16, h17, h⟩ := bind_some h
        have k18 : Go p l e { frames := 2, cells := 0, slots := 0, locals := 43 } s m args below meth c 4 D cI cB ad shsC A (MQ below (cQ D cI cB ad shsC (none) S' A) args s 0 0 A) 132 [(0, .ref (ad 1)), (1, .int (i32 j1)), (2, .int (i32 (S 1 3))), (3, .int (i32 j13))] [.int (i32 j16), .ref (ad 1)] S11 := by
          obtain ⟨S19, e20, h⟩ := wrk_some h
          refine go_putE (pc := 132) X (fk := 3) (fi := 3) rfl e20 sh6 rfl inT_X6 tyX6_ok nmX6 (by decide) fL_X6_25 rfl rfl rfl rfl rfl dX6_advance_132 ?_
          refine go_iload_n (pc := 135) X 1 dX6_advance_135 rfl rfl ?_
          refine go_if_eq (pc := 136) X 156 dX6_advance_136 rfl (fun c21 => ?_) (fun c21 => ?_)
          · rw [if_pos c21] at h
            exact go_vret (pc := 156) X h dX6_advance_156
          · rw [if_neg c21] at h
            refine go_iload_n (pc := 139) X 3 dX6_advance_139 rfl rfl ?_
            refine go_if_eq (pc := 140) X 156 dX6_advance_140 rfl (fun c22 => ?_) (fun c22 => ?_)
            · rw [if_pos c22] at h
              exact go_vret (pc := 156) X h dX6_advance_156
            · rw [if_neg c22] at h
              refine go_aload_n (pc := 143) X 0 dX6_advance_143 rfl rfl ?_
              refine go_get (pc := 144) X (fk := 2) (fi := 2) rfl sh6 rfl inT_X6 (by decide) fL_X6_22 rfl dX6_advance_144 ?_
              refine go_iload_n (pc := 147) X 2 dX6_advance_147 rfl rfl ?_
              refine go_icmp_ne (pc := 148) X 156 dX6_advance_148 rfl (fun c23 => ?_) (fun c23 => ?_)
              · rw [if_neg c23] at h
                exact go_vret (pc := 156) X h dX6_advance_156
              · rw [if_pos c23] at h
                refine go_aload_n (pc := 151) X 0 dX6_advance_151 rfl rfl ?_
                refine go_iconst (pc := 152) X dX6_advance_152 ?_
                obtain ⟨S24, e25, h⟩ := wrk_some h
                refine go_putE (pc := 153) X (fk := 1) (fi := 1) rfl e25 sh6 rfl inT_X6 tyX6_ok nmX6 (by decide) fL_X6_18 rfl rfl rfl rfl rfl dX6_advance_153 ?_
                exact go_vret (pc := 156) X h dX6_advance_156
        refine go_if_eq (pc := 98) X 116 dX6_advance_98 rfl (fun c26 => ?_) (fun c26 => ?_)
        · rw [if_pos c26] at h17
          refine go_aload_n (pc := 116) X 0 dX6_advance_116 rfl rfl ?_
          refine go_get (pc := 117) X (fk := 2) (fi := 2) rfl sh6 rfl inT_X6 (by decide) fL_X6_22 rfl dX6_advance_117 ?_
          refine go_iconst (pc := 120) X dX6_advance_120 ?_
          refine go_iadd (pc := 121) X dX6_advance_121 ?_
          refine go_aload_n (pc := 122) X 0 dX6_advance_122 rfl rfl ?_
          refine go_getr (pc := 123) X (fk := 0) sh6 rfl inT_X6 (by decide) fL_X6_12 rfl dX6_advance_123 ?_
          refine go_get (pc := 126) X (fk := 0) (fi := 0) rfl sh5 rfl inT_X5 (by decide) fL_X6_103 rfl dX6_advance_126 ?_
          refine go_mmin (pc := 129) X mL_X6_109 (Nat.le_of_ble_eq_true rfl) (Nat.le_of_ble_eq_true rfl) dX6_advance_129 ?_
          cases h17
          exact k18
        · rw [if_neg c26] at h17
          refine go_aload_n (pc := 101) X 0 dX6_advance_101 rfl rfl ?_
          refine go_aload_n (pc := 102) X 0 dX6_advance_102 rfl rfl ?_
          refine go_get (pc := 103) X (fk := 2) (fi := 2) rfl sh6 rfl inT_X6 (by decide) fL_X6_22 rfl dX6_advance_103 ?_
          refine go_aload_n (pc := 106) X 0 dX6_advance_106 rfl rfl ?_
          refine go_get (pc := 107) X (fk := 1) (fi := 1) rfl sh6 rfl inT_X6 (by decide) fL_X6_18 rfl dX6_advance_107 ?_
          obtain ⟨r27, h28, h17⟩ := bind_some h17
          refine go_callVi (pc := 110) X 2 [.ref (ad 1)] (ct_X6_endOfRun h28) sh6 rfl gg_X6_100 hd_X6_endOfRun ⟨Nat.le_of_ble_eq_true rfl, Nat.le_of_ble_eq_true rfl⟩ rfl rfl (Nat.le_of_ble_eq_true rfl) dX6_advance_110 ?_
          refine go_goto (pc := 113) X 132 dX6_advance_113 rfl ?_
          cases h17
          exact k18
      refine go_icmp_eq (pc := 79) X 90 dX6_advance_79 rfl (fun c29 => ?_) (fun c29 => ?_)
      · rw [if_pos c29] at h14
        refine go_iconst (pc := 90) X dX6_advance_90 ?_
        refine go_goto (pc := 91) X 95 dX6_advance_91 rfl ?_
        cases h14
        exact k15
      · rw [if_neg c29] at h14
        refine go_aload_n (pc := 82) X 0 dX6_advance_82 rfl rfl ?_
        refine go_get (pc := 83) X (fk := 1) (fi := 1) rfl sh6 rfl inT_X6 (by decide) fL_X6_18 rfl dX6_advance_83 ?_
        refine go_iconst (pc := 86) X dX6_advance_86 ?_
        refine go_icmp_ne (pc := 87) X 94 dX6_advance_87 rfl (fun c30 => ?_) (fun c30 => ?_)
        · rw [if_neg c30] at h14
          refine go_iconst (pc := 94) X dX6_advance_94 ?_
          cases h14
          exact k15
        · rw [if_pos c30] at h14
          refine go_iconst (pc := 90) X dX6_advance_90 ?_
          refine go_goto (pc := 91) X 95 dX6_advance_91 rfl ?_
          cases h14
          exact k15
    refine go_icmp_ge (pc := 49) X 70 dX6_advance_49 rfl (fun c31 => ?_) (fun c31 => ?_)
    · rw [if_neg c31] at h9
      refine go_iconst (pc := 70) X dX6_advance_70 ?_
      cases h9
      exact k10
    · rw [if_pos c31] at h9
      refine go_aload_n (pc := 52) X 0 dX6_advance_52 rfl rfl ?_
      refine go_getr (pc := 53) X (fk := 0) sh6 rfl inT_X6 (by decide) fL_X6_12 rfl dX6_advance_53 ?_
      refine go_getr (pc := 56) X (fk := 1) sh5 rfl inT_X5 (by decide) fL_X6_87 rfl dX6_advance_56 ?_
      refine go_aload_n (pc := 59) X 0 dX6_advance_59 rfl rfl ?_
      refine go_get (pc := 60) X (fk := 2) (fi := 2) rfl sh6 rfl inT_X6 (by decide) fL_X6_22 rfl dX6_advance_60 ?_
      obtain ⟨g32, h9⟩ := gd_some h9
      refine go_bald (pc := 63) X shBy (Nat.le_of_ble_eq_true rfl) rfl g32 dX6_advance_63 ?_
      obtain ⟨r33, h34, h9⟩ := bind_some h9
      refine go_callSi (pc := 64) X 1 [.ref (ad 1)] (ct_X6_kindOf h34) gg_X6_105 hd_X6_kindOf ⟨Nat.le_of_ble_eq_true rfl, Nat.le_of_ble_eq_true rfl⟩ rfl rfl (Nat.le_of_ble_eq_true rfl) dX6_advance_64 ?_
      refine go_goto (pc := 67) X 71 dX6_advance_67 rfl ?_
      cases h9
      exact k10
  refine go_icmp_eq (pc := 5) X 16 dX6_advance_5 rfl (fun c35 => ?_) (fun c35 => ?_)
  · rw [if_pos c35] at h2
    refine go_iconst (pc := 16) X dX6_advance_16 ?_
    refine go_goto (pc := 17) X 21 dX6_advance_17 rfl ?_
    cases h2
    exact k3
  · rw [if_neg c35] at h2
    refine go_aload_n (pc := 8) X 0 dX6_advance_8 rfl rfl ?_
    refine go_get (pc := 9) X (fk := 1) (fi := 1) rfl sh6 rfl inT_X6 (by decide) fL_X6_18 rfl dX6_advance_9 ?_
    refine go_iconst (pc := 12) X dX6_advance_12 ?_
    refine go_icmp_ne (pc := 13) X 20 dX6_advance_13 rfl (fun c36 => ?_) (fun c36 => ?_)
    · rw [if_neg c36] at h2
      refine go_iconst (pc := 20) X dX6_advance_20 ?_
      cases h2
      exact k3
    · rw [if_pos c36] at h2
      refine go_iconst (pc := 16) X dX6_advance_16 ?_
      refine go_goto (pc := 17) X 21 dX6_advance_17 rfl ?_
      cases h2
      exact k3
set_option maxRecDepth 100000 in
set_option maxHeartbeats 4000000 in
theorem ct_X6_isWord {l : Launch} {D : va_G} {cI cB : ClassId} {Z : (Nat → Nat) × (Nat → Nat)} {ad : Nat → Nat} {S : Mem} {k1 : Nat} {r : Int} (hk1 : k1 < 14) (h : f_X6_isWord S k1 = some r) : Ctr l D cI cB Z ad shsC yX6_isWord cX6_isWord 3 (some .boolean) 4 89 [.ref (ad 1), .ref (Z.1 k1)] S (some (.int (i32 r))) S := by
  refine ctr_of (by decide +kernel) (Nat.le_of_ble_eq_true rfl) rfl ?_
  intro p e s m args below meth c A X
  unfold f_X6_isWord at h
  refine go_aload_n (pc := 0) X 0 dX6_isWord_0 rfl rfl ?_
  refine go_get (pc := 1) X (fk := 1) (fi := 1) rfl sh6 rfl inT_X6 (by decide) fL_X6_18 rfl dX6_isWord_1 ?_
  refine go_iconst (pc := 4) X dX6_isWord_4 ?_
  refine go_icmp_ne (pc := 5) X 24 dX6_isWord_5 rfl (fun c1 => ?_) (fun c1 => ?_)
  · rw [if_neg c1] at h
    refine go_iconst (pc := 24) X dX6_isWord_24 ?_
    exact go_zretP (pc := 25) X (Or.inl rfl) h dX6_isWord_25
  · rw [if_pos c1] at h
    refine go_aload_n (pc := 8) X 0 dX6_isWord_8 rfl rfl ?_
    refine go_get (pc := 9) X (fk := 3) (fi := 3) rfl sh6 rfl inT_X6 (by decide) fL_X6_25 rfl dX6_isWord_9 ?_
    refine go_aload_n (pc := 12) X 0 dX6_isWord_12 rfl rfl ?_
    refine go_get (pc := 13) X (fk := 2) (fi := 2) rfl sh6 rfl inT_X6 (by decide) fL_X6_22 rfl dX6_isWord_13 ?_
    refine go_isub (pc := 16) X dX6_isWord_16 ?_
    refine go_aload_n (pc := 17) X 1 dX6_isWord_17 rfl rfl ?_
    refine go_callT (pc := 18) X 0 k1 [.int (i32 ((S 1 3) - (S 1 2)))] (ct_slen hk1) hk1 gg_X6_91 hd_J0_length_8abf5 ⟨Nat.le_of_ble_eq_true rfl, Nat.le_of_ble_eq_true rfl⟩ rfl rfl (Nat.le_of_ble_eq_true rfl) dX6_isWord_18 ?_
    refine go_icmp_eq (pc := 21) X 26 dX6_isWord_21 rfl (fun c2 => ?_) (fun c2 => ?_)
    · rw [if_pos c2] at h
      refine go_iconst (pc := 26) X dX6_isWord_26 ?_
      refine go_istore_n (pc := 27) X [1, 2, 0] (Ls' := [(0, .ref (ad 1)), (1, .ref (Z.1 k1)), (2, .int (i32 0))]) dX6_isWord_27 rfl (by decide) rfl ?_
      obtain ⟨r7, h8, h⟩ := bind_some h
      have H9 : ∀ (n : Nat) (t10 : Int) (z11 : (Unit) ⊕ (Int)), lp (f_X6_isWord_l28 S k1) n t10 = some z11 → lpG (fun z14 : Unit => Go p l e { frames := 4, cells := 0, slots := 0, locals := 89 } s m args below meth c 3 D cI cB ad shsC A (MQ below (cQ D cI cB ad shsC (some (.int (i32 r))) S A) args s 0 0 A) 66 [] [] S) (fun u : Int => some u = some r) z11 → Go p l e { frames := 4, cells := 0, slots := 0, locals := 89 } s m args below meth c 3 D cI cB ad shsC A (MQ below (cQ D cI cB ad shsC (some (.int (i32 r))) S A) args s 0 0 A) 28 [(0, .ref (ad 1)), (1, .ref (Z.1 k1)), (2, .int (i32 t10))] [] S := by
        refine lp_go (fun t10 : Int => Go p l e { frames := 4, cells := 0, slots := 0, locals := 89 } s m args below meth c 3 D cI cB ad shsC A (MQ below (cQ D cI cB ad shsC (some (.int (i32 r))) S A) args s 0 0 A) 28 [(0, .ref (ad 1)), (1, .ref (Z.1 k1)), (2, .int (i32 t10))] [] S) (fun z11 : (Unit) ⊕ (Int) => lpG (fun z14 : Unit => Go p l e { frames := 4, cells := 0, slots := 0, locals := 89 } s m args below meth c 3 D cI cB ad shsC A (MQ below (cQ D cI cB ad shsC (some (.int (i32 r))) S A) args s 0 0 A) 66 [] [] S) (fun u : Int => some u = some r) z11) ?_
        intro t10 x12 h hx13
        unfold f_X6_isWord_l28 at h
        refine go_iload_n (pc := 28) X 2 dX6_isWord_28 rfl rfl ?_
        refine go_aload_n (pc := 29) X 1 dX6_isWord_29 rfl rfl ?_
        refine go_callT (pc := 30) X 0 k1 [.int (i32 t10)] (ct_slen hk1) hk1 gg_X6_91 hd_J0_length_8abf5 ⟨Nat.le_of_ble_eq_true rfl, Nat.le_of_ble_eq_true rfl⟩ rfl rfl (Nat.le_of_ble_eq_true rfl) dX6_isWord_30 ?_
        refine go_icmp_ge (pc := 33) X 66 dX6_isWord_33 rfl (fun c15 => ?_) (fun c15 => ?_)
        · rw [if_neg c15] at h
          refine go_pick [] (Ls' := []) rfl ?_
          exact lp_back h hx13
        · rw [if_pos c15] at h
          refine go_aload_n (pc := 36) X 0 dX6_isWord_36 rfl rfl ?_
          refine go_getr (pc := 37) X (fk := 0) sh6 rfl inT_X6 (by decide) fL_X6_12 rfl dX6_isWord_37 ?_
          refine go_getr (pc := 40) X (fk := 1) sh5 rfl inT_X5 (by decide) fL_X6_87 rfl dX6_isWord_40 ?_
          refine go_aload_n (pc := 43) X 0 dX6_isWord_43 rfl rfl ?_
          refine go_get (pc := 44) X (fk := 2) (fi := 2) rfl sh6 rfl inT_X6 (by decide) fL_X6_22 rfl dX6_isWord_44 ?_
          refine go_iload_n (pc := 47) X 2 dX6_isWord_47 rfl rfl ?_
          refine go_iadd (pc := 48) X dX6_isWord_48 ?_
          obtain ⟨g16, h⟩ := gd_some h
          refine go_bald (pc := 49) X shBy (Nat.le_of_ble_eq_true rfl) rfl g16 dX6_isWord_49 ?_
          refine go_aload_n (pc := 50) X 1 dX6_isWord_50 rfl rfl ?_
          refine go_iload_n (pc := 51) X 2 dX6_isWord_51 rfl rfl ?_
          obtain ⟨g17, h⟩ := gd_some h
          refine go_callT (pc := 52) X 1 k1 [.int (i32 (S 3 ((S 1 2) + t10)))] (ct_schar hk1 g17) hk1 gg_X6_96 hd_J0_charAt_5068e ⟨Nat.le_of_ble_eq_true rfl, Nat.le_of_ble_eq_true rfl⟩ rfl rfl (Nat.le_of_ble_eq_true rfl) dX6_isWord_52 ?_
          refine go_icmp_eq (pc := 55) X 60 dX6_isWord_55 rfl (fun c18 => ?_) (fun c18 => ?_)
          · rw [if_pos c18] at h
            refine go_iinc (pc := 60) X [1, 2, 0] 2 (Ls' := [(0, .ref (ad 1)), (1, .ref (Z.1 k1)), (2, .int (i32 (t10 + 1)))]) dX6_isWord_60 rfl (by decide) rfl ?_
            refine go_goto (pc := 63) X 28 dX6_isWord_63 rfl ?_
            exact lp_back h hx13
          · rw [if_neg c18] at h
            refine go_iconst (pc := 58) X dX6_isWord_58 ?_
            exact go_zretP (pc := 59) X (Or.inl rfl) (lp_back h hx13) dX6_isWord_59
      refine H9 FU 0 r7 h8 ?_
      cases r7 with
      | inl r19 =>
        have h := lct_l h
        refine lpG_l ?_
        refine go_iconst (pc := 66) X dX6_isWord_66 ?_
        exact go_zretP (pc := 67) X (Or.inr rfl) h dX6_isWord_67
      | inr u20 =>
        have h := lct_r h
        refine lpG_r ?_
        exact h
    · rw [if_neg c2] at h
      refine go_iconst (pc := 24) X dX6_isWord_24 ?_
      exact go_zretP (pc := 25) X (Or.inl rfl) h dX6_isWord_25
set_option maxRecDepth 100000 in
set_option maxHeartbeats 4000000 in
theorem ct_X6_numberHere {l : Launch} {D : va_G} {cI cB : ClassId} {Z : (Nat → Nat) × (Nat → Nat)} {ad : Nat → Nat} {S : Mem} {r : Int} (h : f_X6_numberHere S = some r) : Ctr l D cI cB Z ad shsC yX6_numberHere cX6_numberHere 3 (some .int) 0 0 [.ref (ad 1)] S (some (.int (i32 r))) S := by
  refine ctr_of (by decide +kernel) (Nat.le_of_ble_eq_true rfl) rfl ?_
  intro p e s m args below meth c A X
  unfold f_X6_numberHere at h
  refine go_aload_n (pc := 0) X 0 dX6_numberHere_0 rfl rfl ?_
  refine go_get (pc := 1) X (fk := 3) (fi := 3) rfl sh6 rfl inT_X6 (by decide) fL_X6_25 rfl dX6_numberHere_1 ?_
  refine go_aload_n (pc := 4) X 0 dX6_numberHere_4 rfl rfl ?_
  refine go_get (pc := 5) X (fk := 2) (fi := 2) rfl sh6 rfl inT_X6 (by decide) fL_X6_22 rfl dX6_numberHere_5 ?_
  refine go_isub (pc := 8) X dX6_numberHere_8 ?_
  refine go_iconst (pc := 9) X dX6_numberHere_9 ?_
  refine go_icmp_le (pc := 10) X 15 dX6_numberHere_10 rfl (fun c1 => ?_) (fun c1 => ?_)
  · rw [if_neg c1] at h
    refine go_iconst (pc := 15) X dX6_numberHere_15 ?_
    refine go_istore_n (pc := 16) X [1, 0] (Ls' := [(0, .ref (ad 1)), (1, .int (i32 0))]) dX6_numberHere_16 rfl (by decide) rfl ?_
    refine go_aload_n (pc := 17) X 0 dX6_numberHere_17 rfl rfl ?_
    refine go_get (pc := 18) X (fk := 2) (fi := 2) rfl sh6 rfl inT_X6 (by decide) fL_X6_22 rfl dX6_numberHere_18 ?_
    refine go_istore_n (pc := 21) X [1, 2, 0] (Ls' := [(0, .ref (ad 1)), (1, .int (i32 0)), (2, .int (i32 (S 1 2)))]) dX6_numberHere_21 rfl (by decide) rfl ?_
    obtain ⟨r4, h5, h⟩ := bind_some h
    have H6 : ∀ (n : Nat) (t7 : Int × Int) (z8 : Int), lp (f_X6_numberHere_l22 S) n t7 = some z8 → Go p l e { frames := 0, cells := 0, slots := 0, locals := 0 } s m args below meth c 3 D cI cB ad shsC A (MQ below (cQ D cI cB ad shsC (some (.int (i32 r))) S A) args s 0 0 A) 54 [(1, .int (i32 z8))] [] S → Go p l e { frames := 0, cells := 0, slots := 0, locals := 0 } s m args below meth c 3 D cI cB ad shsC A (MQ below (cQ D cI cB ad shsC (some (.int (i32 r))) S A) args s 0 0 A) 22 [(0, .ref (ad 1)), (1, .int (i32 t7.1)), (2, .int (i32 t7.2))] [] S := by
      refine lp_go (fun t7 : Int × Int => Go p l e { frames := 0, cells := 0, slots := 0, locals := 0 } s m args below meth c 3 D cI cB ad shsC A (MQ below (cQ D cI cB ad shsC (some (.int (i32 r))) S A) args s 0 0 A) 22 [(0, .ref (ad 1)), (1, .int (i32 t7.1)), (2, .int (i32 t7.2))] [] S) (fun z8 : Int => Go p l e { frames := 0, cells := 0, slots := 0, locals := 0 } s m args below meth c 3 D cI cB ad shsC A (MQ below (cQ D cI cB ad shsC (some (.int (i32 r))) S A) args s 0 0 A) 54 [(1, .int (i32 z8))] [] S) ?_
      intro t7 x9 h hx10
      unfold f_X6_numberHere_l22 at h
      refine go_iload_n (pc := 22) X 2 dX6_numberHere_22 rfl rfl ?_
      refine go_aload_n (pc := 23) X 0 dX6_numberHere_23 rfl rfl ?_
      refine go_get (pc := 24) X (fk := 3) (fi := 3) rfl sh6 rfl inT_X6 (by decide) fL_X6_25 rfl dX6_numberHere_24 ?_
      refine go_icmp_ge (pc := 27) X 54 dX6_numberHere_27 rfl (fun c12 => ?_) (fun c12 => ?_)
      · rw [if_neg c12] at h
        refine go_pick [1] (Ls' := [(1, .int (i32 t7.1))]) rfl ?_
        exact lp_back h hx10
      · rw [if_pos c12] at h
        refine go_iload_n (pc := 30) X 1 dX6_numberHere_30 rfl rfl ?_
        refine go_bipush (pc := 31) X dX6_numberHere_31 (by decide) (by decide) ?_
        refine go_imul (pc := 33) X dX6_numberHere_33 ?_
        refine go_aload_n (pc := 34) X 0 dX6_numberHere_34 rfl rfl ?_
        refine go_getr (pc := 35) X (fk := 0) sh6 rfl inT_X6 (by decide) fL_X6_12 rfl dX6_numberHere_35 ?_
        refine go_getr (pc := 38) X (fk := 1) sh5 rfl inT_X5 (by decide) fL_X6_87 rfl dX6_numberHere_38 ?_
        refine go_iload_n (pc := 41) X 2 dX6_numberHere_41 rfl rfl ?_
        obtain ⟨g13, h⟩ := gd_some h
        refine go_bald (pc := 42) X shBy (Nat.le_of_ble_eq_true rfl) rfl g13 dX6_numberHere_42 ?_
        refine go_bipush (pc := 43) X dX6_numberHere_43 (by decide) (by decide) ?_
        refine go_isub (pc := 45) X dX6_numberHere_45 ?_
        refine go_iadd (pc := 46) X dX6_numberHere_46 ?_
        refine go_istore_n (pc := 47) X [1, 0, 2] (Ls' := [(0, .ref (ad 1)), (1, .int (i32 ((t7.1 * 10) + ((S 3 t7.2) - 48)))), (2, .int (i32 t7.2))]) dX6_numberHere_47 rfl (by decide) rfl ?_
        refine go_iinc (pc := 48) X [1, 2, 0] 2 (Ls' := [(0, .ref (ad 1)), (1, .int (i32 ((t7.1 * 10) + ((S 3 t7.2) - 48)))), (2, .int (i32 (t7.2 + 1)))]) dX6_numberHere_48 rfl (by decide) rfl ?_
        refine go_goto (pc := 51) X 22 dX6_numberHere_51 rfl ?_
        exact lp_back h hx10
    refine H6 FU (0, S 1 2) r4 h5 ?_
    refine go_iload_n (pc := 54) X 0 dX6_numberHere_54 rfl rfl ?_
    exact go_iretP (pc := 55) X h dX6_numberHere_55
  · rw [if_pos c1] at h
    refine go_iconst (pc := 13) X dX6_numberHere_13 ?_
    exact go_iretP (pc := 14) X h dX6_numberHere_14
set_option maxRecDepth 100000 in
set_option maxHeartbeats 4000000 in
theorem ct_X6_fail {l : Launch} {D : va_G} {cI cB : ClassId} {Z : (Nat → Nat) × (Nat → Nat)} {ad : Nat → Nat} {S : Mem} {S' : Mem} (h : f_X6_fail S = some S') : Ctr l D cI cB Z ad shsC yX6_fail cX6_fail 1 none 0 0 [.ref (ad 1)] S (none) S' := by
  refine ctr_of (by decide +kernel) (Nat.le_of_ble_eq_true rfl) rfl ?_
  intro p e s m args below meth c A X
  unfold f_X6_fail at h
  refine go_aload_n (pc := 0) X 0 dX6_fail_0 rfl rfl ?_
  refine go_get (pc := 1) X (fk := 4) (fi := 4) rfl sh6 rfl inT_X6 (by decide) fL_X6_28 rfl dX6_fail_1 ?_
  refine go_iconst (pc := 4) X dX6_fail_4 ?_
  refine go_icmp_ne (pc := 5) X 16 dX6_fail_5 rfl (fun c1 => ?_) (fun c1 => ?_)
  · rw [if_neg c1] at h
    exact go_vret (pc := 16) X h dX6_fail_16
  · rw [if_pos c1] at h
    refine go_aload_n (pc := 8) X 0 dX6_fail_8 rfl rfl ?_
    refine go_aload_n (pc := 9) X 0 dX6_fail_9 rfl rfl ?_
    refine go_get (pc := 10) X (fk := 2) (fi := 2) rfl sh6 rfl inT_X6 (by decide) fL_X6_22 rfl dX6_fail_10 ?_
    obtain ⟨S2, e3, h⟩ := wrk_some h
    refine go_putE (pc := 13) X (fk := 4) (fi := 4) rfl e3 sh6 rfl inT_X6 tyX6_ok nmX6 (by decide) fL_X6_28 rfl rfl rfl rfl rfl dX6_fail_13 ?_
    exact go_vret (pc := 16) X h dX6_fail_16
set_option maxRecDepth 100000 in
set_option maxHeartbeats 4000000 in
theorem ct_X6_readNumber {l : Launch} {D : va_G} {cI cB : ClassId} {Z : (Nat → Nat) × (Nat → Nat)} {ad : Nat → Nat} {S : Mem} {a1 : Int} {a2 : Int} {r : Int} {S' : Mem} (h : f_X6_readNumber S a1 a2 = some (r, S')) : Ctr l D cI cB Z ad shsC yX6_readNumber cX6_readNumber 4 (some .int) 3 66 [.ref (ad 1), .int (i32 a1), .int (i32 a2)] S (some (.int (i32 r))) S' := by
  refine ctr_of (by decide +kernel) (Nat.le_of_ble_eq_true rfl) rfl ?_
  intro p e s m args below meth c A X
  unfold f_X6_readNumber at h
  refine go_aload_n (pc := 0) X 0 dX6_readNumber_0 rfl rfl ?_
  refine go_get (pc := 1) X (fk := 1) (fi := 1) rfl sh6 rfl inT_X6 (by decide) fL_X6_18 rfl dX6_readNumber_1 ?_
  refine go_iconst (pc := 4) X dX6_readNumber_4 ?_
  obtain ⟨j1, h2, h⟩ := bind_some h
  have k3 : Go p l e { frames := 3, cells := 0, slots := 0, locals := 66 } s m args below meth c 4 D cI cB ad shsC A (MQ below (cQ D cI cB ad shsC (some (.int (i32 r))) S' A) args s 0 0 A) 16 [(0, .ref (ad 1)), (1, .int (i32 a1)), (2, .int (i32 a2))] [.int (i32 j1)] S := by
    refine go_istore_n (pc := 16) X [1, 2, 3, 0] (Ls' := [(0, .ref (ad 1)), (1, .int (i32 a1)), (2, .int (i32 a2)), (3, .int (i32 j1))]) dX6_readNumber_16 rfl (by decide) rfl ?_
    refine go_iload_n (pc := 17) X 3 dX6_readNumber_17 rfl rfl ?_
    refine go_iload_n (pc := 18) X 1 dX6_readNumber_18 rfl rfl ?_
    refine go_icmp_lt (pc := 19) X 27 dX6_readNumber_19 rfl (fun c4 => ?_) (fun c4 => ?_)
    · rw [if_pos c4] at h
      refine go_aload_n (pc := 27) X 0 dX6_readNumber_27 rfl rfl ?_
      obtain ⟨S5, h6, h⟩ := bind_some h
      refine go_callVv (pc := 28) X 0 [] (ct_X6_fail h6) sh6 rfl gg_X6_68 hd_X6_fail ⟨Nat.le_of_ble_eq_true rfl, Nat.le_of_ble_eq_true rfl⟩ rfl rfl (Nat.le_of_ble_eq_true rfl) dX6_readNumber_28 ?_
      refine go_iload_n (pc := 31) X 1 dX6_readNumber_31 rfl rfl ?_
      exact go_iret (pc := 32) X h dX6_readNumber_32
    · rw [if_neg c4] at h
      refine go_iload_n (pc := 22) X 3 dX6_readNumber_22 rfl rfl ?_
      refine go_iload_n (pc := 23) X 2 dX6_readNumber_23 rfl rfl ?_
      refine go_icmp_le (pc := 24) X 33 dX6_readNumber_24 rfl (fun c7 => ?_) (fun c7 => ?_)
      · rw [if_neg c7] at h
        refine go_aload_n (pc := 33) X 0 dX6_readNumber_33 rfl rfl ?_
        obtain ⟨S8, h9, h⟩ := bind_some h
        refine go_callVv (pc := 34) X 0 [] (ct_X6_advance h9) sh6 rfl gg_X6_36 hd_X6_advance ⟨Nat.le_of_ble_eq_true rfl, Nat.le_of_ble_eq_true rfl⟩ rfl rfl (Nat.le_of_ble_eq_true rfl) dX6_readNumber_34 ?_
        refine go_iload_n (pc := 37) X 3 dX6_readNumber_37 rfl rfl ?_
        exact go_iret (pc := 38) X h dX6_readNumber_38
      · rw [if_pos c7] at h
        refine go_aload_n (pc := 27) X 0 dX6_readNumber_27 rfl rfl ?_
        obtain ⟨S10, h11, h⟩ := bind_some h
        refine go_callVv (pc := 28) X 0 [] (ct_X6_fail h11) sh6 rfl gg_X6_68 hd_X6_fail ⟨Nat.le_of_ble_eq_true rfl, Nat.le_of_ble_eq_true rfl⟩ rfl rfl (Nat.le_of_ble_eq_true rfl) dX6_readNumber_28 ?_
        refine go_iload_n (pc := 31) X 1 dX6_readNumber_31 rfl rfl ?_
        exact go_iret (pc := 32) X h dX6_readNumber_32
  refine go_icmp_ne (pc := 5) X 15 dX6_readNumber_5 rfl (fun c12 => ?_) (fun c12 => ?_)
  · rw [if_neg c12] at h2
    refine go_iconst (pc := 15) X dX6_readNumber_15 ?_
    cases h2
    exact k3
  · rw [if_pos c12] at h2
    refine go_aload_n (pc := 8) X 0 dX6_readNumber_8 rfl rfl ?_
    obtain ⟨r13, h14, h2⟩ := bind_some h2
    refine go_callVi (pc := 9) X 0 [] (ct_X6_numberHere h14) sh6 rfl gg_X6_84 hd_X6_numberHere ⟨Nat.le_of_ble_eq_true rfl, Nat.le_of_ble_eq_true rfl⟩ rfl rfl (Nat.le_of_ble_eq_true rfl) dX6_readNumber_9 ?_
    refine go_goto (pc := 12) X 16 dX6_readNumber_12 rfl ?_
    cases h2
    exact k3
set_option maxRecDepth 100000 in
set_option maxHeartbeats 4000000 in
theorem ct_X6_readBidder {l : Launch} {D : va_G} {cI cB : ClassId} {Z : (Nat → Nat) × (Nat → Nat)} {ad : Nat → Nat} {S : Mem} {a2 : Int} {S' : Mem} (h : f_X6_readBidder S a2 = some S') : Ctr l D cI cB Z ad shsC yX6_readBidder cX6_readBidder 5 none 5 111 [.ref (ad 1), .ref (ad 19), .int (i32 a2)] S (none) S' := by
  refine ctr_of (by decide +kernel) (Nat.le_of_ble_eq_true rfl) rfl ?_
  intro p e s m args below meth c A X
  unfold f_X6_readBidder at h
  refine go_bipush (pc := 0) X dX6_readBidder_0 (by decide) (by decide) ?_
  refine go_istore_n (pc := 2) X [1, 2, 3, 0] (Ls' := [(0, .ref (ad 1)), (1, .ref (ad 19)), (2, .int (i32 a2)), (3, .int (i32 99))]) dX6_readBidder_2 rfl (by decide) rfl ?_
  refine go_iconst (pc := 3) X dX6_readBidder_3 ?_
  refine go_istore (pc := 4) X [1, 2, 3, 4, 0] (Ls' := [(0, .ref (ad 1)), (1, .ref (ad 19)), (2, .int (i32 a2)), (3, .int (i32 99)), (4, .int (i32 0))]) dX6_readBidder_4 (by decide) rfl ?_
  obtain ⟨r8, h9, h⟩ := bind_some h
  have H10 : ∀ (n : Nat) (t11 : Int × Int × Mem) (z12 : Mem), lp (f_X6_readBidder_l6 a2) n t11 = some z12 → Go p l e { frames := 5, cells := 0, slots := 0, locals := 111 } s m args below meth c 5 D cI cB ad shsC A (MQ below (cQ D cI cB ad shsC (none) S' A) args s 0 0 A) 48 [(0, .ref (ad 1)), (1, .ref (ad 19)), (2, .int (i32 a2))] [] z12 → Go p l e { frames := 5, cells := 0, slots := 0, locals := 111 } s m args below meth c 5 D cI cB ad shsC A (MQ below (cQ D cI cB ad shsC (none) S' A) args s 0 0 A) 6 [(0, .ref (ad 1)), (1, .ref (ad 19)), (2, .int (i32 a2)), (3, .int (i32 t11.1)), (4, .int (i32 t11.2.1))] [] t11.2.2 := by
    refine lp_go (fun t11 : Int × Int × Mem => Go p l e { frames := 5, cells := 0, slots := 0, locals := 111 } s m args below meth c 5 D cI cB ad shsC A (MQ below (cQ D cI cB ad shsC (none) S' A) args s 0 0 A) 6 [(0, .ref (ad 1)), (1, .ref (ad 19)), (2, .int (i32 a2)), (3, .int (i32 t11.1)), (4, .int (i32 t11.2.1))] [] t11.2.2) (fun z12 : Mem => Go p l e { frames := 5, cells := 0, slots := 0, locals := 111 } s m args below meth c 5 D cI cB ad shsC A (MQ below (cQ D cI cB ad shsC (none) S' A) args s 0 0 A) 48 [(0, .ref (ad 1)), (1, .ref (ad 19)), (2, .int (i32 a2))] [] z12) ?_
    intro t11 x13 h hx14
    unfold f_X6_readBidder_l6 at h
    refine go_iload (pc := 6) X 4 dX6_readBidder_6 rfl ?_
    refine go_bipush (pc := 8) X dX6_readBidder_8 (by decide) (by decide) ?_
    refine go_icmp_ge (pc := 10) X 48 dX6_readBidder_10 rfl (fun c16 => ?_) (fun c16 => ?_)
    · rw [if_neg c16] at h
      refine go_pick [0, 1, 2] (Ls' := [(0, .ref (ad 1)), (1, .ref (ad 19)), (2, .int (i32 a2))]) rfl ?_
      exact lp_back h hx14
    · rw [if_pos c16] at h
      refine go_aload_n (pc := 13) X 0 dX6_readBidder_13 rfl rfl ?_
      refine go_get (pc := 14) X (fk := 1) (fi := 1) rfl sh6 rfl inT_X6 (by decide) fL_X6_18 rfl dX6_readBidder_14 ?_
      refine go_iconst (pc := 17) X dX6_readBidder_17 ?_
      refine go_icmp_ne (pc := 18) X 48 dX6_readBidder_18 rfl (fun c17 => ?_) (fun c17 => ?_)
      · rw [if_neg c17] at h
        refine go_pick [0, 1, 2] (Ls' := [(0, .ref (ad 1)), (1, .ref (ad 19)), (2, .int (i32 a2))]) rfl ?_
        exact lp_back h hx14
      · rw [if_pos c17] at h
        refine go_aload_n (pc := 21) X 0 dX6_readBidder_21 rfl rfl ?_
        refine go_get (pc := 22) X (fk := 4) (fi := 4) rfl sh6 rfl inT_X6 (by decide) fL_X6_28 rfl dX6_readBidder_22 ?_
        refine go_iconst (pc := 25) X dX6_readBidder_25 ?_
        refine go_icmp_ne (pc := 26) X 48 dX6_readBidder_26 rfl (fun c18 => ?_) (fun c18 => ?_)
        · rw [if_neg c18] at h
          refine go_pick [0, 1, 2] (Ls' := [(0, .ref (ad 1)), (1, .ref (ad 19)), (2, .int (i32 a2))]) rfl ?_
          exact lp_back h hx14
        · rw [if_pos c18] at h
          refine go_aload_n (pc := 29) X 0 dX6_readBidder_29 rfl rfl ?_
          refine go_iconst (pc := 30) X dX6_readBidder_30 ?_
          refine go_iload_n (pc := 31) X 3 dX6_readBidder_31 rfl rfl ?_
          obtain ⟨u19, h20, h⟩ := bind_some h
          refine go_callVi (pc := 32) X 2 [] (ct_X6_readNumber h20) sh6 rfl gg_X6_45 hd_X6_readNumber ⟨Nat.le_of_ble_eq_true rfl, Nat.le_of_ble_eq_true rfl⟩ rfl rfl (Nat.le_of_ble_eq_true rfl) dX6_readBidder_32 ?_
          refine go_istore_n (pc := 35) X [1, 2, 3, 0, 4] (Ls' := [(0, .ref (ad 1)), (1, .ref (ad 19)), (2, .int (i32 a2)), (3, .int (i32 u19.1)), (4, .int (i32 t11.2.1))]) dX6_readBidder_35 rfl (by decide) rfl ?_
          refine go_aload_n (pc := 36) X 1 dX6_readBidder_36 rfl rfl ?_
          refine go_iload_n (pc := 37) X 2 dX6_readBidder_37 rfl rfl ?_
          refine go_iload_n (pc := 38) X 3 dX6_readBidder_38 rfl rfl ?_
          obtain ⟨S21, h22, h⟩ := bind_some h
          refine go_callVv (pc := 39) X 2 [] (ct_X1_insertValue bk19 h22) (shB bk19) rfl gg_X6_74 hd_X1_insertValue ⟨Nat.le_of_ble_eq_true rfl, Nat.le_of_ble_eq_true rfl⟩ rfl rfl (Nat.le_of_ble_eq_true rfl) dX6_readBidder_39 ?_
          refine go_iinc (pc := 42) X [1, 2, 3, 4, 0] 4 (Ls' := [(0, .ref (ad 1)), (1, .ref (ad 19)), (2, .int (i32 a2)), (3, .int (i32 u19.1)), (4, .int (i32 (t11.2.1 + 1)))]) dX6_readBidder_42 rfl (by decide) rfl ?_
          refine go_goto (pc := 45) X 6 dX6_readBidder_45 rfl ?_
          exact lp_back h hx14
  refine H10 FU (99, 0, S) r8 h9 ?_
  refine go_aload_n (pc := 48) X 0 dX6_readBidder_48 rfl rfl ?_
  refine go_get (pc := 49) X (fk := 4) (fi := 4) rfl sh6 rfl inT_X6 (by decide) fL_X6_28 rfl dX6_readBidder_49 ?_
  refine go_iconst (pc := 52) X dX6_readBidder_52 ?_
  refine go_icmp_ne (pc := 53) X 82 dX6_readBidder_53 rfl (fun c23 => ?_) (fun c23 => ?_)
  · rw [if_neg c23] at h
    exact go_vret (pc := 82) X h dX6_readBidder_82
  · rw [if_pos c23] at h
    refine go_aload_n (pc := 56) X 0 dX6_readBidder_56 rfl rfl ?_
    refine go_ldcS (pc := 57) X 3 rfl dX6_readBidder_57 ?_
    obtain ⟨r24, h25, h⟩ := bind_some h
    refine go_callVi (pc := 59) X 1 [] (ct_X6_isWord (by decide) h25) sh6 rfl gg_X6_41 hd_X6_isWord ⟨Nat.le_of_ble_eq_true rfl, Nat.le_of_ble_eq_true rfl⟩ rfl rfl (Nat.le_of_ble_eq_true rfl) dX6_readBidder_59 ?_
    refine go_if_eq (pc := 62) X 82 dX6_readBidder_62 rfl (fun c26 => ?_) (fun c26 => ?_)
    · rw [if_pos c26] at h
      exact go_vret (pc := 82) X h dX6_readBidder_82
    · rw [if_neg c26] at h
      refine go_aload_n (pc := 65) X 0 dX6_readBidder_65 rfl rfl ?_
      obtain ⟨S27, h28, h⟩ := bind_some h
      refine go_callVv (pc := 66) X 0 [] (ct_X6_advance h28) sh6 rfl gg_X6_36 hd_X6_advance ⟨Nat.le_of_ble_eq_true rfl, Nat.le_of_ble_eq_true rfl⟩ rfl rfl (Nat.le_of_ble_eq_true rfl) dX6_readBidder_66 ?_
      refine go_aload_n (pc := 69) X 1 dX6_readBidder_69 rfl rfl ?_
      refine go_getr (pc := 70) X (fk := 4) (shB bk19) rfl inT_X1 (by decide) fL_X6_80 rfl dX6_readBidder_70 ?_
      refine go_iload_n (pc := 73) X 2 dX6_readBidder_73 rfl rfl ?_
      refine go_aload_n (pc := 74) X 0 dX6_readBidder_74 rfl rfl ?_
      refine go_iconst (pc := 75) X dX6_readBidder_75 ?_
      refine go_bipush (pc := 76) X dX6_readBidder_76 (by decide) (by decide) ?_
      obtain ⟨u29, h30, h⟩ := bind_some h
      refine go_callVi (pc := 78) X 2 [.int (i32 a2), .ref (ad 21)] (ct_X6_readNumber h30) sh6 rfl gg_X6_45 hd_X6_readNumber ⟨Nat.le_of_ble_eq_true rfl, Nat.le_of_ble_eq_true rfl⟩ rfl rfl (Nat.le_of_ble_eq_true rfl) dX6_readBidder_78 ?_
      obtain ⟨g31, h⟩ := gd_some h
      obtain ⟨S32, e33, h⟩ := wrk_some h
      refine go_iastE (pc := 81) X e33 (shB2 bk19) (Nat.le_of_ble_eq_true rfl) rfl g31 dX6_readBidder_81 ?_
      exact go_vret (pc := 82) X h dX6_readBidder_82
set_option maxRecDepth 100000 in
set_option maxHeartbeats 4000000 in
theorem ct_X6_readSemicolon {l : Launch} {D : va_G} {cI cB : ClassId} {Z : (Nat → Nat) × (Nat → Nat)} {ad : Nat → Nat} {S : Mem} {S' : Mem} (h : f_X6_readSemicolon S = some S') : Ctr l D cI cB Z ad shsC yX6_readSemicolon cX6_readSemicolon 1 none 3 66 [.ref (ad 1)] S (none) S' := by
  refine ctr_of (by decide +kernel) (Nat.le_of_ble_eq_true rfl) rfl ?_
  intro p e s m args below meth c A X
  unfold f_X6_readSemicolon at h
  refine go_aload_n (pc := 0) X 0 dX6_readSemicolon_0 rfl rfl ?_
  refine go_get (pc := 1) X (fk := 4) (fi := 4) rfl sh6 rfl inT_X6 (by decide) fL_X6_28 rfl dX6_readSemicolon_1 ?_
  refine go_iconst (pc := 4) X dX6_readSemicolon_4 ?_
  refine go_icmp_ne (pc := 5) X 23 dX6_readSemicolon_5 rfl (fun c1 => ?_) (fun c1 => ?_)
  · rw [if_neg c1] at h
    refine go_aload_n (pc := 23) X 0 dX6_readSemicolon_23 rfl rfl ?_
    obtain ⟨S2, h3, h⟩ := bind_some h
    refine go_callVv (pc := 24) X 0 [] (ct_X6_fail h3) sh6 rfl gg_X6_68 hd_X6_fail ⟨Nat.le_of_ble_eq_true rfl, Nat.le_of_ble_eq_true rfl⟩ rfl rfl (Nat.le_of_ble_eq_true rfl) dX6_readSemicolon_24 ?_
    exact go_vret (pc := 27) X h dX6_readSemicolon_27
  · rw [if_pos c1] at h
    refine go_aload_n (pc := 8) X 0 dX6_readSemicolon_8 rfl rfl ?_
    refine go_get (pc := 9) X (fk := 1) (fi := 1) rfl sh6 rfl inT_X6 (by decide) fL_X6_18 rfl dX6_readSemicolon_9 ?_
    refine go_iconst (pc := 12) X dX6_readSemicolon_12 ?_
    refine go_icmp_ne (pc := 13) X 23 dX6_readSemicolon_13 rfl (fun c4 => ?_) (fun c4 => ?_)
    · rw [if_neg c4] at h
      refine go_aload_n (pc := 23) X 0 dX6_readSemicolon_23 rfl rfl ?_
      obtain ⟨S5, h6, h⟩ := bind_some h
      refine go_callVv (pc := 24) X 0 [] (ct_X6_fail h6) sh6 rfl gg_X6_68 hd_X6_fail ⟨Nat.le_of_ble_eq_true rfl, Nat.le_of_ble_eq_true rfl⟩ rfl rfl (Nat.le_of_ble_eq_true rfl) dX6_readSemicolon_24 ?_
      exact go_vret (pc := 27) X h dX6_readSemicolon_27
    · rw [if_pos c4] at h
      refine go_aload_n (pc := 16) X 0 dX6_readSemicolon_16 rfl rfl ?_
      obtain ⟨S7, h8, h⟩ := bind_some h
      refine go_callVv (pc := 17) X 0 [] (ct_X6_advance h8) sh6 rfl gg_X6_36 hd_X6_advance ⟨Nat.le_of_ble_eq_true rfl, Nat.le_of_ble_eq_true rfl⟩ rfl rfl (Nat.le_of_ble_eq_true rfl) dX6_readSemicolon_17 ?_
      refine go_goto (pc := 20) X 27 dX6_readSemicolon_20 rfl ?_
      exact go_vret (pc := 27) X h dX6_readSemicolon_27
set_option maxRecDepth 100000 in
set_option maxHeartbeats 4000000 in
theorem ct_X6_read {l : Launch} {D : va_G} {cI cB : ClassId} {Z : (Nat → Nat) × (Nat → Nat)} {ad : Nat → Nat} {S : Mem} {r : Int} {S' : Mem} (h : f_X6_read S = some (r, S')) : Ctr l D cI cB Z ad shsC yX6_read cX6_read 3 (some .int) 6 135 [.ref (ad 1), .ref (ad 19)] S (some (.int (i32 r))) S' := by
  refine ctr_of (by decide +kernel) (Nat.le_of_ble_eq_true rfl) rfl ?_
  intro p e s m args below meth c A X
  unfold f_X6_read at h
  refine go_aload_n (pc := 0) X 1 dX6_read_0 rfl rfl ?_
  obtain ⟨S1, h2, h⟩ := bind_some h
  refine go_callVv (pc := 1) X 0 [] (ct_X1_restart bk19 h2) (shB bk19) rfl gg_X6_31 hd_X1_restart ⟨Nat.le_of_ble_eq_true rfl, Nat.le_of_ble_eq_true rfl⟩ rfl rfl (Nat.le_of_ble_eq_true rfl) dX6_read_1 ?_
  refine go_aload_n (pc := 4) X 0 dX6_read_4 rfl rfl ?_
  refine go_iconst (pc := 5) X dX6_read_5 ?_
  obtain ⟨S3, e4, h⟩ := wrk_some h
  refine go_putE (pc := 6) X (fk := 4) (fi := 4) rfl e4 sh6 rfl inT_X6 tyX6_ok nmX6 (by decide) fL_X6_28 rfl rfl rfl rfl rfl dX6_read_6 ?_
  refine go_aload_n (pc := 9) X 0 dX6_read_9 rfl rfl ?_
  refine go_iconst (pc := 10) X dX6_read_10 ?_
  obtain ⟨S5, e6, h⟩ := wrk_some h
  refine go_putE (pc := 11) X (fk := 1) (fi := 1) rfl e6 sh6 rfl inT_X6 tyX6_ok nmX6 (by decide) fL_X6_18 rfl rfl rfl rfl rfl dX6_read_11 ?_
  refine go_aload_n (pc := 14) X 0 dX6_read_14 rfl rfl ?_
  refine go_iconst (pc := 15) X dX6_read_15 ?_
  obtain ⟨S7, e8, h⟩ := wrk_some h
  refine go_putE (pc := 16) X (fk := 3) (fi := 3) rfl e8 sh6 rfl inT_X6 tyX6_ok nmX6 (by decide) fL_X6_25 rfl rfl rfl rfl rfl dX6_read_16 ?_
  refine go_aload_n (pc := 19) X 0 dX6_read_19 rfl rfl ?_
  obtain ⟨S9, h10, h⟩ := bind_some h
  refine go_callVv (pc := 20) X 0 [] (ct_X6_advance h10) sh6 rfl gg_X6_36 hd_X6_advance ⟨Nat.le_of_ble_eq_true rfl, Nat.le_of_ble_eq_true rfl⟩ rfl rfl (Nat.le_of_ble_eq_true rfl) dX6_read_20 ?_
  refine go_iconst (pc := 23) X dX6_read_23 ?_
  refine go_istore_n (pc := 24) X [1, 2, 0] (Ls' := [(0, .ref (ad 1)), (1, .ref (ad 19)), (2, .int (i32 0))]) dX6_read_24 rfl (by decide) rfl ?_
  obtain ⟨r51, h52, h⟩ := bind_some h
  have H53 : ∀ (n : Nat) (t54 : Int × Mem) (z55 : Mem), lp (f_X6_read_l25) n t54 = some z55 → Go p l e { frames := 6, cells := 0, slots := 0, locals := 135 } s m args below meth c 3 D cI cB ad shsC A (MQ below (cQ D cI cB ad shsC (some (.int (i32 r))) S' A) args s 0 0 A) 149 [(0, .ref (ad 1))] [] z55 → Go p l e { frames := 6, cells := 0, slots := 0, locals := 135 } s m args below meth c 3 D cI cB ad shsC A (MQ below (cQ D cI cB ad shsC (some (.int (i32 r))) S' A) args s 0 0 A) 25 [(0, .ref (ad 1)), (1, .ref (ad 19)), (2, .int (i32 t54.1))] [] t54.2 := by
    refine lp_go (fun t54 : Int × Mem => Go p l e { frames := 6, cells := 0, slots := 0, locals := 135 } s m args below meth c 3 D cI cB ad shsC A (MQ below (cQ D cI cB ad shsC (some (.int (i32 r))) S' A) args s 0 0 A) 25 [(0, .ref (ad 1)), (1, .ref (ad 19)), (2, .int (i32 t54.1))] [] t54.2) (fun z55 : Mem => Go p l e { frames := 6, cells := 0, slots := 0, locals := 135 } s m args below meth c 3 D cI cB ad shsC A (MQ below (cQ D cI cB ad shsC (some (.int (i32 r))) S' A) args s 0 0 A) 149 [(0, .ref (ad 1))] [] z55) ?_
    intro t54 x56 h hx57
    unfold f_X6_read_l25 at h
    refine go_iload_n (pc := 25) X 2 dX6_read_25 rfl rfl ?_
    refine go_sipush (pc := 26) X dX6_read_26 (by decide) (by decide) ?_
    refine go_icmp_ge (pc := 29) X 149 dX6_read_29 rfl (fun c59 => ?_) (fun c59 => ?_)
    · rw [if_neg c59] at h
      refine go_pick [0] (Ls' := [(0, .ref (ad 1))]) rfl ?_
      exact lp_back h hx57
    · rw [if_pos c59] at h
      refine go_aload_n (pc := 32) X 0 dX6_read_32 rfl rfl ?_
      refine go_get (pc := 33) X (fk := 4) (fi := 4) rfl sh6 rfl inT_X6 (by decide) fL_X6_28 rfl dX6_read_33 ?_
      refine go_iconst (pc := 36) X dX6_read_36 ?_
      refine go_icmp_ne (pc := 37) X 149 dX6_read_37 rfl (fun c60 => ?_) (fun c60 => ?_)
      · rw [if_neg c60] at h
        refine go_pick [0] (Ls' := [(0, .ref (ad 1))]) rfl ?_
        exact lp_back h hx57
      · rw [if_pos c60] at h
        refine go_aload_n (pc := 40) X 0 dX6_read_40 rfl rfl ?_
        refine go_get (pc := 41) X (fk := 1) (fi := 1) rfl sh6 rfl inT_X6 (by decide) fL_X6_18 rfl dX6_read_41 ?_
        refine go_if_eq (pc := 44) X 149 dX6_read_44 rfl (fun c61 => ?_) (fun c61 => ?_)
        · rw [if_pos c61] at h
          refine go_pick [0] (Ls' := [(0, .ref (ad 1))]) rfl ?_
          exact lp_back h hx57
        · rw [if_neg c61] at h
          refine go_aload_n (pc := 47) X 0 dX6_read_47 rfl rfl ?_
          refine go_ldcS (pc := 48) X 0 rfl dX6_read_48 ?_
          obtain ⟨r62, h63, h⟩ := bind_some h
          refine go_callVi (pc := 50) X 1 [] (ct_X6_isWord (by decide) h63) sh6 rfl gg_X6_41 hd_X6_isWord ⟨Nat.le_of_ble_eq_true rfl, Nat.le_of_ble_eq_true rfl⟩ rfl rfl (Nat.le_of_ble_eq_true rfl) dX6_read_50 ?_
          obtain ⟨j64, h65, h⟩ := bind_some h
          have k66 : Go p l e { frames := 6, cells := 0, slots := 0, locals := 135 } s m args below meth c 3 D cI cB ad shsC A (MQ below (cQ D cI cB ad shsC (some (.int (i32 r))) S' A) args s 0 0 A) 139 [(0, .ref (ad 1)), (1, .ref (ad 19)), (2, .int (i32 t54.1))] [] j64 := by
            refine go_aload_n (pc := 139) X 0 dX6_read_139 rfl rfl ?_
            obtain ⟨S67, h68, h⟩ := bind_some h
            refine go_callVv (pc := 140) X 0 [] (ct_X6_readSemicolon h68) sh6 rfl gg_X6_71 hd_X6_readSemicolon ⟨Nat.le_of_ble_eq_true rfl, Nat.le_of_ble_eq_true rfl⟩ rfl rfl (Nat.le_of_ble_eq_true rfl) dX6_read_140 ?_
            refine go_iinc (pc := 143) X [1, 2, 0] 2 (Ls' := [(0, .ref (ad 1)), (1, .ref (ad 19)), (2, .int (i32 (t54.1 + 1)))]) dX6_read_143 rfl (by decide) rfl ?_
            refine go_goto (pc := 146) X 25 dX6_read_146 rfl ?_
            exact lp_back h hx57
          refine go_if_eq (pc := 53) X 74 dX6_read_53 rfl (fun c69 => ?_) (fun c69 => ?_)
          · rw [if_pos c69] at h65
            refine go_aload_n (pc := 74) X 0 dX6_read_74 rfl rfl ?_
            refine go_ldcS (pc := 75) X 1 rfl dX6_read_75 ?_
            obtain ⟨r70, h71, h65⟩ := bind_some h65
            refine go_callVi (pc := 77) X 1 [] (ct_X6_isWord (by decide) h71) sh6 rfl gg_X6_41 hd_X6_isWord ⟨Nat.le_of_ble_eq_true rfl, Nat.le_of_ble_eq_true rfl⟩ rfl rfl (Nat.le_of_ble_eq_true rfl) dX6_read_77 ?_
            refine go_if_eq (pc := 80) X 101 dX6_read_80 rfl (fun c72 => ?_) (fun c72 => ?_)
            · rw [if_pos c72] at h65
              refine go_aload_n (pc := 101) X 0 dX6_read_101 rfl rfl ?_
              refine go_ldcS (pc := 102) X 2 rfl dX6_read_102 ?_
              obtain ⟨r73, h74, h65⟩ := bind_some h65
              refine go_callVi (pc := 104) X 1 [] (ct_X6_isWord (by decide) h74) sh6 rfl gg_X6_41 hd_X6_isWord ⟨Nat.le_of_ble_eq_true rfl, Nat.le_of_ble_eq_true rfl⟩ rfl rfl (Nat.le_of_ble_eq_true rfl) dX6_read_104 ?_
              refine go_if_eq (pc := 107) X 135 dX6_read_107 rfl (fun c75 => ?_) (fun c75 => ?_)
              · rw [if_pos c75] at h65
                refine go_aload_n (pc := 135) X 0 dX6_read_135 rfl rfl ?_
                obtain ⟨S76, h77, h65⟩ := bind_some h65
                refine go_callVv (pc := 136) X 0 [] (ct_X6_fail h77) sh6 rfl gg_X6_68 hd_X6_fail ⟨Nat.le_of_ble_eq_true rfl, Nat.le_of_ble_eq_true rfl⟩ rfl rfl (Nat.le_of_ble_eq_true rfl) dX6_read_136 ?_
                cases h65
                exact k66
              · rw [if_neg c75] at h65
                refine go_aload_n (pc := 110) X 1 dX6_read_110 rfl rfl ?_
                refine go_get (pc := 111) X (fk := 2) (fi := 2) rfl (shB bk19) rfl inT_X1 (by decide) fL_X6_57 rfl dX6_read_111 ?_
                refine go_bipush (pc := 114) X dX6_read_114 (by decide) (by decide) ?_
                refine go_icmp_ge (pc := 116) X 135 dX6_read_116 rfl (fun c78 => ?_) (fun c78 => ?_)
                · rw [if_neg c78] at h65
                  refine go_aload_n (pc := 135) X 0 dX6_read_135 rfl rfl ?_
                  obtain ⟨S79, h80, h65⟩ := bind_some h65
                  refine go_callVv (pc := 136) X 0 [] (ct_X6_fail h80) sh6 rfl gg_X6_68 hd_X6_fail ⟨Nat.le_of_ble_eq_true rfl, Nat.le_of_ble_eq_true rfl⟩ rfl rfl (Nat.le_of_ble_eq_true rfl) dX6_read_136 ?_
                  cases h65
                  exact k66
                · rw [if_pos c78] at h65
                  refine go_aload_n (pc := 119) X 0 dX6_read_119 rfl rfl ?_
                  obtain ⟨S81, h82, h65⟩ := bind_some h65
                  refine go_callVv (pc := 120) X 0 [] (ct_X6_advance h82) sh6 rfl gg_X6_36 hd_X6_advance ⟨Nat.le_of_ble_eq_true rfl, Nat.le_of_ble_eq_true rfl⟩ rfl rfl (Nat.le_of_ble_eq_true rfl) dX6_read_120 ?_
                  refine go_aload_n (pc := 123) X 0 dX6_read_123 rfl rfl ?_
                  refine go_aload_n (pc := 124) X 1 dX6_read_124 rfl rfl ?_
                  refine go_aload_n (pc := 125) X 1 dX6_read_125 rfl rfl ?_
                  obtain ⟨u83, h84, h65⟩ := bind_some h65
                  refine go_callVi (pc := 126) X 0 [.ref (ad 19), .ref (ad 1)] (ct_X1_addBidder bk19 h84) (shB bk19) rfl gg_X6_60 hd_X1_addBidder ⟨Nat.le_of_ble_eq_true rfl, Nat.le_of_ble_eq_true rfl⟩ rfl rfl (Nat.le_of_ble_eq_true rfl) dX6_read_126 ?_
                  obtain ⟨S85, h86, h65⟩ := bind_some h65
                  refine go_callVv (pc := 129) X 2 [] (ct_X6_readBidder h86) sh6 rfl gg_X6_64 hd_X6_readBidder ⟨Nat.le_of_ble_eq_true rfl, Nat.le_of_ble_eq_true rfl⟩ rfl rfl (Nat.le_of_ble_eq_true rfl) dX6_read_129 ?_
                  refine go_goto (pc := 132) X 139 dX6_read_132 rfl ?_
                  cases h65
                  exact k66
            · rw [if_neg c72] at h65
              refine go_aload_n (pc := 83) X 0 dX6_read_83 rfl rfl ?_
              obtain ⟨S87, h88, h65⟩ := bind_some h65
              refine go_callVv (pc := 84) X 0 [] (ct_X6_advance h88) sh6 rfl gg_X6_36 hd_X6_advance ⟨Nat.le_of_ble_eq_true rfl, Nat.le_of_ble_eq_true rfl⟩ rfl rfl (Nat.le_of_ble_eq_true rfl) dX6_read_84 ?_
              refine go_aload_n (pc := 87) X 1 dX6_read_87 rfl rfl ?_
              refine go_aload_n (pc := 88) X 0 dX6_read_88 rfl rfl ?_
              refine go_iconst (pc := 89) X dX6_read_89 ?_
              refine go_bipush (pc := 90) X dX6_read_90 (by decide) (by decide) ?_
              obtain ⟨u89, h90, h65⟩ := bind_some h65
              refine go_callVi (pc := 92) X 2 [.ref (ad 19)] (ct_X6_readNumber h90) sh6 rfl gg_X6_45 hd_X6_readNumber ⟨Nat.le_of_ble_eq_true rfl, Nat.le_of_ble_eq_true rfl⟩ rfl rfl (Nat.le_of_ble_eq_true rfl) dX6_read_92 ?_
              obtain ⟨S91, e92, h65⟩ := wrk_some h65
              refine go_putE (pc := 95) X (fk := 1) (fi := 1) rfl e92 (shB bk19) rfl inT_X1 tyX1_ok nmX1 (by decide) fL_X6_53 rfl rfl rfl rfl rfl dX6_read_95 ?_
              refine go_goto (pc := 98) X 139 dX6_read_98 rfl ?_
              cases h65
              exact k66
          · rw [if_neg c69] at h65
            refine go_aload_n (pc := 56) X 0 dX6_read_56 rfl rfl ?_
            obtain ⟨S93, h94, h65⟩ := bind_some h65
            refine go_callVv (pc := 57) X 0 [] (ct_X6_advance h94) sh6 rfl gg_X6_36 hd_X6_advance ⟨Nat.le_of_ble_eq_true rfl, Nat.le_of_ble_eq_true rfl⟩ rfl rfl (Nat.le_of_ble_eq_true rfl) dX6_read_57 ?_
            refine go_aload_n (pc := 60) X 1 dX6_read_60 rfl rfl ?_
            refine go_aload_n (pc := 61) X 0 dX6_read_61 rfl rfl ?_
            refine go_iconst (pc := 62) X dX6_read_62 ?_
            refine go_bipush (pc := 63) X dX6_read_63 (by decide) (by decide) ?_
            obtain ⟨u95, h96, h65⟩ := bind_some h65
            refine go_callVi (pc := 65) X 2 [.ref (ad 19)] (ct_X6_readNumber h96) sh6 rfl gg_X6_45 hd_X6_readNumber ⟨Nat.le_of_ble_eq_true rfl, Nat.le_of_ble_eq_true rfl⟩ rfl rfl (Nat.le_of_ble_eq_true rfl) dX6_read_65 ?_
            obtain ⟨S97, e98, h65⟩ := wrk_some h65
            refine go_putE (pc := 68) X (fk := 0) (fi := 0) rfl e98 (shB bk19) rfl inT_X1 tyX1_ok nmX1 (by decide) fL_X6_49 rfl rfl rfl rfl rfl dX6_read_68 ?_
            refine go_goto (pc := 71) X 139 dX6_read_71 rfl ?_
            cases h65
            exact k66
  refine H53 FU (0, S9) r51 h52 ?_
  refine go_aload_n (pc := 149) X 0 dX6_read_149 rfl rfl ?_
  refine go_get (pc := 150) X (fk := 4) (fi := 4) rfl sh6 rfl inT_X6 (by decide) fL_X6_28 rfl dX6_read_150 ?_
  exact go_iret (pc := 153) X h dX6_read_153
set_option maxRecDepth 100000 in
set_option maxHeartbeats 4000000 in
theorem ct_X4_seek {l : Launch} {D : va_G} {cI cB : ClassId} {Z : (Nat → Nat) × (Nat → Nat)} {ad : Nat → Nat} {S : Mem} {a1 : Int} {S' : Mem} (h : f_X4_seek S a1 = some S') : Ctr l D cI cB Z ad shsC yX4_seek cX4_seek 2 none 0 0 [.ref (ad 36), .int (i32 a1)] S (none) S' := by
  refine ctr_of (by decide +kernel) (Nat.le_of_ble_eq_true rfl) rfl ?_
  intro p e s m args below meth c A X
  unfold f_X4_seek at h
  refine go_aload_n (pc := 0) X 0 dX4_seek_0 rfl rfl ?_
  refine go_iload_n (pc := 1) X 1 dX4_seek_1 rfl rfl ?_
  obtain ⟨S1, e2, h⟩ := wrk_some h
  refine go_putE (pc := 2) X (fk := 0) (fi := 0) rfl e2 sh4 rfl inT_X4 tyX4_ok nmX4 (by decide) fL_X4_9 rfl rfl rfl rfl rfl dX4_seek_2 ?_
  refine go_aload_n (pc := 5) X 0 dX4_seek_5 rfl rfl ?_
  refine go_iconst (pc := 6) X dX4_seek_6 ?_
  obtain ⟨S3, e4, h⟩ := wrk_some h
  refine go_putE (pc := 7) X (fk := 1) (fi := 1) rfl e4 sh4 rfl inT_X4 tyX4_ok nmX4 (by decide) fL_X4_15 rfl rfl rfl rfl rfl dX4_seek_7 ?_
  refine go_aload_n (pc := 10) X 0 dX4_seek_10 rfl rfl ?_
  refine go_bipush (pc := 11) X dX4_seek_11 (by decide) (by decide) ?_
  obtain ⟨S5, e6, h⟩ := wrk_some h
  refine go_putE (pc := 13) X (fk := 2) (fi := 2) rfl e6 sh4 rfl inT_X4 tyX4_ok nmX4 (by decide) fL_X4_18 rfl rfl rfl rfl rfl dX4_seek_13 ?_
  exact go_vret (pc := 16) X h dX4_seek_16
set_option maxRecDepth 100000 in
set_option maxHeartbeats 4000000 in
theorem ct_X4_sign {l : Launch} {D : va_G} {cI cB : ClassId} {Z : (Nat → Nat) × (Nat → Nat)} {ad : Nat → Nat} {S : Mem} {a1 : Int} {S' : Mem} (h : f_X4_sign S a1 = some S') : Ctr l D cI cB Z ad shsC yX4_sign cX4_sign 2 none 0 0 [.ref (ad 36), .int (i32 a1)] S (none) S' := by
  refine ctr_of (by decide +kernel) (Nat.le_of_ble_eq_true rfl) rfl ?_
  intro p e s m args below meth c A X
  unfold f_X4_sign at h
  refine go_aload_n (pc := 0) X 0 dX4_sign_0 rfl rfl ?_
  refine go_get (pc := 1) X (fk := 1) (fi := 1) rfl sh4 rfl inT_X4 (by decide) fL_X4_15 rfl dX4_sign_1 ?_
  refine go_aload_n (pc := 4) X 0 dX4_sign_4 rfl rfl ?_
  refine go_get (pc := 5) X (fk := 0) (fi := 0) rfl sh4 rfl inT_X4 (by decide) fL_X4_9 rfl dX4_sign_5 ?_
  obtain ⟨j1, h2, h⟩ := bind_some h
  have k3 : Go p l e { frames := 0, cells := 0, slots := 0, locals := 0 } s m args below meth c 2 D cI cB ad shsC A (MQ below (cQ D cI cB ad shsC (none) S' A) args s 0 0 A) 16 [(0, .ref (ad 36))] [] j1 := by
    refine go_aload_n (pc := 16) X 0 dX4_sign_16 rfl rfl ?_
    refine go_dup (pc := 17) X dX4_sign_17 rfl ?_
    refine go_get (pc := 18) X (fk := 1) (fi := 1) rfl sh4 rfl inT_X4 (by decide) fL_X4_15 rfl dX4_sign_18 ?_
    refine go_iconst (pc := 21) X dX4_sign_21 ?_
    refine go_iadd (pc := 22) X dX4_sign_22 ?_
    obtain ⟨S4, e5, h⟩ := wrk_some h
    refine go_putE (pc := 23) X (fk := 1) (fi := 1) rfl e5 sh4 rfl inT_X4 tyX4_ok nmX4 (by decide) fL_X4_15 rfl rfl rfl rfl rfl dX4_sign_23 ?_
    exact go_vret (pc := 26) X h dX4_sign_26
  refine go_icmp_ne (pc := 8) X 16 dX4_sign_8 rfl (fun c6 => ?_) (fun c6 => ?_)
  · rw [if_neg c6] at h2
    cases h2
    refine go_pick [0] (Ls' := [(0, .ref (ad 36))]) rfl ?_
    exact k3
  · rw [if_pos c6] at h2
    refine go_aload_n (pc := 11) X 0 dX4_sign_11 rfl rfl ?_
    refine go_iload_n (pc := 12) X 1 dX4_sign_12 rfl rfl ?_
    obtain ⟨S7, e8, h2⟩ := wrk_some h2
    refine go_putE (pc := 13) X (fk := 2) (fi := 2) rfl e8 sh4 rfl inT_X4 tyX4_ok nmX4 (by decide) fL_X4_18 rfl rfl rfl rfl rfl dX4_sign_13 ?_
    cases h2
    refine go_pick [0] (Ls' := [(0, .ref (ad 36))]) rfl ?_
    exact k3
set_option maxRecDepth 100000 in
set_option maxHeartbeats 4000000 in
theorem ct_X4_letters {l : Launch} {D : va_G} {cI cB : ClassId} {Z : (Nat → Nat) × (Nat → Nat)} {ad : Nat → Nat} {S : Mem} {k1 : Nat} {S' : Mem} (hk1 : k1 < 14) (h : f_X4_letters S k1 = some S') : Ctr l D cI cB Z ad shsC yX4_letters cX4_letters 3 none 4 89 [.ref (ad 36), .ref (Z.1 k1)] S (none) S' := by
  refine ctr_of (by decide +kernel) (Nat.le_of_ble_eq_true rfl) rfl ?_
  intro p e s m args below meth c A X
  unfold f_X4_letters at h
  refine go_iconst (pc := 0) X dX4_letters_0 ?_
  refine go_istore_n (pc := 1) X [1, 2, 0] (Ls' := [(0, .ref (ad 36)), (1, .ref (Z.1 k1)), (2, .int (i32 0))]) dX4_letters_1 rfl (by decide) rfl ?_
  obtain ⟨r5, h6, h⟩ := bind_some h
  have H7 : ∀ (n : Nat) (t8 : Int × Mem) (z9 : Mem), lp (f_X4_letters_l2 k1) n t8 = some z9 → Go p l e { frames := 4, cells := 0, slots := 0, locals := 89 } s m args below meth c 3 D cI cB ad shsC A (MQ below (cQ D cI cB ad shsC (none) S' A) args s 0 0 A) 25 [] [] z9 → Go p l e { frames := 4, cells := 0, slots := 0, locals := 89 } s m args below meth c 3 D cI cB ad shsC A (MQ below (cQ D cI cB ad shsC (none) S' A) args s 0 0 A) 2 [(0, .ref (ad 36)), (1, .ref (Z.1 k1)), (2, .int (i32 t8.1))] [] t8.2 := by
    refine lp_go (fun t8 : Int × Mem => Go p l e { frames := 4, cells := 0, slots := 0, locals := 89 } s m args below meth c 3 D cI cB ad shsC A (MQ below (cQ D cI cB ad shsC (none) S' A) args s 0 0 A) 2 [(0, .ref (ad 36)), (1, .ref (Z.1 k1)), (2, .int (i32 t8.1))] [] t8.2) (fun z9 : Mem => Go p l e { frames := 4, cells := 0, slots := 0, locals := 89 } s m args below meth c 3 D cI cB ad shsC A (MQ below (cQ D cI cB ad shsC (none) S' A) args s 0 0 A) 25 [] [] z9) ?_
    intro t8 x10 h hx11
    unfold f_X4_letters_l2 at h
    refine go_iload_n (pc := 2) X 2 dX4_letters_2 rfl rfl ?_
    refine go_aload_n (pc := 3) X 1 dX4_letters_3 rfl rfl ?_
    refine go_callT (pc := 4) X 0 k1 [.int (i32 t8.1)] (ct_slen hk1) hk1 gg_X4_32 hd_J0_length_8abf5 ⟨Nat.le_of_ble_eq_true rfl, Nat.le_of_ble_eq_true rfl⟩ rfl rfl (Nat.le_of_ble_eq_true rfl) dX4_letters_4 ?_
    refine go_icmp_ge (pc := 7) X 25 dX4_letters_7 rfl (fun c13 => ?_) (fun c13 => ?_)
    · rw [if_neg c13] at h
      refine go_pick [] (Ls' := []) rfl ?_
      exact lp_back h hx11
    · rw [if_pos c13] at h
      refine go_aload_n (pc := 10) X 0 dX4_letters_10 rfl rfl ?_
      refine go_aload_n (pc := 11) X 1 dX4_letters_11 rfl rfl ?_
      refine go_iload_n (pc := 12) X 2 dX4_letters_12 rfl rfl ?_
      obtain ⟨g14, h⟩ := gd_some h
      refine go_callT (pc := 13) X 1 k1 [.ref (ad 36)] (ct_schar hk1 g14) hk1 gg_X4_38 hd_J0_charAt_5068e ⟨Nat.le_of_ble_eq_true rfl, Nat.le_of_ble_eq_true rfl⟩ rfl rfl (Nat.le_of_ble_eq_true rfl) dX4_letters_13 ?_
      obtain ⟨S15, h16, h⟩ := bind_some h
      refine go_callVv (pc := 16) X 1 [] (ct_X4_sign h16) sh4 rfl gg_X4_29 hd_X4_sign ⟨Nat.le_of_ble_eq_true rfl, Nat.le_of_ble_eq_true rfl⟩ rfl rfl (Nat.le_of_ble_eq_true rfl) dX4_letters_16 ?_
      refine go_iinc (pc := 19) X [1, 2, 0] 2 (Ls' := [(0, .ref (ad 36)), (1, .ref (Z.1 k1)), (2, .int (i32 (t8.1 + 1)))]) dX4_letters_19 rfl (by decide) rfl ?_
      refine go_goto (pc := 22) X 2 dX4_letters_22 rfl ?_
      exact lp_back h hx11
  refine H7 FU (0, S) r5 h6 ?_
  exact go_vret (pc := 25) X h dX4_letters_25
set_option maxRecDepth 100000 in
set_option maxHeartbeats 4000000 in
theorem ct_X4_number {l : Launch} {D : va_G} {cI cB : ClassId} {Z : (Nat → Nat) × (Nat → Nat)} {ad : Nat → Nat} {S : Mem} {a1 : Int} {S' : Mem} (h : f_X4_number S a1 = some S') : Ctr l D cI cB Z ad shsC yX4_number cX4_number 4 none 1 21 [.ref (ad 36), .int (i32 a1)] S (none) S' := by
  refine ctr_of (by decide +kernel) (Nat.le_of_ble_eq_true rfl) rfl ?_
  intro p e s m args below meth c A X
  unfold f_X4_number at h
  refine go_iconst (pc := 0) X dX4_number_0 ?_
  refine go_istore_n (pc := 1) X [1, 2, 0] (Ls' := [(0, .ref (ad 36)), (1, .int (i32 a1)), (2, .int (i32 1))]) dX4_number_1 rfl (by decide) rfl ?_
  refine go_iconst (pc := 2) X dX4_number_2 ?_
  refine go_istore_n (pc := 3) X [1, 2, 3, 0] (Ls' := [(0, .ref (ad 36)), (1, .int (i32 a1)), (2, .int (i32 1)), (3, .int (i32 1))]) dX4_number_3 rfl (by decide) rfl ?_
  obtain ⟨r4, h5, h⟩ := bind_some h
  have H6 : ∀ (n : Nat) (t7 : Int × Int) (z8 : Int), lp (f_X4_number_l4 S a1) n t7 = some z8 → Go p l e { frames := 1, cells := 0, slots := 0, locals := 21 } s m args below meth c 4 D cI cB ad shsC A (MQ below (cQ D cI cB ad shsC (none) S' A) args s 0 0 A) 29 [(0, .ref (ad 36)), (1, .int (i32 a1)), (2, .int (i32 z8))] [] S → Go p l e { frames := 1, cells := 0, slots := 0, locals := 21 } s m args below meth c 4 D cI cB ad shsC A (MQ below (cQ D cI cB ad shsC (none) S' A) args s 0 0 A) 4 [(0, .ref (ad 36)), (1, .int (i32 a1)), (2, .int (i32 t7.1)), (3, .int (i32 t7.2))] [] S := by
    refine lp_go (fun t7 : Int × Int => Go p l e { frames := 1, cells := 0, slots := 0, locals := 21 } s m args below meth c 4 D cI cB ad shsC A (MQ below (cQ D cI cB ad shsC (none) S' A) args s 0 0 A) 4 [(0, .ref (ad 36)), (1, .int (i32 a1)), (2, .int (i32 t7.1)), (3, .int (i32 t7.2))] [] S) (fun z8 : Int => Go p l e { frames := 1, cells := 0, slots := 0, locals := 21 } s m args below meth c 4 D cI cB ad shsC A (MQ below (cQ D cI cB ad shsC (none) S' A) args s 0 0 A) 29 [(0, .ref (ad 36)), (1, .int (i32 a1)), (2, .int (i32 z8))] [] S) ?_
    intro t7 x9 h hx10
    unfold f_X4_number_l4 at h
    refine go_iload_n (pc := 4) X 3 dX4_number_4 rfl rfl ?_
    refine go_bipush (pc := 5) X dX4_number_5 (by decide) (by decide) ?_
    refine go_icmp_ge (pc := 7) X 29 dX4_number_7 rfl (fun c12 => ?_) (fun c12 => ?_)
    · rw [if_neg c12] at h
      refine go_pick [0, 1, 2] (Ls' := [(0, .ref (ad 36)), (1, .int (i32 a1)), (2, .int (i32 t7.1))]) rfl ?_
      exact lp_back h hx10
    · rw [if_pos c12] at h
      refine go_iload_n (pc := 10) X 1 dX4_number_10 rfl rfl ?_
      refine go_iload_n (pc := 11) X 2 dX4_number_11 rfl rfl ?_
      obtain ⟨g13, h⟩ := gd_some h
      refine go_idiv (pc := 12) X dX4_number_12 g13 ?_
      refine go_bipush (pc := 13) X dX4_number_13 (by decide) (by decide) ?_
      refine go_icmp_lt (pc := 15) X 29 dX4_number_15 rfl (fun c14 => ?_) (fun c14 => ?_)
      · rw [if_pos c14] at h
        refine go_pick [0, 1, 2] (Ls' := [(0, .ref (ad 36)), (1, .int (i32 a1)), (2, .int (i32 t7.1))]) rfl ?_
        exact lp_back h hx10
      · rw [if_neg c14] at h
        refine go_iload_n (pc := 18) X 2 dX4_number_18 rfl rfl ?_
        refine go_bipush (pc := 19) X dX4_number_19 (by decide) (by decide) ?_
        refine go_imul (pc := 21) X dX4_number_21 ?_
        refine go_istore_n (pc := 22) X [1, 2, 0, 3] (Ls' := [(0, .ref (ad 36)), (1, .int (i32 a1)), (2, .int (i32 (t7.1 * 10))), (3, .int (i32 t7.2))]) dX4_number_22 rfl (by decide) rfl ?_
        refine go_iinc (pc := 23) X [1, 2, 3, 0] 3 (Ls' := [(0, .ref (ad 36)), (1, .int (i32 a1)), (2, .int (i32 (t7.1 * 10))), (3, .int (i32 (t7.2 + 1)))]) dX4_number_23 rfl (by decide) rfl ?_
        refine go_goto (pc := 26) X 4 dX4_number_26 rfl ?_
        exact lp_back h hx10
  refine H6 FU (1, 1) r4 h5 ?_
  obtain ⟨r19, h20, h⟩ := bind_some h
  have H21 : ∀ (n : Nat) (t22 : Int × Mem) (z23 : Mem), lp (f_X4_number_l29 a1) n t22 = some z23 → Go p l e { frames := 1, cells := 0, slots := 0, locals := 21 } s m args below meth c 4 D cI cB ad shsC A (MQ below (cQ D cI cB ad shsC (none) S' A) args s 0 0 A) 55 [] [] z23 → Go p l e { frames := 1, cells := 0, slots := 0, locals := 21 } s m args below meth c 4 D cI cB ad shsC A (MQ below (cQ D cI cB ad shsC (none) S' A) args s 0 0 A) 29 [(0, .ref (ad 36)), (1, .int (i32 a1)), (2, .int (i32 t22.1))] [] t22.2 := by
    refine lp_go (fun t22 : Int × Mem => Go p l e { frames := 1, cells := 0, slots := 0, locals := 21 } s m args below meth c 4 D cI cB ad shsC A (MQ below (cQ D cI cB ad shsC (none) S' A) args s 0 0 A) 29 [(0, .ref (ad 36)), (1, .int (i32 a1)), (2, .int (i32 t22.1))] [] t22.2) (fun z23 : Mem => Go p l e { frames := 1, cells := 0, slots := 0, locals := 21 } s m args below meth c 4 D cI cB ad shsC A (MQ below (cQ D cI cB ad shsC (none) S' A) args s 0 0 A) 55 [] [] z23) ?_
    intro t22 x24 h hx25
    unfold f_X4_number_l29 at h
    refine go_iload_n (pc := 29) X 2 dX4_number_29 rfl rfl ?_
    refine go_iconst (pc := 30) X dX4_number_30 ?_
    refine go_icmp_lt (pc := 31) X 55 dX4_number_31 rfl (fun c27 => ?_) (fun c27 => ?_)
    · rw [if_pos c27] at h
      refine go_pick [] (Ls' := []) rfl ?_
      exact lp_back h hx25
    · rw [if_neg c27] at h
      refine go_aload_n (pc := 34) X 0 dX4_number_34 rfl rfl ?_
      refine go_bipush (pc := 35) X dX4_number_35 (by decide) (by decide) ?_
      refine go_iload_n (pc := 37) X 1 dX4_number_37 rfl rfl ?_
      refine go_iload_n (pc := 38) X 2 dX4_number_38 rfl rfl ?_
      obtain ⟨g28, h⟩ := gd_some h
      refine go_idiv (pc := 39) X dX4_number_39 g28 ?_
      refine go_bipush (pc := 40) X dX4_number_40 (by decide) (by decide) ?_
      refine go_irem (pc := 42) X dX4_number_42 rfl ?_
      refine go_iadd (pc := 43) X dX4_number_43 ?_
      obtain ⟨S29, h30, h⟩ := bind_some h
      refine go_callVv (pc := 44) X 1 [] (ct_X4_sign h30) sh4 rfl gg_X4_29 hd_X4_sign ⟨Nat.le_of_ble_eq_true rfl, Nat.le_of_ble_eq_true rfl⟩ rfl rfl (Nat.le_of_ble_eq_true rfl) dX4_number_44 ?_
      refine go_iload_n (pc := 47) X 2 dX4_number_47 rfl rfl ?_
      refine go_bipush (pc := 48) X dX4_number_48 (by decide) (by decide) ?_
      refine go_idiv (pc := 50) X dX4_number_50 rfl ?_
      refine go_istore_n (pc := 51) X [1, 2, 0] (Ls' := [(0, .ref (ad 36)), (1, .int (i32 a1)), (2, .int (i32 (dvb t22.1 10)))]) dX4_number_51 rfl (by decide) rfl ?_
      refine go_goto (pc := 52) X 29 dX4_number_52 rfl ?_
      exact lp_back h hx25
  refine H21 FU (r4, S) r19 h20 ?_
  exact go_vret (pc := 55) X h dX4_number_55
set_option maxRecDepth 100000 in
set_option maxHeartbeats 4000000 in
theorem ct_X4_line {l : Launch} {D : va_G} {cI cB : ClassId} {Z : (Nat → Nat) × (Nat → Nat)} {ad : Nat → Nat} {S : Mem} {k1 : Nat} {a2 : Int} {S' : Mem} (hk1 : k1 < 14) (h : f_X4_line S k1 a2 = some S') : Ctr l D cI cB Z ad shsC yX4_line cX4_line 3 none 5 111 [.ref (ad 36), .ref (Z.1 k1), .int (i32 a2)] S (none) S' := by
  refine ctr_of (by decide +kernel) (Nat.le_of_ble_eq_true rfl) rfl ?_
  intro p e s m args below meth c A X
  unfold f_X4_line at h
  refine go_aload_n (pc := 0) X 0 dX4_line_0 rfl rfl ?_
  refine go_aload_n (pc := 1) X 1 dX4_line_1 rfl rfl ?_
  obtain ⟨S1, h2, h⟩ := bind_some h
  refine go_callVv (pc := 2) X 1 [] (ct_X4_letters hk1 h2) sh4 rfl gg_X4_21 hd_X4_letters ⟨Nat.le_of_ble_eq_true rfl, Nat.le_of_ble_eq_true rfl⟩ rfl rfl (Nat.le_of_ble_eq_true rfl) dX4_line_2 ?_
  refine go_aload_n (pc := 5) X 0 dX4_line_5 rfl rfl ?_
  refine go_iload_n (pc := 6) X 2 dX4_line_6 rfl rfl ?_
  obtain ⟨S3, h4, h⟩ := bind_some h
  refine go_callVv (pc := 7) X 1 [] (ct_X4_number h4) sh4 rfl gg_X4_25 hd_X4_number ⟨Nat.le_of_ble_eq_true rfl, Nat.le_of_ble_eq_true rfl⟩ rfl rfl (Nat.le_of_ble_eq_true rfl) dX4_line_7 ?_
  refine go_aload_n (pc := 10) X 0 dX4_line_10 rfl rfl ?_
  refine go_bipush (pc := 11) X dX4_line_11 (by decide) (by decide) ?_
  obtain ⟨S5, h6, h⟩ := bind_some h
  refine go_callVv (pc := 13) X 1 [] (ct_X4_sign h6) sh4 rfl gg_X4_29 hd_X4_sign ⟨Nat.le_of_ble_eq_true rfl, Nat.le_of_ble_eq_true rfl⟩ rfl rfl (Nat.le_of_ble_eq_true rfl) dX4_line_13 ?_
  exact go_vret (pc := 16) X h dX4_line_16
set_option maxRecDepth 100000 in
set_option maxHeartbeats 4000000 in
theorem ct_X4_answer {l : Launch} {D : va_G} {cI cB : ClassId} {Z : (Nat → Nat) × (Nat → Nat)} {ad : Nat → Nat} {S : Mem} {r : Int} (h : f_X4_answer S = some r) : Ctr l D cI cB Z ad shsC yX4_answer cX4_answer 1 (some .int) 0 0 [.ref (ad 36)] S (some (.int (i32 r))) S := by
  refine ctr_of (by decide +kernel) (Nat.le_of_ble_eq_true rfl) rfl ?_
  intro p e s m args below meth c A X
  unfold f_X4_answer at h
  refine go_aload_n (pc := 0) X 0 dX4_answer_0 rfl rfl ?_
  refine go_get (pc := 1) X (fk := 0) (fi := 0) rfl sh4 rfl inT_X4 (by decide) fL_X4_9 rfl dX4_answer_1 ?_
  refine go_iconst (pc := 4) X dX4_answer_4 ?_
  refine go_icmp_ne (pc := 5) X 15 dX4_answer_5 rfl (fun c1 => ?_) (fun c1 => ?_)
  · rw [if_neg c1] at h
    refine go_aload_n (pc := 15) X 0 dX4_answer_15 rfl rfl ?_
    refine go_get (pc := 16) X (fk := 2) (fi := 2) rfl sh4 rfl inT_X4 (by decide) fL_X4_18 rfl dX4_answer_16 ?_
    exact go_iretP (pc := 19) X h dX4_answer_19
  · rw [if_pos c1] at h
    refine go_aload_n (pc := 8) X 0 dX4_answer_8 rfl rfl ?_
    refine go_get (pc := 9) X (fk := 1) (fi := 1) rfl sh4 rfl inT_X4 (by decide) fL_X4_15 rfl dX4_answer_9 ?_
    refine go_goto (pc := 12) X 19 dX4_answer_12 rfl ?_
    exact go_iretP (pc := 19) X h dX4_answer_19
