set_option maxRecDepth 100000 in
set_option maxHeartbeats 4000000 in
theorem ct_X1_restart {l : Launch} {D : va_G} {cI cB : ClassId} {Z : (Nat → Nat) × (Nat → Nat)} {ad : Nat → Nat} {S : Mem} {th : Nat} {S' : Mem} (ho : isBk th) (h : f_X1_restart S th = some S') : Ctr l D cI cB Z ad shsC yX1_restart cX1_restart 1 none 0 0 [.ref (ad th)] S (none) S' := by
  refine ctr_of (by decide +kernel) (Nat.le_of_ble_eq_true rfl) rfl ?_
  intro p e s m args below meth c A X
  unfold f_X1_restart at h
  refine go_aload_n (pc := 0) X 0 dX1_restart_0 rfl rfl ?_
  refine go_bipush (pc := 1) X dX1_restart_1 (by decide) (by decide) ?_
  obtain ⟨S1, e2, h⟩ := wrk_some h
  refine go_putE (pc := 3) X (fk := 0) (fi := 0) rfl e2 (shB ho) rfl inT_X1 tyX1_ok nmX1 (by decide) fL_X1_9 rfl rfl rfl rfl rfl dX1_restart_3 ?_
  refine go_aload_n (pc := 6) X 0 dX1_restart_6 rfl rfl ?_
  refine go_iconst (pc := 7) X dX1_restart_7 ?_
  obtain ⟨S3, e4, h⟩ := wrk_some h
  refine go_putE (pc := 8) X (fk := 1) (fi := 1) rfl e4 (shB ho) rfl inT_X1 tyX1_ok nmX1 (by decide) fL_X1_15 rfl rfl rfl rfl rfl dX1_restart_8 ?_
  refine go_aload_n (pc := 11) X 0 dX1_restart_11 rfl rfl ?_
  refine go_iconst (pc := 12) X dX1_restart_12 ?_
  obtain ⟨S5, e6, h⟩ := wrk_some h
  refine go_putE (pc := 13) X (fk := 2) (fi := 2) rfl e6 (shB ho) rfl inT_X1 tyX1_ok nmX1 (by decide) fL_X1_18 rfl rfl rfl rfl rfl dX1_restart_13 ?_
  exact go_vret (pc := 16) X h dX1_restart_16
set_option maxRecDepth 100000 in
set_option maxHeartbeats 4000000 in
theorem ct_X1_addBidder {l : Launch} {D : va_G} {cI cB : ClassId} {Z : (Nat → Nat) × (Nat → Nat)} {ad : Nat → Nat} {S : Mem} {th : Nat} {r : Int} {S' : Mem} (ho : isBk th) (h : f_X1_addBidder S th = some (r, S')) : Ctr l D cI cB Z ad shsC yX1_addBidder cX1_addBidder 2 (some .int) 0 0 [.ref (ad th)] S (some (.int (i32 r))) S' := by
  refine ctr_of (by decide +kernel) (Nat.le_of_ble_eq_true rfl) rfl ?_
  intro p e s m args below meth c A X
  unfold f_X1_addBidder at h
  refine go_aload_n (pc := 0) X 0 dX1_addBidder_0 rfl rfl ?_
  refine go_get (pc := 1) X (fk := 2) (fi := 2) rfl (shB ho) rfl inT_X1 (by decide) fL_X1_18 rfl dX1_addBidder_1 ?_
  refine go_istore_n (pc := 4) X [1, 0] (Ls' := [(0, .ref (ad th)), (1, .int (i32 (S th 2)))]) dX1_addBidder_4 rfl (by decide) rfl ?_
  refine go_aload_n (pc := 5) X 0 dX1_addBidder_5 rfl rfl ?_
  refine go_getr (pc := 6) X (fk := 3) (shB ho) rfl inT_X1 (by decide) fL_X1_21 rfl dX1_addBidder_6 ?_
  refine go_iload_n (pc := 9) X 1 dX1_addBidder_9 rfl rfl ?_
  refine go_iconst (pc := 10) X dX1_addBidder_10 ?_
  obtain ⟨g1, h⟩ := gd_some h
  obtain ⟨S2, e3, h⟩ := wrk_some h
  refine go_iastE (pc := 11) X e3 (shB1 ho) (Nat.le_of_ble_eq_true rfl) rfl g1 dX1_addBidder_11 ?_
  refine go_aload_n (pc := 12) X 0 dX1_addBidder_12 rfl rfl ?_
  refine go_getr (pc := 13) X (fk := 4) (shB ho) rfl inT_X1 (by decide) fL_X1_25 rfl dX1_addBidder_13 ?_
  refine go_iload_n (pc := 16) X 1 dX1_addBidder_16 rfl rfl ?_
  refine go_bipush (pc := 17) X dX1_addBidder_17 (by decide) (by decide) ?_
  obtain ⟨S4, e5, h⟩ := wrk_some h
  refine go_iastE (pc := 19) X e5 (shB2 ho) (Nat.le_of_ble_eq_true rfl) rfl g1 dX1_addBidder_19 ?_
  refine go_aload_n (pc := 20) X 0 dX1_addBidder_20 rfl rfl ?_
  refine go_dup (pc := 21) X dX1_addBidder_21 rfl ?_
  refine go_get (pc := 22) X (fk := 2) (fi := 2) rfl (shB ho) rfl inT_X1 (by decide) fL_X1_18 rfl dX1_addBidder_22 ?_
  refine go_iconst (pc := 25) X dX1_addBidder_25 ?_
  refine go_iadd (pc := 26) X dX1_addBidder_26 ?_
  obtain ⟨S6, e7, h⟩ := wrk_some h
  refine go_putE (pc := 27) X (fk := 2) (fi := 2) rfl e7 (shB ho) rfl inT_X1 tyX1_ok nmX1 (by decide) fL_X1_18 rfl rfl rfl rfl rfl dX1_addBidder_27 ?_
  refine go_iload_n (pc := 30) X 1 dX1_addBidder_30 rfl rfl ?_
  exact go_iret (pc := 31) X h dX1_addBidder_31
set_option maxRecDepth 100000 in
set_option maxHeartbeats 4000000 in
theorem ct_X1_insertValue {l : Launch} {D : va_G} {cI cB : ClassId} {Z : (Nat → Nat) × (Nat → Nat)} {ad : Nat → Nat} {S : Mem} {th : Nat} {a1 : Int} {a2 : Int} {S' : Mem} (ho : isBk th) (h : f_X1_insertValue S th a1 a2 = some S') : Ctr l D cI cB Z ad shsC yX1_insertValue cX1_insertValue 5 none 1 21 [.ref (ad th), .int (i32 a1), .int (i32 a2)] S (none) S' := by
  refine ctr_of (by decide +kernel) (Nat.le_of_ble_eq_true rfl) rfl ?_
  intro p e s m args below meth c A X
  unfold f_X1_insertValue at h
  refine go_iload_n (pc := 0) X 1 dX1_insertValue_0 rfl rfl ?_
  refine go_bipush (pc := 1) X dX1_insertValue_1 (by decide) (by decide) ?_
  refine go_imul (pc := 3) X dX1_insertValue_3 ?_
  refine go_istore_n (pc := 4) X [1, 2, 3, 0] (Ls' := [(0, .ref (ad th)), (1, .int (i32 a1)), (2, .int (i32 a2)), (3, .int (i32 (a1 * 8)))]) dX1_insertValue_4 rfl (by decide) rfl ?_
  refine go_aload_n (pc := 5) X 0 dX1_insertValue_5 rfl rfl ?_
  refine go_getr (pc := 6) X (fk := 3) (shB ho) rfl inT_X1 (by decide) fL_X1_21 rfl dX1_insertValue_6 ?_
  refine go_iload_n (pc := 9) X 1 dX1_insertValue_9 rfl rfl ?_
  obtain ⟨g1, h⟩ := gd_some h
  refine go_iald (pc := 10) X (shB1 ho) (Nat.le_of_ble_eq_true rfl) rfl g1 dX1_insertValue_10 ?_
  refine go_bipush (pc := 11) X dX1_insertValue_11 (by decide) (by decide) ?_
  refine go_mmin (pc := 13) X mL_X1_63 (Nat.le_of_ble_eq_true rfl) (Nat.le_of_ble_eq_true rfl) dX1_insertValue_13 ?_
  refine go_istore (pc := 16) X [1, 2, 3, 4, 0] (Ls' := [(0, .ref (ad th)), (1, .int (i32 a1)), (2, .int (i32 a2)), (3, .int (i32 (a1 * 8))), (4, .int (i32 (mnb (S (th + 1) a1) 7)))]) dX1_insertValue_16 (by decide) rfl ?_
  refine go_aload_n (pc := 18) X 0 dX1_insertValue_18 rfl rfl ?_
  refine go_getr (pc := 19) X (fk := 3) (shB ho) rfl inT_X1 (by decide) fL_X1_21 rfl dX1_insertValue_19 ?_
  refine go_iload_n (pc := 22) X 1 dX1_insertValue_22 rfl rfl ?_
  refine go_iald (pc := 23) X (shB1 ho) (Nat.le_of_ble_eq_true rfl) rfl g1 dX1_insertValue_23 ?_
  refine go_bipush (pc := 24) X dX1_insertValue_24 (by decide) (by decide) ?_
  refine go_icmp_lt (pc := 26) X 43 dX1_insertValue_26 rfl (fun c2 => ?_) (fun c2 => ?_)
  · rw [if_pos c2] at h
    obtain ⟨r9, h10, h⟩ := bind_some h
    have H11 : ∀ (n : Nat) (t12 : Int × Mem) (z13 : Int × Mem), lp (f_X1_insertValue_l43 th a1 a2 (a1 * 8)) n t12 = some z13 → Go p l e { frames := 1, cells := 0, slots := 0, locals := 21 } s m args below meth c 5 D cI cB ad shsC A (MQ below (cQ D cI cB ad shsC (none) S' A) args s 0 0 A) 89 [(0, .ref (ad th)), (1, .int (i32 a1)), (2, .int (i32 a2)), (3, .int (i32 (a1 * 8))), (4, .int (i32 z13.1))] [] z13.2 → Go p l e { frames := 1, cells := 0, slots := 0, locals := 21 } s m args below meth c 5 D cI cB ad shsC A (MQ below (cQ D cI cB ad shsC (none) S' A) args s 0 0 A) 43 [(0, .ref (ad th)), (1, .int (i32 a1)), (2, .int (i32 a2)), (3, .int (i32 (a1 * 8))), (4, .int (i32 t12.1))] [] t12.2 := by
      refine lp_go (fun t12 : Int × Mem => Go p l e { frames := 1, cells := 0, slots := 0, locals := 21 } s m args below meth c 5 D cI cB ad shsC A (MQ below (cQ D cI cB ad shsC (none) S' A) args s 0 0 A) 43 [(0, .ref (ad th)), (1, .int (i32 a1)), (2, .int (i32 a2)), (3, .int (i32 (a1 * 8))), (4, .int (i32 t12.1))] [] t12.2) (fun z13 : Int × Mem => Go p l e { frames := 1, cells := 0, slots := 0, locals := 21 } s m args below meth c 5 D cI cB ad shsC A (MQ below (cQ D cI cB ad shsC (none) S' A) args s 0 0 A) 89 [(0, .ref (ad th)), (1, .int (i32 a1)), (2, .int (i32 a2)), (3, .int (i32 (a1 * 8))), (4, .int (i32 z13.1))] [] z13.2) ?_
      intro t12 x14 h hx15
      unfold f_X1_insertValue_l43 at h
      refine go_iload (pc := 43) X 4 dX1_insertValue_43 rfl ?_
      refine go_if_le (pc := 45) X 89 dX1_insertValue_45 rfl (fun c17 => ?_) (fun c17 => ?_)
      · rw [if_neg c17] at h
        exact lp_back h hx15
      · rw [if_pos c17] at h
        refine go_aload_n (pc := 48) X 0 dX1_insertValue_48 rfl rfl ?_
        refine go_getr (pc := 49) X (fk := 5) (shB ho) rfl inT_X1 (by decide) fL_X1_28 rfl dX1_insertValue_49 ?_
        refine go_iload_n (pc := 52) X 3 dX1_insertValue_52 rfl rfl ?_
        refine go_iload (pc := 53) X 4 dX1_insertValue_53 rfl ?_
        refine go_iadd (pc := 55) X dX1_insertValue_55 ?_
        refine go_iconst (pc := 56) X dX1_insertValue_56 ?_
        refine go_isub (pc := 57) X dX1_insertValue_57 ?_
        obtain ⟨g18, h⟩ := gd_some h
        refine go_iald (pc := 58) X (shB3 ho) (Nat.le_of_ble_eq_true rfl) rfl g18 dX1_insertValue_58 ?_
        refine go_iload_n (pc := 59) X 2 dX1_insertValue_59 rfl rfl ?_
        refine go_icmp_ge (pc := 60) X 89 dX1_insertValue_60 rfl (fun c19 => ?_) (fun c19 => ?_)
        · rw [if_neg c19] at h
          exact lp_back h hx15
        · rw [if_pos c19] at h
          refine go_aload_n (pc := 63) X 0 dX1_insertValue_63 rfl rfl ?_
          refine go_getr (pc := 64) X (fk := 5) (shB ho) rfl inT_X1 (by decide) fL_X1_28 rfl dX1_insertValue_64 ?_
          refine go_iload_n (pc := 67) X 3 dX1_insertValue_67 rfl rfl ?_
          refine go_iload (pc := 68) X 4 dX1_insertValue_68 rfl ?_
          refine go_iadd (pc := 70) X dX1_insertValue_70 ?_
          refine go_aload_n (pc := 71) X 0 dX1_insertValue_71 rfl rfl ?_
          refine go_getr (pc := 72) X (fk := 5) (shB ho) rfl inT_X1 (by decide) fL_X1_28 rfl dX1_insertValue_72 ?_
          refine go_iload_n (pc := 75) X 3 dX1_insertValue_75 rfl rfl ?_
          refine go_iload (pc := 76) X 4 dX1_insertValue_76 rfl ?_
          refine go_iadd (pc := 78) X dX1_insertValue_78 ?_
          refine go_iconst (pc := 79) X dX1_insertValue_79 ?_
          refine go_isub (pc := 80) X dX1_insertValue_80 ?_
          refine go_iald (pc := 81) X (shB3 ho) (Nat.le_of_ble_eq_true rfl) rfl g18 dX1_insertValue_81 ?_
          obtain ⟨g20, h⟩ := gd_some h
          obtain ⟨S21, e22, h⟩ := wrk_some h
          refine go_iastE (pc := 82) X e22 (shB3 ho) (Nat.le_of_ble_eq_true rfl) rfl g20 dX1_insertValue_82 ?_
          refine go_iinc (pc := 83) X [1, 2, 3, 4, 0] 4 (Ls' := [(0, .ref (ad th)), (1, .int (i32 a1)), (2, .int (i32 a2)), (3, .int (i32 (a1 * 8))), (4, .int (i32 (t12.1 + (-1))))]) dX1_insertValue_83 rfl (by decide) rfl ?_
          refine go_goto (pc := 86) X 43 dX1_insertValue_86 rfl ?_
          exact lp_back h hx15
    refine H11 FU (mnb (S (th + 1) a1) 7, S) r9 h10 ?_
    refine go_aload_n (pc := 89) X 0 dX1_insertValue_89 rfl rfl ?_
    refine go_getr (pc := 90) X (fk := 5) (shB ho) rfl inT_X1 (by decide) fL_X1_28 rfl dX1_insertValue_90 ?_
    refine go_iload_n (pc := 93) X 3 dX1_insertValue_93 rfl rfl ?_
    refine go_iload (pc := 94) X 4 dX1_insertValue_94 rfl ?_
    refine go_iadd (pc := 96) X dX1_insertValue_96 ?_
    refine go_iload_n (pc := 97) X 2 dX1_insertValue_97 rfl rfl ?_
    obtain ⟨g23, h⟩ := gd_some h
    obtain ⟨S24, e25, h⟩ := wrk_some h
    refine go_iastE (pc := 98) X e25 (shB3 ho) (Nat.le_of_ble_eq_true rfl) rfl g23 dX1_insertValue_98 ?_
    refine go_aload_n (pc := 99) X 0 dX1_insertValue_99 rfl rfl ?_
    refine go_getr (pc := 100) X (fk := 3) (shB ho) rfl inT_X1 (by decide) fL_X1_21 rfl dX1_insertValue_100 ?_
    refine go_iload_n (pc := 103) X 1 dX1_insertValue_103 rfl rfl ?_
    refine go_aload_n (pc := 104) X 0 dX1_insertValue_104 rfl rfl ?_
    refine go_getr (pc := 105) X (fk := 3) (shB ho) rfl inT_X1 (by decide) fL_X1_21 rfl dX1_insertValue_105 ?_
    refine go_iload_n (pc := 108) X 1 dX1_insertValue_108 rfl rfl ?_
    obtain ⟨g26, h⟩ := gd_some h
    refine go_iald (pc := 109) X (shB1 ho) (Nat.le_of_ble_eq_true rfl) rfl g26 dX1_insertValue_109 ?_
    refine go_iconst (pc := 110) X dX1_insertValue_110 ?_
    refine go_iadd (pc := 111) X dX1_insertValue_111 ?_
    refine go_bipush (pc := 112) X dX1_insertValue_112 (by decide) (by decide) ?_
    refine go_mmin (pc := 114) X mL_X1_63 (Nat.le_of_ble_eq_true rfl) (Nat.le_of_ble_eq_true rfl) dX1_insertValue_114 ?_
    obtain ⟨S27, e28, h⟩ := wrk_some h
    refine go_iastE (pc := 117) X e28 (shB1 ho) (Nat.le_of_ble_eq_true rfl) rfl g26 dX1_insertValue_117 ?_
    exact go_vret (pc := 118) X h dX1_insertValue_118
  · rw [if_neg c2] at h
    refine go_aload_n (pc := 29) X 0 dX1_insertValue_29 rfl rfl ?_
    refine go_getr (pc := 30) X (fk := 5) (shB ho) rfl inT_X1 (by decide) fL_X1_28 rfl dX1_insertValue_30 ?_
    refine go_iload_n (pc := 33) X 3 dX1_insertValue_33 rfl rfl ?_
    refine go_iload (pc := 34) X 4 dX1_insertValue_34 rfl ?_
    refine go_iadd (pc := 36) X dX1_insertValue_36 ?_
    obtain ⟨g29, h⟩ := gd_some h
    refine go_iald (pc := 37) X (shB3 ho) (Nat.le_of_ble_eq_true rfl) rfl g29 dX1_insertValue_37 ?_
    refine go_iload_n (pc := 38) X 2 dX1_insertValue_38 rfl rfl ?_
    refine go_icmp_lt (pc := 39) X 43 dX1_insertValue_39 rfl (fun c30 => ?_) (fun c30 => ?_)
    · rw [if_pos c30] at h
      obtain ⟨r31, h32, h⟩ := bind_some h
      have H33 : ∀ (n : Nat) (t34 : Int × Mem) (z35 : Int × Mem), lp (f_X1_insertValue_l43 th a1 a2 (a1 * 8)) n t34 = some z35 → Go p l e { frames := 1, cells := 0, slots := 0, locals := 21 } s m args below meth c 5 D cI cB ad shsC A (MQ below (cQ D cI cB ad shsC (none) S' A) args s 0 0 A) 89 [(0, .ref (ad th)), (1, .int (i32 a1)), (2, .int (i32 a2)), (3, .int (i32 (a1 * 8))), (4, .int (i32 z35.1))] [] z35.2 → Go p l e { frames := 1, cells := 0, slots := 0, locals := 21 } s m args below meth c 5 D cI cB ad shsC A (MQ below (cQ D cI cB ad shsC (none) S' A) args s 0 0 A) 43 [(0, .ref (ad th)), (1, .int (i32 a1)), (2, .int (i32 a2)), (3, .int (i32 (a1 * 8))), (4, .int (i32 t34.1))] [] t34.2 := by
        refine lp_go (fun t34 : Int × Mem => Go p l e { frames := 1, cells := 0, slots := 0, locals := 21 } s m args below meth c 5 D cI cB ad shsC A (MQ below (cQ D cI cB ad shsC (none) S' A) args s 0 0 A) 43 [(0, .ref (ad th)), (1, .int (i32 a1)), (2, .int (i32 a2)), (3, .int (i32 (a1 * 8))), (4, .int (i32 t34.1))] [] t34.2) (fun z35 : Int × Mem => Go p l e { frames := 1, cells := 0, slots := 0, locals := 21 } s m args below meth c 5 D cI cB ad shsC A (MQ below (cQ D cI cB ad shsC (none) S' A) args s 0 0 A) 89 [(0, .ref (ad th)), (1, .int (i32 a1)), (2, .int (i32 a2)), (3, .int (i32 (a1 * 8))), (4, .int (i32 z35.1))] [] z35.2) ?_
        intro t34 x36 h hx37
        unfold f_X1_insertValue_l43 at h
        refine go_iload (pc := 43) X 4 dX1_insertValue_43 rfl ?_
        refine go_if_le (pc := 45) X 89 dX1_insertValue_45 rfl (fun c39 => ?_) (fun c39 => ?_)
        · rw [if_neg c39] at h
          exact lp_back h hx37
        · rw [if_pos c39] at h
          refine go_aload_n (pc := 48) X 0 dX1_insertValue_48 rfl rfl ?_
          refine go_getr (pc := 49) X (fk := 5) (shB ho) rfl inT_X1 (by decide) fL_X1_28 rfl dX1_insertValue_49 ?_
          refine go_iload_n (pc := 52) X 3 dX1_insertValue_52 rfl rfl ?_
          refine go_iload (pc := 53) X 4 dX1_insertValue_53 rfl ?_
          refine go_iadd (pc := 55) X dX1_insertValue_55 ?_
          refine go_iconst (pc := 56) X dX1_insertValue_56 ?_
          refine go_isub (pc := 57) X dX1_insertValue_57 ?_
          obtain ⟨g40, h⟩ := gd_some h
          refine go_iald (pc := 58) X (shB3 ho) (Nat.le_of_ble_eq_true rfl) rfl g40 dX1_insertValue_58 ?_
          refine go_iload_n (pc := 59) X 2 dX1_insertValue_59 rfl rfl ?_
          refine go_icmp_ge (pc := 60) X 89 dX1_insertValue_60 rfl (fun c41 => ?_) (fun c41 => ?_)
          · rw [if_neg c41] at h
            exact lp_back h hx37
          · rw [if_pos c41] at h
            refine go_aload_n (pc := 63) X 0 dX1_insertValue_63 rfl rfl ?_
            refine go_getr (pc := 64) X (fk := 5) (shB ho) rfl inT_X1 (by decide) fL_X1_28 rfl dX1_insertValue_64 ?_
            refine go_iload_n (pc := 67) X 3 dX1_insertValue_67 rfl rfl ?_
            refine go_iload (pc := 68) X 4 dX1_insertValue_68 rfl ?_
            refine go_iadd (pc := 70) X dX1_insertValue_70 ?_
            refine go_aload_n (pc := 71) X 0 dX1_insertValue_71 rfl rfl ?_
            refine go_getr (pc := 72) X (fk := 5) (shB ho) rfl inT_X1 (by decide) fL_X1_28 rfl dX1_insertValue_72 ?_
            refine go_iload_n (pc := 75) X 3 dX1_insertValue_75 rfl rfl ?_
            refine go_iload (pc := 76) X 4 dX1_insertValue_76 rfl ?_
            refine go_iadd (pc := 78) X dX1_insertValue_78 ?_
            refine go_iconst (pc := 79) X dX1_insertValue_79 ?_
            refine go_isub (pc := 80) X dX1_insertValue_80 ?_
            refine go_iald (pc := 81) X (shB3 ho) (Nat.le_of_ble_eq_true rfl) rfl g40 dX1_insertValue_81 ?_
            obtain ⟨g42, h⟩ := gd_some h
            obtain ⟨S43, e44, h⟩ := wrk_some h
            refine go_iastE (pc := 82) X e44 (shB3 ho) (Nat.le_of_ble_eq_true rfl) rfl g42 dX1_insertValue_82 ?_
            refine go_iinc (pc := 83) X [1, 2, 3, 4, 0] 4 (Ls' := [(0, .ref (ad th)), (1, .int (i32 a1)), (2, .int (i32 a2)), (3, .int (i32 (a1 * 8))), (4, .int (i32 (t34.1 + (-1))))]) dX1_insertValue_83 rfl (by decide) rfl ?_
            refine go_goto (pc := 86) X 43 dX1_insertValue_86 rfl ?_
            exact lp_back h hx37
      refine H33 FU (mnb (S (th + 1) a1) 7, S) r31 h32 ?_
      refine go_aload_n (pc := 89) X 0 dX1_insertValue_89 rfl rfl ?_
      refine go_getr (pc := 90) X (fk := 5) (shB ho) rfl inT_X1 (by decide) fL_X1_28 rfl dX1_insertValue_90 ?_
      refine go_iload_n (pc := 93) X 3 dX1_insertValue_93 rfl rfl ?_
      refine go_iload (pc := 94) X 4 dX1_insertValue_94 rfl ?_
      refine go_iadd (pc := 96) X dX1_insertValue_96 ?_
      refine go_iload_n (pc := 97) X 2 dX1_insertValue_97 rfl rfl ?_
      obtain ⟨g45, h⟩ := gd_some h
      obtain ⟨S46, e47, h⟩ := wrk_some h
      refine go_iastE (pc := 98) X e47 (shB3 ho) (Nat.le_of_ble_eq_true rfl) rfl g45 dX1_insertValue_98 ?_
      refine go_aload_n (pc := 99) X 0 dX1_insertValue_99 rfl rfl ?_
      refine go_getr (pc := 100) X (fk := 3) (shB ho) rfl inT_X1 (by decide) fL_X1_21 rfl dX1_insertValue_100 ?_
      refine go_iload_n (pc := 103) X 1 dX1_insertValue_103 rfl rfl ?_
      refine go_aload_n (pc := 104) X 0 dX1_insertValue_104 rfl rfl ?_
      refine go_getr (pc := 105) X (fk := 3) (shB ho) rfl inT_X1 (by decide) fL_X1_21 rfl dX1_insertValue_105 ?_
      refine go_iload_n (pc := 108) X 1 dX1_insertValue_108 rfl rfl ?_
      obtain ⟨g48, h⟩ := gd_some h
      refine go_iald (pc := 109) X (shB1 ho) (Nat.le_of_ble_eq_true rfl) rfl g48 dX1_insertValue_109 ?_
      refine go_iconst (pc := 110) X dX1_insertValue_110 ?_
      refine go_iadd (pc := 111) X dX1_insertValue_111 ?_
      refine go_bipush (pc := 112) X dX1_insertValue_112 (by decide) (by decide) ?_
      refine go_mmin (pc := 114) X mL_X1_63 (Nat.le_of_ble_eq_true rfl) (Nat.le_of_ble_eq_true rfl) dX1_insertValue_114 ?_
      obtain ⟨S49, e50, h⟩ := wrk_some h
      refine go_iastE (pc := 117) X e50 (shB1 ho) (Nat.le_of_ble_eq_true rfl) rfl g48 dX1_insertValue_117 ?_
      exact go_vret (pc := 118) X h dX1_insertValue_118
    · rw [if_neg c30] at h
      exact go_vret (pc := 42) X h dX1_insertValue_42
set_option maxRecDepth 100000 in
set_option maxHeartbeats 4000000 in
theorem ct_X1_setLike {l : Launch} {D : va_G} {cI cB : ClassId} {Z : (Nat → Nat) × (Nat → Nat)} {ad : Nat → Nat} {S : Mem} {th : Nat} {a1 : Int} {q2 : Nat} {a3 : Int} {S' : Mem} (ho : isBk th) (ho2 : isBk q2) (h : f_X1_setLike S th a1 q2 a3 = some S') : Ctr l D cI cB Z ad shsC yX1_setLike cX1_setLike 4 none 1 26 [.ref (ad th), .int (i32 a1), .ref (ad q2), .int (i32 a3)] S (none) S' := by
  refine ctr_of (by decide +kernel) (Nat.le_of_ble_eq_true rfl) rfl ?_
  intro p e s m args below meth c A X
  unfold f_X1_setLike at h
  refine go_aload_n (pc := 0) X 0 dX1_setLike_0 rfl rfl ?_
  refine go_getr (pc := 1) X (fk := 3) (shB ho) rfl inT_X1 (by decide) fL_X1_21 rfl dX1_setLike_1 ?_
  refine go_iload_n (pc := 4) X 1 dX1_setLike_4 rfl rfl ?_
  refine go_aload_n (pc := 5) X 2 dX1_setLike_5 rfl rfl ?_
  refine go_getr (pc := 6) X (fk := 3) (shB ho2) rfl inT_X1 (by decide) fL_X1_21 rfl dX1_setLike_6 ?_
  refine go_iload_n (pc := 9) X 3 dX1_setLike_9 rfl rfl ?_
  obtain ⟨g1, h⟩ := gd_some h
  refine go_iald (pc := 10) X (shB1 ho2) (Nat.le_of_ble_eq_true rfl) rfl g1 dX1_setLike_10 ?_
  obtain ⟨g2, h⟩ := gd_some h
  obtain ⟨S3, e4, h⟩ := wrk_some h
  refine go_iastE (pc := 11) X e4 (shB1 ho) (Nat.le_of_ble_eq_true rfl) rfl g2 dX1_setLike_11 ?_
  refine go_aload_n (pc := 12) X 0 dX1_setLike_12 rfl rfl ?_
  refine go_getr (pc := 13) X (fk := 4) (shB ho) rfl inT_X1 (by decide) fL_X1_25 rfl dX1_setLike_13 ?_
  refine go_iload_n (pc := 16) X 1 dX1_setLike_16 rfl rfl ?_
  refine go_aload_n (pc := 17) X 2 dX1_setLike_17 rfl rfl ?_
  refine go_getr (pc := 18) X (fk := 4) (shB ho2) rfl inT_X1 (by decide) fL_X1_25 rfl dX1_setLike_18 ?_
  refine go_iload_n (pc := 21) X 3 dX1_setLike_21 rfl rfl ?_
  refine go_iald (pc := 22) X (shB2 ho2) (Nat.le_of_ble_eq_true rfl) rfl g1 dX1_setLike_22 ?_
  obtain ⟨S5, e6, h⟩ := wrk_some h
  refine go_iastE (pc := 23) X e6 (shB2 ho) (Nat.le_of_ble_eq_true rfl) rfl g2 dX1_setLike_23 ?_
  refine go_aload_n (pc := 24) X 2 dX1_setLike_24 rfl rfl ?_
  refine go_getr (pc := 25) X (fk := 5) (shB ho2) rfl inT_X1 (by decide) fL_X1_28 rfl dX1_setLike_25 ?_
  refine go_iload_n (pc := 28) X 3 dX1_setLike_28 rfl rfl ?_
  refine go_bipush (pc := 29) X dX1_setLike_29 (by decide) (by decide) ?_
  refine go_imul (pc := 31) X dX1_setLike_31 ?_
  refine go_aload_n (pc := 32) X 0 dX1_setLike_32 rfl rfl ?_
  refine go_getr (pc := 33) X (fk := 5) (shB ho) rfl inT_X1 (by decide) fL_X1_28 rfl dX1_setLike_33 ?_
  refine go_iload_n (pc := 36) X 1 dX1_setLike_36 rfl rfl ?_
  refine go_bipush (pc := 37) X dX1_setLike_37 (by decide) (by decide) ?_
  refine go_imul (pc := 39) X dX1_setLike_39 ?_
  refine go_bipush (pc := 40) X dX1_setLike_40 (by decide) (by decide) ?_
  obtain ⟨g7, h⟩ := gd_some h
  obtain ⟨S8, e9, h⟩ := cpyk_some h
  refine go_copyE (pc := 42) X e9 mL_X1_41 (shB3 ho2) (shB3 ho) (Nat.le_of_ble_eq_true rfl) (Nat.le_of_ble_eq_true rfl) rfl rfl g7 (Nat.le_of_ble_eq_true rfl) (Nat.le_of_ble_eq_true rfl) dX1_setLike_42 ?_
  exact go_vret (pc := 45) X h dX1_setLike_45
set_option maxRecDepth 100000 in
set_option maxHeartbeats 4000000 in
theorem ct_X1_takeFrom {l : Launch} {D : va_G} {cI cB : ClassId} {Z : (Nat → Nat) × (Nat → Nat)} {ad : Nat → Nat} {S : Mem} {th : Nat} {q1 : Nat} {S' : Mem} (ho : isBk th) (ho1 : isBk q1) (h : f_X1_takeFrom S th q1 = some S') : Ctr l D cI cB Z ad shsC yX1_takeFrom cX1_takeFrom 3 none 2 49 [.ref (ad th), .ref (ad q1)] S (none) S' := by
  refine ctr_of (by decide +kernel) (Nat.le_of_ble_eq_true rfl) rfl ?_
  intro p e s m args below meth c A X
  unfold f_X1_takeFrom at h
  refine go_aload_n (pc := 0) X 0 dX1_takeFrom_0 rfl rfl ?_
  refine go_aload_n (pc := 1) X 1 dX1_takeFrom_1 rfl rfl ?_
  refine go_get (pc := 2) X (fk := 0) (fi := 0) rfl (shB ho1) rfl inT_X1 (by decide) fL_X1_9 rfl dX1_takeFrom_2 ?_
  obtain ⟨S1, e2, h⟩ := wrk_some h
  refine go_putE (pc := 5) X (fk := 0) (fi := 0) rfl e2 (shB ho) rfl inT_X1 tyX1_ok nmX1 (by decide) fL_X1_9 rfl rfl rfl rfl rfl dX1_takeFrom_5 ?_
  refine go_aload_n (pc := 8) X 0 dX1_takeFrom_8 rfl rfl ?_
  refine go_aload_n (pc := 9) X 1 dX1_takeFrom_9 rfl rfl ?_
  refine go_get (pc := 10) X (fk := 1) (fi := 1) rfl (shB ho1) rfl inT_X1 (by decide) fL_X1_15 rfl dX1_takeFrom_10 ?_
  obtain ⟨S3, e4, h⟩ := wrk_some h
  refine go_putE (pc := 13) X (fk := 1) (fi := 1) rfl e4 (shB ho) rfl inT_X1 tyX1_ok nmX1 (by decide) fL_X1_15 rfl rfl rfl rfl rfl dX1_takeFrom_13 ?_
  refine go_aload_n (pc := 16) X 0 dX1_takeFrom_16 rfl rfl ?_
  refine go_aload_n (pc := 17) X 1 dX1_takeFrom_17 rfl rfl ?_
  refine go_get (pc := 18) X (fk := 2) (fi := 2) rfl (shB ho1) rfl inT_X1 (by decide) fL_X1_18 rfl dX1_takeFrom_18 ?_
  obtain ⟨S5, e6, h⟩ := wrk_some h
  refine go_putE (pc := 21) X (fk := 2) (fi := 2) rfl e6 (shB ho) rfl inT_X1 tyX1_ok nmX1 (by decide) fL_X1_18 rfl rfl rfl rfl rfl dX1_takeFrom_21 ?_
  refine go_iconst (pc := 24) X dX1_takeFrom_24 ?_
  refine go_istore_n (pc := 25) X [1, 2, 0] (Ls' := [(0, .ref (ad th)), (1, .ref (ad q1)), (2, .int (i32 0))]) dX1_takeFrom_25 rfl (by decide) rfl ?_
  obtain ⟨r10, h11, h⟩ := bind_some h
  have H12 : ∀ (n : Nat) (t13 : Int × Mem) (z14 : Mem), lp (f_X1_takeFrom_l26 th q1) n t13 = some z14 → Go p l e { frames := 2, cells := 0, slots := 0, locals := 49 } s m args below meth c 3 D cI cB ad shsC A (MQ below (cQ D cI cB ad shsC (none) S' A) args s 0 0 A) 47 [] [] z14 → Go p l e { frames := 2, cells := 0, slots := 0, locals := 49 } s m args below meth c 3 D cI cB ad shsC A (MQ below (cQ D cI cB ad shsC (none) S' A) args s 0 0 A) 26 [(0, .ref (ad th)), (1, .ref (ad q1)), (2, .int (i32 t13.1))] [] t13.2 := by
    refine lp_go (fun t13 : Int × Mem => Go p l e { frames := 2, cells := 0, slots := 0, locals := 49 } s m args below meth c 3 D cI cB ad shsC A (MQ below (cQ D cI cB ad shsC (none) S' A) args s 0 0 A) 26 [(0, .ref (ad th)), (1, .ref (ad q1)), (2, .int (i32 t13.1))] [] t13.2) (fun z14 : Mem => Go p l e { frames := 2, cells := 0, slots := 0, locals := 49 } s m args below meth c 3 D cI cB ad shsC A (MQ below (cQ D cI cB ad shsC (none) S' A) args s 0 0 A) 47 [] [] z14) ?_
    intro t13 x15 h hx16
    unfold f_X1_takeFrom_l26 at h
    refine go_iload_n (pc := 26) X 2 dX1_takeFrom_26 rfl rfl ?_
    refine go_aload_n (pc := 27) X 0 dX1_takeFrom_27 rfl rfl ?_
    refine go_get (pc := 28) X (fk := 2) (fi := 2) rfl (shB ho) rfl inT_X1 (by decide) fL_X1_18 rfl dX1_takeFrom_28 ?_
    refine go_icmp_ge (pc := 31) X 47 dX1_takeFrom_31 rfl (fun c18 => ?_) (fun c18 => ?_)
    · rw [if_neg c18] at h
      refine go_pick [] (Ls' := []) rfl ?_
      exact lp_back h hx16
    · rw [if_pos c18] at h
      refine go_aload_n (pc := 34) X 0 dX1_takeFrom_34 rfl rfl ?_
      refine go_iload_n (pc := 35) X 2 dX1_takeFrom_35 rfl rfl ?_
      refine go_aload_n (pc := 36) X 1 dX1_takeFrom_36 rfl rfl ?_
      refine go_iload_n (pc := 37) X 2 dX1_takeFrom_37 rfl rfl ?_
      obtain ⟨S19, h20, h⟩ := bind_some h
      refine go_callVv (pc := 38) X 3 [] (ct_X1_setLike ho ho1 h20) (shB ho) rfl gg_X1_37 hd_X1_setLike ⟨Nat.le_of_ble_eq_true rfl, Nat.le_of_ble_eq_true rfl⟩ rfl rfl (Nat.le_of_ble_eq_true rfl) dX1_takeFrom_38 ?_
      refine go_iinc (pc := 41) X [1, 2, 0] 2 (Ls' := [(0, .ref (ad th)), (1, .ref (ad q1)), (2, .int (i32 (t13.1 + 1)))]) dX1_takeFrom_41 rfl (by decide) rfl ?_
      refine go_goto (pc := 44) X 26 dX1_takeFrom_44 rfl ?_
      exact lp_back h hx16
  refine H12 FU (0, S5) r10 h11 ?_
  exact go_vret (pc := 47) X h dX1_takeFrom_47
set_option maxRecDepth 100000 in
set_option maxHeartbeats 4000000 in
theorem ct_X1_storeIn {l : Launch} {D : va_G} {cI cB : ClassId} {Z : (Nat → Nat) × (Nat → Nat)} {ad : Nat → Nat} {S : Mem} {th : Nat} {a2 : Int} {S' : Mem} (ho : isBk th) (h : f_X1_storeIn S th a2 = some S') : Ctr l D cI cB Z ad shsC yX1_storeIn cX1_storeIn 3 none 1 26 [.ref (ad th), .ref (ad 35), .int (i32 a2)] S (none) S' := by
  refine ctr_of (by decide +kernel) (Nat.le_of_ble_eq_true rfl) rfl ?_
  intro p e s m args below meth c A X
  unfold f_X1_storeIn at h
  refine go_aload_n (pc := 0) X 1 dX1_storeIn_0 rfl rfl ?_
  refine go_iload_n (pc := 1) X 2 dX1_storeIn_1 rfl rfl ?_
  refine go_aload_n (pc := 2) X 0 dX1_storeIn_2 rfl rfl ?_
  refine go_get (pc := 3) X (fk := 0) (fi := 0) rfl (shB ho) rfl inT_X1 (by decide) fL_X1_9 rfl dX1_storeIn_3 ?_
  obtain ⟨g1, h⟩ := gd_some h
  obtain ⟨S2, e3, h⟩ := wrk_some h
  refine go_iastE (pc := 6) X e3 shHi (Nat.le_of_ble_eq_true rfl) rfl g1 dX1_storeIn_6 ?_
  refine go_aload_n (pc := 7) X 1 dX1_storeIn_7 rfl rfl ?_
  refine go_iload_n (pc := 8) X 2 dX1_storeIn_8 rfl rfl ?_
  refine go_iconst (pc := 9) X dX1_storeIn_9 ?_
  refine go_iadd (pc := 10) X dX1_storeIn_10 ?_
  refine go_aload_n (pc := 11) X 0 dX1_storeIn_11 rfl rfl ?_
  refine go_get (pc := 12) X (fk := 1) (fi := 1) rfl (shB ho) rfl inT_X1 (by decide) fL_X1_15 rfl dX1_storeIn_12 ?_
  obtain ⟨g4, h⟩ := gd_some h
  obtain ⟨S5, e6, h⟩ := wrk_some h
  refine go_iastE (pc := 15) X e6 shHi (Nat.le_of_ble_eq_true rfl) rfl g4 dX1_storeIn_15 ?_
  refine go_aload_n (pc := 16) X 1 dX1_storeIn_16 rfl rfl ?_
  refine go_iload_n (pc := 17) X 2 dX1_storeIn_17 rfl rfl ?_
  refine go_iconst (pc := 18) X dX1_storeIn_18 ?_
  refine go_iadd (pc := 19) X dX1_storeIn_19 ?_
  refine go_aload_n (pc := 20) X 0 dX1_storeIn_20 rfl rfl ?_
  refine go_get (pc := 21) X (fk := 2) (fi := 2) rfl (shB ho) rfl inT_X1 (by decide) fL_X1_18 rfl dX1_storeIn_21 ?_
  obtain ⟨g7, h⟩ := gd_some h
  obtain ⟨S8, e9, h⟩ := wrk_some h
  refine go_iastE (pc := 24) X e9 shHi (Nat.le_of_ble_eq_true rfl) rfl g7 dX1_storeIn_24 ?_
  refine go_aload_n (pc := 25) X 0 dX1_storeIn_25 rfl rfl ?_
  refine go_getr (pc := 26) X (fk := 3) (shB ho) rfl inT_X1 (by decide) fL_X1_21 rfl dX1_storeIn_26 ?_
  refine go_iconst (pc := 29) X dX1_storeIn_29 ?_
  refine go_aload_n (pc := 30) X 1 dX1_storeIn_30 rfl rfl ?_
  refine go_iload_n (pc := 31) X 2 dX1_storeIn_31 rfl rfl ?_
  refine go_iconst (pc := 32) X dX1_storeIn_32 ?_
  refine go_iadd (pc := 33) X dX1_storeIn_33 ?_
  refine go_bipush (pc := 34) X dX1_storeIn_34 (by decide) (by decide) ?_
  obtain ⟨g10, h⟩ := gd_some h
  obtain ⟨S11, e12, h⟩ := cpyk_some h
  refine go_copyE (pc := 36) X e12 mL_X1_41 (shB1 ho) shHi (Nat.le_of_ble_eq_true rfl) (Nat.le_of_ble_eq_true rfl) rfl rfl g10 (Nat.le_of_ble_eq_true rfl) (Nat.le_of_ble_eq_true rfl) dX1_storeIn_36 ?_
  refine go_aload_n (pc := 39) X 0 dX1_storeIn_39 rfl rfl ?_
  refine go_getr (pc := 40) X (fk := 4) (shB ho) rfl inT_X1 (by decide) fL_X1_25 rfl dX1_storeIn_40 ?_
  refine go_iconst (pc := 43) X dX1_storeIn_43 ?_
  refine go_aload_n (pc := 44) X 1 dX1_storeIn_44 rfl rfl ?_
  refine go_iload_n (pc := 45) X 2 dX1_storeIn_45 rfl rfl ?_
  refine go_iconst (pc := 46) X dX1_storeIn_46 ?_
  refine go_iadd (pc := 47) X dX1_storeIn_47 ?_
  refine go_bipush (pc := 48) X dX1_storeIn_48 (by decide) (by decide) ?_
  refine go_iadd (pc := 50) X dX1_storeIn_50 ?_
  refine go_bipush (pc := 51) X dX1_storeIn_51 (by decide) (by decide) ?_
  obtain ⟨g13, h⟩ := gd_some h
  obtain ⟨S14, e15, h⟩ := cpyk_some h
  refine go_copyE (pc := 53) X e15 mL_X1_41 (shB2 ho) shHi (Nat.le_of_ble_eq_true rfl) (Nat.le_of_ble_eq_true rfl) rfl rfl g13 (Nat.le_of_ble_eq_true rfl) (Nat.le_of_ble_eq_true rfl) dX1_storeIn_53 ?_
  refine go_aload_n (pc := 56) X 0 dX1_storeIn_56 rfl rfl ?_
  refine go_getr (pc := 57) X (fk := 5) (shB ho) rfl inT_X1 (by decide) fL_X1_28 rfl dX1_storeIn_57 ?_
  refine go_iconst (pc := 60) X dX1_storeIn_60 ?_
  refine go_aload_n (pc := 61) X 1 dX1_storeIn_61 rfl rfl ?_
  refine go_iload_n (pc := 62) X 2 dX1_storeIn_62 rfl rfl ?_
  refine go_iconst (pc := 63) X dX1_storeIn_63 ?_
  refine go_iadd (pc := 64) X dX1_storeIn_64 ?_
  refine go_bipush (pc := 65) X dX1_storeIn_65 (by decide) (by decide) ?_
  refine go_iadd (pc := 67) X dX1_storeIn_67 ?_
  refine go_bipush (pc := 68) X dX1_storeIn_68 (by decide) (by decide) ?_
  refine go_iadd (pc := 70) X dX1_storeIn_70 ?_
  refine go_bipush (pc := 71) X dX1_storeIn_71 (by decide) (by decide) ?_
  obtain ⟨g16, h⟩ := gd_some h
  obtain ⟨S17, e18, h⟩ := cpyk_some h
  refine go_copyE (pc := 73) X e18 mL_X1_41 (shB3 ho) shHi (Nat.le_of_ble_eq_true rfl) (Nat.le_of_ble_eq_true rfl) rfl rfl g16 (Nat.le_of_ble_eq_true rfl) (Nat.le_of_ble_eq_true rfl) dX1_storeIn_73 ?_
  exact go_vret (pc := 76) X h dX1_storeIn_76
set_option maxRecDepth 100000 in
set_option maxHeartbeats 4000000 in
theorem ct_X1_has {l : Launch} {D : va_G} {cI cB : ClassId} {Z : (Nat → Nat) × (Nat → Nat)} {ad : Nat → Nat} {S : Mem} {th : Nat} {a1 : Int} {r : Int} (ho : isBk th) (h : f_X1_has S th a1 = some r) : Ctr l D cI cB Z ad shsC yX1_has cX1_has 2 (some .boolean) 0 0 [.ref (ad th), .int (i32 a1)] S (some (.int (i32 r))) S := by
  refine ctr_of (by decide +kernel) (Nat.le_of_ble_eq_true rfl) rfl ?_
  intro p e s m args below meth c A X
  unfold f_X1_has at h
  refine go_iload_n (pc := 0) X 1 dX1_has_0 rfl rfl ?_
  refine go_if_lt (pc := 1) X 16 dX1_has_1 rfl (fun c1 => ?_) (fun c1 => ?_)
  · rw [if_pos c1] at h
    refine go_iconst (pc := 16) X dX1_has_16 ?_
    exact go_zretP (pc := 17) X (Or.inl rfl) h dX1_has_17
  · rw [if_neg c1] at h
    refine go_iload_n (pc := 4) X 1 dX1_has_4 rfl rfl ?_
    refine go_aload_n (pc := 5) X 0 dX1_has_5 rfl rfl ?_
    refine go_get (pc := 6) X (fk := 2) (fi := 2) rfl (shB ho) rfl inT_X1 (by decide) fL_X1_18 rfl dX1_has_6 ?_
    refine go_icmp_ge (pc := 9) X 16 dX1_has_9 rfl (fun c2 => ?_) (fun c2 => ?_)
    · rw [if_neg c2] at h
      refine go_iconst (pc := 16) X dX1_has_16 ?_
      exact go_zretP (pc := 17) X (Or.inl rfl) h dX1_has_17
    · rw [if_pos c2] at h
      refine go_iconst (pc := 12) X dX1_has_12 ?_
      refine go_goto (pc := 13) X 17 dX1_has_13 rfl ?_
      exact go_zretP (pc := 17) X (Or.inr rfl) h dX1_has_17
set_option maxRecDepth 100000 in
set_option maxHeartbeats 4000000 in
theorem ct_X1_removeBidder {l : Launch} {D : va_G} {cI cB : ClassId} {Z : (Nat → Nat) × (Nat → Nat)} {ad : Nat → Nat} {S : Mem} {th : Nat} {a1 : Int} {S' : Mem} (ho : isBk th) (h : f_X1_removeBidder S th a1 = some S') : Ctr l D cI cB Z ad shsC yX1_removeBidder cX1_removeBidder 3 none 2 49 [.ref (ad th), .int (i32 a1)] S (none) S' := by
  refine ctr_of (by decide +kernel) (Nat.le_of_ble_eq_true rfl) rfl ?_
  intro p e s m args below meth c A X
  unfold f_X1_removeBidder at h
  refine go_iload_n (pc := 0) X 1 dX1_removeBidder_0 rfl rfl ?_
  refine go_istore_n (pc := 1) X [1, 2, 0] (Ls' := [(0, .ref (ad th)), (1, .int (i32 a1)), (2, .int (i32 a1))]) dX1_removeBidder_1 rfl (by decide) rfl ?_
  obtain ⟨r4, h5, h⟩ := bind_some h
  have H6 : ∀ (n : Nat) (t7 : Int × Mem) (z8 : Mem), lp (f_X1_removeBidder_l2 th) n t7 = some z8 → Go p l e { frames := 2, cells := 0, slots := 0, locals := 49 } s m args below meth c 3 D cI cB ad shsC A (MQ below (cQ D cI cB ad shsC (none) S' A) args s 0 0 A) 27 [(0, .ref (ad th))] [] z8 → Go p l e { frames := 2, cells := 0, slots := 0, locals := 49 } s m args below meth c 3 D cI cB ad shsC A (MQ below (cQ D cI cB ad shsC (none) S' A) args s 0 0 A) 2 [(0, .ref (ad th)), (2, .int (i32 t7.1))] [] t7.2 := by
    refine lp_go (fun t7 : Int × Mem => Go p l e { frames := 2, cells := 0, slots := 0, locals := 49 } s m args below meth c 3 D cI cB ad shsC A (MQ below (cQ D cI cB ad shsC (none) S' A) args s 0 0 A) 2 [(0, .ref (ad th)), (2, .int (i32 t7.1))] [] t7.2) (fun z8 : Mem => Go p l e { frames := 2, cells := 0, slots := 0, locals := 49 } s m args below meth c 3 D cI cB ad shsC A (MQ below (cQ D cI cB ad shsC (none) S' A) args s 0 0 A) 27 [(0, .ref (ad th))] [] z8) ?_
    intro t7 x9 h hx10
    unfold f_X1_removeBidder_l2 at h
    refine go_iload_n (pc := 2) X 1 dX1_removeBidder_2 rfl rfl ?_
    refine go_iconst (pc := 3) X dX1_removeBidder_3 ?_
    refine go_iadd (pc := 4) X dX1_removeBidder_4 ?_
    refine go_aload_n (pc := 5) X 0 dX1_removeBidder_5 rfl rfl ?_
    refine go_get (pc := 6) X (fk := 2) (fi := 2) rfl (shB ho) rfl inT_X1 (by decide) fL_X1_18 rfl dX1_removeBidder_6 ?_
    refine go_icmp_ge (pc := 9) X 27 dX1_removeBidder_9 rfl (fun c12 => ?_) (fun c12 => ?_)
    · rw [if_neg c12] at h
      refine go_pick [0] (Ls' := [(0, .ref (ad th))]) rfl ?_
      exact lp_back h hx10
    · rw [if_pos c12] at h
      refine go_aload_n (pc := 12) X 0 dX1_removeBidder_12 rfl rfl ?_
      refine go_iload_n (pc := 13) X 1 dX1_removeBidder_13 rfl rfl ?_
      refine go_aload_n (pc := 14) X 0 dX1_removeBidder_14 rfl rfl ?_
      refine go_iload_n (pc := 15) X 1 dX1_removeBidder_15 rfl rfl ?_
      refine go_iconst (pc := 16) X dX1_removeBidder_16 ?_
      refine go_iadd (pc := 17) X dX1_removeBidder_17 ?_
      obtain ⟨S13, h14, h⟩ := bind_some h
      refine go_callVv (pc := 18) X 3 [] (ct_X1_setLike ho ho h14) (shB ho) rfl gg_X1_37 hd_X1_setLike ⟨Nat.le_of_ble_eq_true rfl, Nat.le_of_ble_eq_true rfl⟩ rfl rfl (Nat.le_of_ble_eq_true rfl) dX1_removeBidder_18 ?_
      refine go_iinc (pc := 21) X [1, 0] 1 (Ls' := [(0, .ref (ad th)), (2, .int (i32 (t7.1 + 1)))]) dX1_removeBidder_21 rfl (by decide) rfl ?_
      refine go_goto (pc := 24) X 2 dX1_removeBidder_24 rfl ?_
      exact lp_back h hx10
  refine go_pick [0, 2] (Ls' := [(0, .ref (ad th)), (2, .int (i32 a1))]) rfl ?_
  refine H6 FU (a1, S) r4 h5 ?_
  refine go_aload_n (pc := 27) X 0 dX1_removeBidder_27 rfl rfl ?_
  refine go_dup (pc := 28) X dX1_removeBidder_28 rfl ?_
  refine go_get (pc := 29) X (fk := 2) (fi := 2) rfl (shB ho) rfl inT_X1 (by decide) fL_X1_18 rfl dX1_removeBidder_29 ?_
  refine go_iconst (pc := 32) X dX1_removeBidder_32 ?_
  refine go_isub (pc := 33) X dX1_removeBidder_33 ?_
  obtain ⟨S15, e16, h⟩ := wrk_some h
  refine go_putE (pc := 34) X (fk := 2) (fi := 2) rfl e16 (shB ho) rfl inT_X1 tyX1_ok nmX1 (by decide) fL_X1_18 rfl rfl rfl rfl rfl dX1_removeBidder_34 ?_
  exact go_vret (pc := 37) X h dX1_removeBidder_37
set_option maxRecDepth 100000 in
set_option maxHeartbeats 4000000 in
theorem ct_X1_hasValue {l : Launch} {D : va_G} {cI cB : ClassId} {Z : (Nat → Nat) × (Nat → Nat)} {ad : Nat → Nat} {S : Mem} {th : Nat} {a1 : Int} {a2 : Int} {r : Int} (ho : isBk th) (h : f_X1_hasValue S th a1 a2 = some r) : Ctr l D cI cB Z ad shsC yX1_hasValue cX1_hasValue 3 (some .boolean) 1 21 [.ref (ad th), .int (i32 a1), .int (i32 a2)] S (some (.int (i32 r))) S := by
  refine ctr_of (by decide +kernel) (Nat.le_of_ble_eq_true rfl) rfl ?_
  intro p e s m args below meth c A X
  unfold f_X1_hasValue at h
  refine go_aload_n (pc := 0) X 0 dX1_hasValue_0 rfl rfl ?_
  refine go_iload_n (pc := 1) X 1 dX1_hasValue_1 rfl rfl ?_
  obtain ⟨r1, h2, h⟩ := bind_some h
  refine go_callVi (pc := 2) X 1 [] (ct_X1_has ho h2) (shB ho) rfl gg_X1_47 hd_X1_has ⟨Nat.le_of_ble_eq_true rfl, Nat.le_of_ble_eq_true rfl⟩ rfl rfl (Nat.le_of_ble_eq_true rfl) dX1_hasValue_2 ?_
  refine go_if_eq (pc := 5) X 26 dX1_hasValue_5 rfl (fun c3 => ?_) (fun c3 => ?_)
  · rw [if_pos c3] at h
    refine go_iconst (pc := 26) X dX1_hasValue_26 ?_
    exact go_zretP (pc := 27) X (Or.inl rfl) h dX1_hasValue_27
  · rw [if_neg c3] at h
    refine go_iload_n (pc := 8) X 2 dX1_hasValue_8 rfl rfl ?_
    refine go_if_lt (pc := 9) X 26 dX1_hasValue_9 rfl (fun c4 => ?_) (fun c4 => ?_)
    · rw [if_pos c4] at h
      refine go_iconst (pc := 26) X dX1_hasValue_26 ?_
      exact go_zretP (pc := 27) X (Or.inl rfl) h dX1_hasValue_27
    · rw [if_neg c4] at h
      refine go_iload_n (pc := 12) X 2 dX1_hasValue_12 rfl rfl ?_
      refine go_aload_n (pc := 13) X 0 dX1_hasValue_13 rfl rfl ?_
      refine go_getr (pc := 14) X (fk := 3) (shB ho) rfl inT_X1 (by decide) fL_X1_21 rfl dX1_hasValue_14 ?_
      refine go_iload_n (pc := 17) X 1 dX1_hasValue_17 rfl rfl ?_
      obtain ⟨g5, h⟩ := gd_some h
      refine go_iald (pc := 18) X (shB1 ho) (Nat.le_of_ble_eq_true rfl) rfl g5 dX1_hasValue_18 ?_
      refine go_icmp_ge (pc := 19) X 26 dX1_hasValue_19 rfl (fun c6 => ?_) (fun c6 => ?_)
      · rw [if_neg c6] at h
        refine go_iconst (pc := 26) X dX1_hasValue_26 ?_
        exact go_zretP (pc := 27) X (Or.inl rfl) h dX1_hasValue_27
      · rw [if_pos c6] at h
        refine go_iconst (pc := 22) X dX1_hasValue_22 ?_
        refine go_goto (pc := 23) X 27 dX1_hasValue_23 rfl ?_
        exact go_zretP (pc := 27) X (Or.inr rfl) h dX1_hasValue_27
set_option maxRecDepth 100000 in
set_option maxHeartbeats 4000000 in
theorem ct_X1_dropValues {l : Launch} {D : va_G} {cI cB : ClassId} {Z : (Nat → Nat) × (Nat → Nat)} {ad : Nat → Nat} {S : Mem} {th : Nat} {a1 : Int} {a2 : Int} {a3 : Int} {S' : Mem} (ho : isBk th) (h : f_X1_dropValues S th a1 a2 a3 = some S') : Ctr l D cI cB Z ad shsC yX1_dropValues cX1_dropValues 6 none 1 26 [.ref (ad th), .int (i32 a1), .int (i32 a2), .int (i32 a3)] S (none) S' := by
  refine ctr_of (by decide +kernel) (Nat.le_of_ble_eq_true rfl) rfl ?_
  intro p e s m args below meth c A X
  unfold f_X1_dropValues at h
  refine go_iload_n (pc := 0) X 1 dX1_dropValues_0 rfl rfl ?_
  refine go_bipush (pc := 1) X dX1_dropValues_1 (by decide) (by decide) ?_
  refine go_imul (pc := 3) X dX1_dropValues_3 ?_
  refine go_istore (pc := 4) X [1, 2, 3, 4, 0] (Ls' := [(0, .ref (ad th)), (1, .int (i32 a1)), (2, .int (i32 a2)), (3, .int (i32 a3)), (4, .int (i32 (a1 * 8)))]) dX1_dropValues_4 (by decide) rfl ?_
  refine go_aload_n (pc := 6) X 0 dX1_dropValues_6 rfl rfl ?_
  refine go_getr (pc := 7) X (fk := 3) (shB ho) rfl inT_X1 (by decide) fL_X1_21 rfl dX1_dropValues_7 ?_
  refine go_iload_n (pc := 10) X 1 dX1_dropValues_10 rfl rfl ?_
  obtain ⟨g1, h⟩ := gd_some h
  refine go_iald (pc := 11) X (shB1 ho) (Nat.le_of_ble_eq_true rfl) rfl g1 dX1_dropValues_11 ?_
  refine go_iload_n (pc := 12) X 2 dX1_dropValues_12 rfl rfl ?_
  refine go_isub (pc := 13) X dX1_dropValues_13 ?_
  refine go_iload_n (pc := 14) X 3 dX1_dropValues_14 rfl rfl ?_
  refine go_isub (pc := 15) X dX1_dropValues_15 ?_
  refine go_istore (pc := 16) X [1, 2, 3, 4, 5, 0] (Ls' := [(0, .ref (ad th)), (1, .int (i32 a1)), (2, .int (i32 a2)), (3, .int (i32 a3)), (4, .int (i32 (a1 * 8))), (5, .int (i32 (((S (th + 1) a1) - a2) - a3)))]) dX1_dropValues_16 (by decide) rfl ?_
  refine go_aload_n (pc := 18) X 0 dX1_dropValues_18 rfl rfl ?_
  refine go_getr (pc := 19) X (fk := 5) (shB ho) rfl inT_X1 (by decide) fL_X1_28 rfl dX1_dropValues_19 ?_
  refine go_iload (pc := 22) X 4 dX1_dropValues_22 rfl ?_
  refine go_iload_n (pc := 24) X 2 dX1_dropValues_24 rfl rfl ?_
  refine go_iadd (pc := 25) X dX1_dropValues_25 ?_
  refine go_iload_n (pc := 26) X 3 dX1_dropValues_26 rfl rfl ?_
  refine go_iadd (pc := 27) X dX1_dropValues_27 ?_
  refine go_aload_n (pc := 28) X 0 dX1_dropValues_28 rfl rfl ?_
  refine go_getr (pc := 29) X (fk := 5) (shB ho) rfl inT_X1 (by decide) fL_X1_28 rfl dX1_dropValues_29 ?_
  refine go_iload (pc := 32) X 4 dX1_dropValues_32 rfl ?_
  refine go_iload_n (pc := 34) X 2 dX1_dropValues_34 rfl rfl ?_
  refine go_iadd (pc := 35) X dX1_dropValues_35 ?_
  refine go_iload (pc := 36) X 5 dX1_dropValues_36 rfl ?_
  obtain ⟨g2, h⟩ := gd_some h
  obtain ⟨S3, e4, h⟩ := cpyk_some h
  refine go_copyE (pc := 38) X e4 mL_X1_41 (shB3 ho) (shB3 ho) (Nat.le_of_ble_eq_true rfl) (Nat.le_of_ble_eq_true rfl) rfl rfl g2 (Nat.le_of_ble_eq_true rfl) (Nat.le_of_ble_eq_true rfl) dX1_dropValues_38 ?_
  refine go_aload_n (pc := 41) X 0 dX1_dropValues_41 rfl rfl ?_
  refine go_getr (pc := 42) X (fk := 3) (shB ho) rfl inT_X1 (by decide) fL_X1_21 rfl dX1_dropValues_42 ?_
  refine go_iload_n (pc := 45) X 1 dX1_dropValues_45 rfl rfl ?_
  refine go_dup2 (pc := 46) X dX1_dropValues_46 rfl rfl ?_
  refine go_iald (pc := 47) X (shB1 ho) (Nat.le_of_ble_eq_true rfl) rfl g1 dX1_dropValues_47 ?_
  refine go_iload_n (pc := 48) X 3 dX1_dropValues_48 rfl rfl ?_
  refine go_isub (pc := 49) X dX1_dropValues_49 ?_
  obtain ⟨S5, e6, h⟩ := wrk_some h
  refine go_iastE (pc := 50) X e6 (shB1 ho) (Nat.le_of_ble_eq_true rfl) rfl g1 dX1_dropValues_50 ?_
  exact go_vret (pc := 51) X h dX1_dropValues_51
set_option maxRecDepth 100000 in
set_option maxHeartbeats 4000000 in
theorem ct_X1_removeValue {l : Launch} {D : va_G} {cI cB : ClassId} {Z : (Nat → Nat) × (Nat → Nat)} {ad : Nat → Nat} {S : Mem} {th : Nat} {a1 : Int} {a2 : Int} {S' : Mem} (ho : isBk th) (h : f_X1_removeValue S th a1 a2 = some S') : Ctr l D cI cB Z ad shsC yX1_removeValue cX1_removeValue 3 none 2 51 [.ref (ad th), .int (i32 a1), .int (i32 a2)] S (none) S' := by
  refine ctr_of (by decide +kernel) (Nat.le_of_ble_eq_true rfl) rfl ?_
  intro p e s m args below meth c A X
  unfold f_X1_removeValue at h
  refine go_aload_n (pc := 0) X 0 dX1_removeValue_0 rfl rfl ?_
  refine go_iload_n (pc := 1) X 1 dX1_removeValue_1 rfl rfl ?_
  refine go_iload_n (pc := 2) X 2 dX1_removeValue_2 rfl rfl ?_
  refine go_iconst (pc := 3) X dX1_removeValue_3 ?_
  obtain ⟨S1, h2, h⟩ := bind_some h
  refine go_callVv (pc := 4) X 3 [] (ct_X1_dropValues ho h2) (shB ho) rfl gg_X1_68 hd_X1_dropValues ⟨Nat.le_of_ble_eq_true rfl, Nat.le_of_ble_eq_true rfl⟩ rfl rfl (Nat.le_of_ble_eq_true rfl) dX1_removeValue_4 ?_
  exact go_vret (pc := 7) X h dX1_removeValue_7
set_option maxRecDepth 100000 in
set_option maxHeartbeats 4000000 in
theorem ct_X1_valueAt {l : Launch} {D : va_G} {cI cB : ClassId} {Z : (Nat → Nat) × (Nat → Nat)} {ad : Nat → Nat} {S : Mem} {th : Nat} {a1 : Int} {a2 : Int} {r : Int} (ho : isBk th) (h : f_X1_valueAt S th a1 a2 = some r) : Ctr l D cI cB Z ad shsC yX1_valueAt cX1_valueAt 3 (some .int) 0 0 [.ref (ad th), .int (i32 a1), .int (i32 a2)] S (some (.int (i32 r))) S := by
  refine ctr_of (by decide +kernel) (Nat.le_of_ble_eq_true rfl) rfl ?_
  intro p e s m args below meth c A X
  unfold f_X1_valueAt at h
  refine go_aload_n (pc := 0) X 0 dX1_valueAt_0 rfl rfl ?_
  refine go_getr (pc := 1) X (fk := 5) (shB ho) rfl inT_X1 (by decide) fL_X1_28 rfl dX1_valueAt_1 ?_
  refine go_iload_n (pc := 4) X 1 dX1_valueAt_4 rfl rfl ?_
  refine go_bipush (pc := 5) X dX1_valueAt_5 (by decide) (by decide) ?_
  refine go_imul (pc := 7) X dX1_valueAt_7 ?_
  refine go_iload_n (pc := 8) X 2 dX1_valueAt_8 rfl rfl ?_
  refine go_iadd (pc := 9) X dX1_valueAt_9 ?_
  obtain ⟨g1, h⟩ := gd_some h
  refine go_iald (pc := 10) X (shB3 ho) (Nat.le_of_ble_eq_true rfl) rfl g1 dX1_valueAt_10 ?_
  exact go_iretP (pc := 11) X h dX1_valueAt_11
set_option maxRecDepth 100000 in
set_option maxHeartbeats 4000000 in
theorem ct_X1_canSplit {l : Launch} {D : va_G} {cI cB : ClassId} {Z : (Nat → Nat) × (Nat → Nat)} {ad : Nat → Nat} {S : Mem} {th : Nat} {a1 : Int} {a2 : Int} {r : Int} (ho : isBk th) (h : f_X1_canSplit S th a1 a2 = some r) : Ctr l D cI cB Z ad shsC yX1_canSplit cX1_canSplit 3 (some .boolean) 1 21 [.ref (ad th), .int (i32 a1), .int (i32 a2)] S (some (.int (i32 r))) S := by
  refine ctr_of (by decide +kernel) (Nat.le_of_ble_eq_true rfl) rfl ?_
  intro p e s m args below meth c A X
  unfold f_X1_canSplit at h
  refine go_aload_n (pc := 0) X 0 dX1_canSplit_0 rfl rfl ?_
  refine go_iload_n (pc := 1) X 1 dX1_canSplit_1 rfl rfl ?_
  obtain ⟨r1, h2, h⟩ := bind_some h
  refine go_callVi (pc := 2) X 1 [] (ct_X1_has ho h2) (shB ho) rfl gg_X1_47 hd_X1_has ⟨Nat.le_of_ble_eq_true rfl, Nat.le_of_ble_eq_true rfl⟩ rfl rfl (Nat.le_of_ble_eq_true rfl) dX1_canSplit_2 ?_
  refine go_if_eq (pc := 5) X 27 dX1_canSplit_5 rfl (fun c3 => ?_) (fun c3 => ?_)
  · rw [if_pos c3] at h
    refine go_iconst (pc := 27) X dX1_canSplit_27 ?_
    exact go_zretP (pc := 28) X (Or.inl rfl) h dX1_canSplit_28
  · rw [if_neg c3] at h
    refine go_iload_n (pc := 8) X 2 dX1_canSplit_8 rfl rfl ?_
    refine go_iconst (pc := 9) X dX1_canSplit_9 ?_
    refine go_icmp_lt (pc := 10) X 27 dX1_canSplit_10 rfl (fun c4 => ?_) (fun c4 => ?_)
    · rw [if_pos c4] at h
      refine go_iconst (pc := 27) X dX1_canSplit_27 ?_
      exact go_zretP (pc := 28) X (Or.inl rfl) h dX1_canSplit_28
    · rw [if_neg c4] at h
      refine go_iload_n (pc := 13) X 2 dX1_canSplit_13 rfl rfl ?_
      refine go_aload_n (pc := 14) X 0 dX1_canSplit_14 rfl rfl ?_
      refine go_getr (pc := 15) X (fk := 3) (shB ho) rfl inT_X1 (by decide) fL_X1_21 rfl dX1_canSplit_15 ?_
      refine go_iload_n (pc := 18) X 1 dX1_canSplit_18 rfl rfl ?_
      obtain ⟨g5, h⟩ := gd_some h
      refine go_iald (pc := 19) X (shB1 ho) (Nat.le_of_ble_eq_true rfl) rfl g5 dX1_canSplit_19 ?_
      refine go_icmp_ge (pc := 20) X 27 dX1_canSplit_20 rfl (fun c6 => ?_) (fun c6 => ?_)
      · rw [if_neg c6] at h
        refine go_iconst (pc := 27) X dX1_canSplit_27 ?_
        exact go_zretP (pc := 28) X (Or.inl rfl) h dX1_canSplit_28
      · rw [if_pos c6] at h
        refine go_iconst (pc := 23) X dX1_canSplit_23 ?_
        refine go_goto (pc := 24) X 28 dX1_canSplit_24 rfl ?_
        exact go_zretP (pc := 28) X (Or.inr rfl) h dX1_canSplit_28
set_option maxRecDepth 100000 in
set_option maxHeartbeats 4000000 in
theorem ct_X1_splitOff {l : Launch} {D : va_G} {cI cB : ClassId} {Z : (Nat → Nat) × (Nat → Nat)} {ad : Nat → Nat} {S : Mem} {th : Nat} {a1 : Int} {a2 : Int} {r : Int} {S' : Mem} (ho : isBk th) (h : f_X1_splitOff S th a1 a2 = some (r, S')) : Ctr l D cI cB Z ad shsC yX1_splitOff cX1_splitOff 5 (some .int) 1 26 [.ref (ad th), .int (i32 a1), .int (i32 a2)] S (some (.int (i32 r))) S' := by
  refine ctr_of (by decide +kernel) (Nat.le_of_ble_eq_true rfl) rfl ?_
  intro p e s m args below meth c A X
  unfold f_X1_splitOff at h
  refine go_aload_n (pc := 0) X 0 dX1_splitOff_0 rfl rfl ?_
  obtain ⟨u1, h2, h⟩ := bind_some h
  refine go_callVi (pc := 1) X 0 [] (ct_X1_addBidder ho h2) (shB ho) rfl gg_X1_59 hd_X1_addBidder ⟨Nat.le_of_ble_eq_true rfl, Nat.le_of_ble_eq_true rfl⟩ rfl rfl (Nat.le_of_ble_eq_true rfl) dX1_splitOff_1 ?_
  refine go_istore_n (pc := 4) X [1, 2, 3, 0] (Ls' := [(0, .ref (ad th)), (1, .int (i32 a1)), (2, .int (i32 a2)), (3, .int (i32 u1.1))]) dX1_splitOff_4 rfl (by decide) rfl ?_
  refine go_aload_n (pc := 5) X 0 dX1_splitOff_5 rfl rfl ?_
  refine go_getr (pc := 6) X (fk := 4) (shB ho) rfl inT_X1 (by decide) fL_X1_25 rfl dX1_splitOff_6 ?_
  refine go_iload_n (pc := 9) X 3 dX1_splitOff_9 rfl rfl ?_
  refine go_aload_n (pc := 10) X 0 dX1_splitOff_10 rfl rfl ?_
  refine go_getr (pc := 11) X (fk := 4) (shB ho) rfl inT_X1 (by decide) fL_X1_25 rfl dX1_splitOff_11 ?_
  refine go_iload_n (pc := 14) X 1 dX1_splitOff_14 rfl rfl ?_
  obtain ⟨g3, h⟩ := gd_some h
  refine go_iald (pc := 15) X (shB2 ho) (Nat.le_of_ble_eq_true rfl) rfl g3 dX1_splitOff_15 ?_
  obtain ⟨g4, h⟩ := gd_some h
  obtain ⟨S5, e6, h⟩ := wrk_some h
  refine go_iastE (pc := 16) X e6 (shB2 ho) (Nat.le_of_ble_eq_true rfl) rfl g4 dX1_splitOff_16 ?_
  refine go_aload_n (pc := 17) X 0 dX1_splitOff_17 rfl rfl ?_
  refine go_getr (pc := 18) X (fk := 3) (shB ho) rfl inT_X1 (by decide) fL_X1_21 rfl dX1_splitOff_18 ?_
  refine go_iload_n (pc := 21) X 3 dX1_splitOff_21 rfl rfl ?_
  refine go_iload_n (pc := 22) X 2 dX1_splitOff_22 rfl rfl ?_
  obtain ⟨S7, e8, h⟩ := wrk_some h
  refine go_iastE (pc := 23) X e8 (shB1 ho) (Nat.le_of_ble_eq_true rfl) rfl g4 dX1_splitOff_23 ?_
  refine go_aload_n (pc := 24) X 0 dX1_splitOff_24 rfl rfl ?_
  refine go_getr (pc := 25) X (fk := 3) (shB ho) rfl inT_X1 (by decide) fL_X1_21 rfl dX1_splitOff_25 ?_
  refine go_iload_n (pc := 28) X 1 dX1_splitOff_28 rfl rfl ?_
  refine go_dup2 (pc := 29) X dX1_splitOff_29 rfl rfl ?_
  refine go_iald (pc := 30) X (shB1 ho) (Nat.le_of_ble_eq_true rfl) rfl g3 dX1_splitOff_30 ?_
  refine go_iload_n (pc := 31) X 2 dX1_splitOff_31 rfl rfl ?_
  refine go_isub (pc := 32) X dX1_splitOff_32 ?_
  obtain ⟨S9, e10, h⟩ := wrk_some h
  refine go_iastE (pc := 33) X e10 (shB1 ho) (Nat.le_of_ble_eq_true rfl) rfl g3 dX1_splitOff_33 ?_
  refine go_iload_n (pc := 34) X 1 dX1_splitOff_34 rfl rfl ?_
  refine go_bipush (pc := 35) X dX1_splitOff_35 (by decide) (by decide) ?_
  refine go_imul (pc := 37) X dX1_splitOff_37 ?_
  refine go_aload_n (pc := 38) X 0 dX1_splitOff_38 rfl rfl ?_
  refine go_getr (pc := 39) X (fk := 3) (shB ho) rfl inT_X1 (by decide) fL_X1_21 rfl dX1_splitOff_39 ?_
  refine go_iload_n (pc := 42) X 1 dX1_splitOff_42 rfl rfl ?_
  refine go_iald (pc := 43) X (shB1 ho) (Nat.le_of_ble_eq_true rfl) rfl g3 dX1_splitOff_43 ?_
  refine go_iadd (pc := 44) X dX1_splitOff_44 ?_
  refine go_istore (pc := 45) X [1, 2, 3, 4, 0] (Ls' := [(0, .ref (ad th)), (1, .int (i32 a1)), (2, .int (i32 a2)), (3, .int (i32 u1.1)), (4, .int (i32 ((a1 * 8) + (S9 (th + 1) a1))))]) dX1_splitOff_45 (by decide) rfl ?_
  refine go_aload_n (pc := 47) X 0 dX1_splitOff_47 rfl rfl ?_
  refine go_getr (pc := 48) X (fk := 5) (shB ho) rfl inT_X1 (by decide) fL_X1_28 rfl dX1_splitOff_48 ?_
  refine go_iload (pc := 51) X 4 dX1_splitOff_51 rfl ?_
  refine go_aload_n (pc := 53) X 0 dX1_splitOff_53 rfl rfl ?_
  refine go_getr (pc := 54) X (fk := 5) (shB ho) rfl inT_X1 (by decide) fL_X1_28 rfl dX1_splitOff_54 ?_
  refine go_iload_n (pc := 57) X 3 dX1_splitOff_57 rfl rfl ?_
  refine go_bipush (pc := 58) X dX1_splitOff_58 (by decide) (by decide) ?_
  refine go_imul (pc := 60) X dX1_splitOff_60 ?_
  refine go_iload_n (pc := 61) X 2 dX1_splitOff_61 rfl rfl ?_
  obtain ⟨g11, h⟩ := gd_some h
  obtain ⟨S12, e13, h⟩ := cpyk_some h
  refine go_copyE (pc := 62) X e13 mL_X1_41 (shB3 ho) (shB3 ho) (Nat.le_of_ble_eq_true rfl) (Nat.le_of_ble_eq_true rfl) rfl rfl g11 (Nat.le_of_ble_eq_true rfl) (Nat.le_of_ble_eq_true rfl) dX1_splitOff_62 ?_
  refine go_iload_n (pc := 65) X 3 dX1_splitOff_65 rfl rfl ?_
  exact go_iret (pc := 66) X h dX1_splitOff_66
set_option maxRecDepth 100000 in
set_option maxHeartbeats 4000000 in
theorem ct_X1_hasTwo {l : Launch} {D : va_G} {cI cB : ClassId} {Z : (Nat → Nat) × (Nat → Nat)} {ad : Nat → Nat} {S : Mem} {th : Nat} {a1 : Int} {a2 : Int} {r : Int} (ho : isBk th) (h : f_X1_hasTwo S th a1 a2 = some r) : Ctr l D cI cB Z ad shsC yX1_hasTwo cX1_hasTwo 3 (some .boolean) 1 21 [.ref (ad th), .int (i32 a1), .int (i32 a2)] S (some (.int (i32 r))) S := by
  refine ctr_of (by decide +kernel) (Nat.le_of_ble_eq_true rfl) rfl ?_
  intro p e s m args below meth c A X
  unfold f_X1_hasTwo at h
  refine go_aload_n (pc := 0) X 0 dX1_hasTwo_0 rfl rfl ?_
  refine go_iload_n (pc := 1) X 1 dX1_hasTwo_1 rfl rfl ?_
  obtain ⟨r1, h2, h⟩ := bind_some h
  refine go_callVi (pc := 2) X 1 [] (ct_X1_has ho h2) (shB ho) rfl gg_X1_47 hd_X1_has ⟨Nat.le_of_ble_eq_true rfl, Nat.le_of_ble_eq_true rfl⟩ rfl rfl (Nat.le_of_ble_eq_true rfl) dX1_hasTwo_2 ?_
  refine go_if_eq (pc := 5) X 25 dX1_hasTwo_5 rfl (fun c3 => ?_) (fun c3 => ?_)
  · rw [if_pos c3] at h
    refine go_iconst (pc := 25) X dX1_hasTwo_25 ?_
    exact go_zretP (pc := 26) X (Or.inl rfl) h dX1_hasTwo_26
  · rw [if_neg c3] at h
    refine go_aload_n (pc := 8) X 0 dX1_hasTwo_8 rfl rfl ?_
    refine go_iload_n (pc := 9) X 2 dX1_hasTwo_9 rfl rfl ?_
    obtain ⟨r4, h5, h⟩ := bind_some h
    refine go_callVi (pc := 10) X 1 [] (ct_X1_has ho h5) (shB ho) rfl gg_X1_47 hd_X1_has ⟨Nat.le_of_ble_eq_true rfl, Nat.le_of_ble_eq_true rfl⟩ rfl rfl (Nat.le_of_ble_eq_true rfl) dX1_hasTwo_10 ?_
    refine go_if_eq (pc := 13) X 25 dX1_hasTwo_13 rfl (fun c6 => ?_) (fun c6 => ?_)
    · rw [if_pos c6] at h
      refine go_iconst (pc := 25) X dX1_hasTwo_25 ?_
      exact go_zretP (pc := 26) X (Or.inl rfl) h dX1_hasTwo_26
    · rw [if_neg c6] at h
      refine go_iload_n (pc := 16) X 1 dX1_hasTwo_16 rfl rfl ?_
      refine go_iload_n (pc := 17) X 2 dX1_hasTwo_17 rfl rfl ?_
      refine go_icmp_eq (pc := 18) X 25 dX1_hasTwo_18 rfl (fun c7 => ?_) (fun c7 => ?_)
      · rw [if_pos c7] at h
        refine go_iconst (pc := 25) X dX1_hasTwo_25 ?_
        exact go_zretP (pc := 26) X (Or.inl rfl) h dX1_hasTwo_26
      · rw [if_neg c7] at h
        refine go_iconst (pc := 21) X dX1_hasTwo_21 ?_
        refine go_goto (pc := 22) X 26 dX1_hasTwo_22 rfl ?_
        exact go_zretP (pc := 26) X (Or.inr rfl) h dX1_hasTwo_26
set_option maxRecDepth 100000 in
set_option maxHeartbeats 4000000 in
theorem ct_X1_exchange {l : Launch} {D : va_G} {cI cB : ClassId} {Z : (Nat → Nat) × (Nat → Nat)} {ad : Nat → Nat} {S : Mem} {th : Nat} {a1 : Int} {a2 : Int} {S' : Mem} (ho : isBk th) (h : f_X1_exchange S th a1 a2 = some S') : Ctr l D cI cB Z ad shsC yX1_exchange cX1_exchange 7 none 1 22 [.ref (ad th), .int (i32 a1), .int (i32 a2)] S (none) S' := by
  refine ctr_of (by decide +kernel) (Nat.le_of_ble_eq_true rfl) rfl ?_
  intro p e s m args below meth c A X
  unfold f_X1_exchange at h
  refine go_aload_n (pc := 0) X 0 dX1_exchange_0 rfl rfl ?_
  refine go_getr (pc := 1) X (fk := 3) (shB ho) rfl inT_X1 (by decide) fL_X1_21 rfl dX1_exchange_1 ?_
  refine go_iload_n (pc := 4) X 1 dX1_exchange_4 rfl rfl ?_
  obtain ⟨g1, h⟩ := gd_some h
  refine go_iald (pc := 5) X (shB1 ho) (Nat.le_of_ble_eq_true rfl) rfl g1 dX1_exchange_5 ?_
  refine go_istore_n (pc := 6) X [1, 2, 3, 0] (Ls' := [(0, .ref (ad th)), (1, .int (i32 a1)), (2, .int (i32 a2)), (3, .int (i32 (S (th + 1) a1)))]) dX1_exchange_6 rfl (by decide) rfl ?_
  refine go_aload_n (pc := 7) X 0 dX1_exchange_7 rfl rfl ?_
  refine go_getr (pc := 8) X (fk := 3) (shB ho) rfl inT_X1 (by decide) fL_X1_21 rfl dX1_exchange_8 ?_
  refine go_iload_n (pc := 11) X 1 dX1_exchange_11 rfl rfl ?_
  refine go_aload_n (pc := 12) X 0 dX1_exchange_12 rfl rfl ?_
  refine go_getr (pc := 13) X (fk := 3) (shB ho) rfl inT_X1 (by decide) fL_X1_21 rfl dX1_exchange_13 ?_
  refine go_iload_n (pc := 16) X 2 dX1_exchange_16 rfl rfl ?_
  obtain ⟨g2, h⟩ := gd_some h
  refine go_iald (pc := 17) X (shB1 ho) (Nat.le_of_ble_eq_true rfl) rfl g2 dX1_exchange_17 ?_
  obtain ⟨S3, e4, h⟩ := wrk_some h
  refine go_iastE (pc := 18) X e4 (shB1 ho) (Nat.le_of_ble_eq_true rfl) rfl g1 dX1_exchange_18 ?_
  refine go_aload_n (pc := 19) X 0 dX1_exchange_19 rfl rfl ?_
  refine go_getr (pc := 20) X (fk := 3) (shB ho) rfl inT_X1 (by decide) fL_X1_21 rfl dX1_exchange_20 ?_
  refine go_iload_n (pc := 23) X 2 dX1_exchange_23 rfl rfl ?_
  refine go_iload_n (pc := 24) X 3 dX1_exchange_24 rfl rfl ?_
  obtain ⟨S5, e6, h⟩ := wrk_some h
  refine go_iastE (pc := 25) X e6 (shB1 ho) (Nat.le_of_ble_eq_true rfl) rfl g2 dX1_exchange_25 ?_
  refine go_aload_n (pc := 26) X 0 dX1_exchange_26 rfl rfl ?_
  refine go_getr (pc := 27) X (fk := 4) (shB ho) rfl inT_X1 (by decide) fL_X1_25 rfl dX1_exchange_27 ?_
  refine go_iload_n (pc := 30) X 1 dX1_exchange_30 rfl rfl ?_
  refine go_iald (pc := 31) X (shB2 ho) (Nat.le_of_ble_eq_true rfl) rfl g1 dX1_exchange_31 ?_
  refine go_istore (pc := 32) X [1, 2, 3, 4, 0] (Ls' := [(0, .ref (ad th)), (1, .int (i32 a1)), (2, .int (i32 a2)), (3, .int (i32 (S (th + 1) a1))), (4, .int (i32 (S5 (th + 2) a1)))]) dX1_exchange_32 (by decide) rfl ?_
  refine go_aload_n (pc := 34) X 0 dX1_exchange_34 rfl rfl ?_
  refine go_getr (pc := 35) X (fk := 4) (shB ho) rfl inT_X1 (by decide) fL_X1_25 rfl dX1_exchange_35 ?_
  refine go_iload_n (pc := 38) X 1 dX1_exchange_38 rfl rfl ?_
  refine go_aload_n (pc := 39) X 0 dX1_exchange_39 rfl rfl ?_
  refine go_getr (pc := 40) X (fk := 4) (shB ho) rfl inT_X1 (by decide) fL_X1_25 rfl dX1_exchange_40 ?_
  refine go_iload_n (pc := 43) X 2 dX1_exchange_43 rfl rfl ?_
  refine go_iald (pc := 44) X (shB2 ho) (Nat.le_of_ble_eq_true rfl) rfl g2 dX1_exchange_44 ?_
  obtain ⟨S7, e8, h⟩ := wrk_some h
  refine go_iastE (pc := 45) X e8 (shB2 ho) (Nat.le_of_ble_eq_true rfl) rfl g1 dX1_exchange_45 ?_
  refine go_aload_n (pc := 46) X 0 dX1_exchange_46 rfl rfl ?_
  refine go_getr (pc := 47) X (fk := 4) (shB ho) rfl inT_X1 (by decide) fL_X1_25 rfl dX1_exchange_47 ?_
  refine go_iload_n (pc := 50) X 2 dX1_exchange_50 rfl rfl ?_
  refine go_iload (pc := 51) X 4 dX1_exchange_51 rfl ?_
  obtain ⟨S9, e10, h⟩ := wrk_some h
  refine go_iastE (pc := 53) X e10 (shB2 ho) (Nat.le_of_ble_eq_true rfl) rfl g2 dX1_exchange_53 ?_
  refine go_iconst (pc := 54) X dX1_exchange_54 ?_
  refine go_istore (pc := 55) X [1, 2, 3, 4, 5, 0] (Ls' := [(0, .ref (ad th)), (1, .int (i32 a1)), (2, .int (i32 a2)), (3, .int (i32 (S (th + 1) a1))), (4, .int (i32 (S5 (th + 2) a1))), (5, .int (i32 0))]) dX1_exchange_55 (by decide) rfl ?_
  obtain ⟨r22, h23, h⟩ := bind_some h
  have H24 : ∀ (n : Nat) (t25 : Int × Mem) (z26 : Mem), lp (f_X1_exchange_l57 th a1 a2) n t25 = some z26 → Go p l e { frames := 1, cells := 0, slots := 0, locals := 22 } s m args below meth c 7 D cI cB ad shsC A (MQ below (cQ D cI cB ad shsC (none) S' A) args s 0 0 A) 112 [] [] z26 → Go p l e { frames := 1, cells := 0, slots := 0, locals := 22 } s m args below meth c 7 D cI cB ad shsC A (MQ below (cQ D cI cB ad shsC (none) S' A) args s 0 0 A) 57 [(0, .ref (ad th)), (1, .int (i32 a1)), (2, .int (i32 a2)), (5, .int (i32 t25.1))] [] t25.2 := by
    refine lp_go (fun t25 : Int × Mem => Go p l e { frames := 1, cells := 0, slots := 0, locals := 22 } s m args below meth c 7 D cI cB ad shsC A (MQ below (cQ D cI cB ad shsC (none) S' A) args s 0 0 A) 57 [(0, .ref (ad th)), (1, .int (i32 a1)), (2, .int (i32 a2)), (5, .int (i32 t25.1))] [] t25.2) (fun z26 : Mem => Go p l e { frames := 1, cells := 0, slots := 0, locals := 22 } s m args below meth c 7 D cI cB ad shsC A (MQ below (cQ D cI cB ad shsC (none) S' A) args s 0 0 A) 112 [] [] z26) ?_
    intro t25 x27 h hx28
    unfold f_X1_exchange_l57 at h
    refine go_iload (pc := 57) X 3 dX1_exchange_57 rfl ?_
    refine go_bipush (pc := 59) X dX1_exchange_59 (by decide) (by decide) ?_
    refine go_icmp_ge (pc := 61) X 112 dX1_exchange_61 rfl (fun c30 => ?_) (fun c30 => ?_)
    · rw [if_neg c30] at h
      refine go_pick [] (Ls' := []) rfl ?_
      exact lp_back h hx28
    · rw [if_pos c30] at h
      refine go_aload_n (pc := 64) X 0 dX1_exchange_64 rfl rfl ?_
      refine go_iload_n (pc := 65) X 1 dX1_exchange_65 rfl rfl ?_
      refine go_iload (pc := 66) X 3 dX1_exchange_66 rfl ?_
      obtain ⟨r31, h32, h⟩ := bind_some h
      refine go_callVi (pc := 68) X 2 [] (ct_X1_valueAt ho h32) (shB ho) rfl gg_X1_51 hd_X1_valueAt ⟨Nat.le_of_ble_eq_true rfl, Nat.le_of_ble_eq_true rfl⟩ rfl rfl (Nat.le_of_ble_eq_true rfl) dX1_exchange_68 ?_
      refine go_istore (pc := 71) X [1, 2, 3, 4, 0] (Ls' := [(0, .ref (ad th)), (1, .int (i32 a1)), (2, .int (i32 a2)), (5, .int (i32 t25.1)), (6, .int (i32 r31))]) dX1_exchange_71 (by decide) rfl ?_
      refine go_aload_n (pc := 73) X 0 dX1_exchange_73 rfl rfl ?_
      refine go_getr (pc := 74) X (fk := 5) (shB ho) rfl inT_X1 (by decide) fL_X1_28 rfl dX1_exchange_74 ?_
      refine go_iload_n (pc := 77) X 1 dX1_exchange_77 rfl rfl ?_
      refine go_bipush (pc := 78) X dX1_exchange_78 (by decide) (by decide) ?_
      refine go_imul (pc := 80) X dX1_exchange_80 ?_
      refine go_iload (pc := 81) X 3 dX1_exchange_81 rfl ?_
      refine go_iadd (pc := 83) X dX1_exchange_83 ?_
      refine go_aload_n (pc := 84) X 0 dX1_exchange_84 rfl rfl ?_
      refine go_iload_n (pc := 85) X 2 dX1_exchange_85 rfl rfl ?_
      refine go_iload (pc := 86) X 3 dX1_exchange_86 rfl ?_
      obtain ⟨r33, h34, h⟩ := bind_some h
      refine go_callVi (pc := 88) X 2 [.int (i32 ((a1 * 8) + t25.1)), .ref (ad (th + 3))] (ct_X1_valueAt ho h34) (shB ho) rfl gg_X1_51 hd_X1_valueAt ⟨Nat.le_of_ble_eq_true rfl, Nat.le_of_ble_eq_true rfl⟩ rfl rfl (Nat.le_of_ble_eq_true rfl) dX1_exchange_88 ?_
      obtain ⟨g35, h⟩ := gd_some h
      obtain ⟨S36, e37, h⟩ := wrk_some h
      refine go_iastE (pc := 91) X e37 (shB3 ho) (Nat.le_of_ble_eq_true rfl) rfl g35 dX1_exchange_91 ?_
      refine go_aload_n (pc := 92) X 0 dX1_exchange_92 rfl rfl ?_
      refine go_getr (pc := 93) X (fk := 5) (shB ho) rfl inT_X1 (by decide) fL_X1_28 rfl dX1_exchange_93 ?_
      refine go_iload_n (pc := 96) X 2 dX1_exchange_96 rfl rfl ?_
      refine go_bipush (pc := 97) X dX1_exchange_97 (by decide) (by decide) ?_
      refine go_imul (pc := 99) X dX1_exchange_99 ?_
      refine go_iload (pc := 100) X 3 dX1_exchange_100 rfl ?_
      refine go_iadd (pc := 102) X dX1_exchange_102 ?_
      refine go_iload (pc := 103) X 4 dX1_exchange_103 rfl ?_
      obtain ⟨g38, h⟩ := gd_some h
      obtain ⟨S39, e40, h⟩ := wrk_some h
      refine go_iastE (pc := 105) X e40 (shB3 ho) (Nat.le_of_ble_eq_true rfl) rfl g38 dX1_exchange_105 ?_
      refine go_iinc (pc := 106) X [1, 2, 3, 0, 4] 3 (Ls' := [(0, .ref (ad th)), (1, .int (i32 a1)), (2, .int (i32 a2)), (5, .int (i32 (t25.1 + 1))), (6, .int (i32 r31))]) dX1_exchange_106 rfl (by decide) rfl ?_
      refine go_goto (pc := 109) X 57 dX1_exchange_109 rfl ?_
      refine go_pick [0, 1, 2, 3] (Ls' := [(0, .ref (ad th)), (1, .int (i32 a1)), (2, .int (i32 a2)), (5, .int (i32 (t25.1 + 1)))]) rfl ?_
      exact lp_back h hx28
  refine go_pick [0, 1, 2, 5] (Ls' := [(0, .ref (ad th)), (1, .int (i32 a1)), (2, .int (i32 a2)), (5, .int (i32 0))]) rfl ?_
  refine H24 FU (0, S9) r22 h23 ?_
  exact go_vret (pc := 112) X h dX1_exchange_112
set_option maxRecDepth 100000 in
set_option maxHeartbeats 4000000 in
theorem ct_X1_moveBidder {l : Launch} {D : va_G} {cI cB : ClassId} {Z : (Nat → Nat) × (Nat → Nat)} {ad : Nat → Nat} {S : Mem} {th : Nat} {a1 : Int} {a2 : Int} {S' : Mem} (ho : isBk th) (h : f_X1_moveBidder S th a1 a2 = some S') : Ctr l D cI cB Z ad shsC yX1_moveBidder cX1_moveBidder 4 none 2 48 [.ref (ad th), .int (i32 a1), .int (i32 a2)] S (none) S' := by
  refine ctr_of (by decide +kernel) (Nat.le_of_ble_eq_true rfl) rfl ?_
  intro p e s m args below meth c A X
  unfold f_X1_moveBidder at h
  refine go_iload_n (pc := 0) X 1 dX1_moveBidder_0 rfl rfl ?_
  refine go_istore_n (pc := 1) X [1, 2, 3, 0] (Ls' := [(0, .ref (ad th)), (1, .int (i32 a1)), (2, .int (i32 a2)), (3, .int (i32 a1))]) dX1_moveBidder_1 rfl (by decide) rfl ?_
  obtain ⟨r4, h5, h⟩ := bind_some h
  have H6 : ∀ (n : Nat) (t7 : Int × Mem) (z8 : Mem), lp (f_X1_moveBidder_l2 th a1 a2) n t7 = some z8 → Go p l e { frames := 2, cells := 0, slots := 0, locals := 48 } s m args below meth c 4 D cI cB ad shsC A (MQ below (cQ D cI cB ad shsC (none) S' A) args s 0 0 A) 21 [(0, .ref (ad th)), (1, .int (i32 a1)), (2, .int (i32 a2))] [] z8 → Go p l e { frames := 2, cells := 0, slots := 0, locals := 48 } s m args below meth c 4 D cI cB ad shsC A (MQ below (cQ D cI cB ad shsC (none) S' A) args s 0 0 A) 2 [(0, .ref (ad th)), (1, .int (i32 a1)), (2, .int (i32 a2)), (3, .int (i32 t7.1))] [] t7.2 := by
    refine lp_go (fun t7 : Int × Mem => Go p l e { frames := 2, cells := 0, slots := 0, locals := 48 } s m args below meth c 4 D cI cB ad shsC A (MQ below (cQ D cI cB ad shsC (none) S' A) args s 0 0 A) 2 [(0, .ref (ad th)), (1, .int (i32 a1)), (2, .int (i32 a2)), (3, .int (i32 t7.1))] [] t7.2) (fun z8 : Mem => Go p l e { frames := 2, cells := 0, slots := 0, locals := 48 } s m args below meth c 4 D cI cB ad shsC A (MQ below (cQ D cI cB ad shsC (none) S' A) args s 0 0 A) 21 [(0, .ref (ad th)), (1, .int (i32 a1)), (2, .int (i32 a2))] [] z8) ?_
    intro t7 x9 h hx10
    unfold f_X1_moveBidder_l2 at h
    refine go_iload_n (pc := 2) X 3 dX1_moveBidder_2 rfl rfl ?_
    refine go_iload_n (pc := 3) X 2 dX1_moveBidder_3 rfl rfl ?_
    refine go_icmp_ge (pc := 4) X 21 dX1_moveBidder_4 rfl (fun c12 => ?_) (fun c12 => ?_)
    · rw [if_neg c12] at h
      refine go_pick [0, 1, 2] (Ls' := [(0, .ref (ad th)), (1, .int (i32 a1)), (2, .int (i32 a2))]) rfl ?_
      exact lp_back h hx10
    · rw [if_pos c12] at h
      refine go_aload_n (pc := 7) X 0 dX1_moveBidder_7 rfl rfl ?_
      refine go_iload_n (pc := 8) X 3 dX1_moveBidder_8 rfl rfl ?_
      refine go_iload_n (pc := 9) X 3 dX1_moveBidder_9 rfl rfl ?_
      refine go_iconst (pc := 10) X dX1_moveBidder_10 ?_
      refine go_iadd (pc := 11) X dX1_moveBidder_11 ?_
      obtain ⟨S13, h14, h⟩ := bind_some h
      refine go_callVv (pc := 12) X 2 [] (ct_X1_exchange ho h14) (shB ho) rfl gg_X1_55 hd_X1_exchange ⟨Nat.le_of_ble_eq_true rfl, Nat.le_of_ble_eq_true rfl⟩ rfl rfl (Nat.le_of_ble_eq_true rfl) dX1_moveBidder_12 ?_
      refine go_iinc (pc := 15) X [1, 2, 3, 0] 3 (Ls' := [(0, .ref (ad th)), (1, .int (i32 a1)), (2, .int (i32 a2)), (3, .int (i32 (t7.1 + 1)))]) dX1_moveBidder_15 rfl (by decide) rfl ?_
      refine go_goto (pc := 18) X 2 dX1_moveBidder_18 rfl ?_
      exact lp_back h hx10
  refine H6 FU (a1, S) r4 h5 ?_
  refine go_iload_n (pc := 21) X 1 dX1_moveBidder_21 rfl rfl ?_
  refine go_istore_n (pc := 22) X [1, 2, 3, 0] (Ls' := [(0, .ref (ad th)), (1, .int (i32 a1)), (2, .int (i32 a2)), (3, .int (i32 a1))]) dX1_moveBidder_22 rfl (by decide) rfl ?_
  obtain ⟨r18, h19, h⟩ := bind_some h
  have H20 : ∀ (n : Nat) (t21 : Int × Mem) (z22 : Mem), lp (f_X1_moveBidder_l23 th a2) n t21 = some z22 → Go p l e { frames := 2, cells := 0, slots := 0, locals := 48 } s m args below meth c 4 D cI cB ad shsC A (MQ below (cQ D cI cB ad shsC (none) S' A) args s 0 0 A) 42 [] [] z22 → Go p l e { frames := 2, cells := 0, slots := 0, locals := 48 } s m args below meth c 4 D cI cB ad shsC A (MQ below (cQ D cI cB ad shsC (none) S' A) args s 0 0 A) 23 [(0, .ref (ad th)), (2, .int (i32 a2)), (3, .int (i32 t21.1))] [] t21.2 := by
    refine lp_go (fun t21 : Int × Mem => Go p l e { frames := 2, cells := 0, slots := 0, locals := 48 } s m args below meth c 4 D cI cB ad shsC A (MQ below (cQ D cI cB ad shsC (none) S' A) args s 0 0 A) 23 [(0, .ref (ad th)), (2, .int (i32 a2)), (3, .int (i32 t21.1))] [] t21.2) (fun z22 : Mem => Go p l e { frames := 2, cells := 0, slots := 0, locals := 48 } s m args below meth c 4 D cI cB ad shsC A (MQ below (cQ D cI cB ad shsC (none) S' A) args s 0 0 A) 42 [] [] z22) ?_
    intro t21 x23 h hx24
    unfold f_X1_moveBidder_l23 at h
    refine go_iload_n (pc := 23) X 2 dX1_moveBidder_23 rfl rfl ?_
    refine go_iload_n (pc := 24) X 1 dX1_moveBidder_24 rfl rfl ?_
    refine go_icmp_le (pc := 25) X 42 dX1_moveBidder_25 rfl (fun c26 => ?_) (fun c26 => ?_)
    · rw [if_neg c26] at h
      refine go_pick [] (Ls' := []) rfl ?_
      exact lp_back h hx24
    · rw [if_pos c26] at h
      refine go_aload_n (pc := 28) X 0 dX1_moveBidder_28 rfl rfl ?_
      refine go_iload_n (pc := 29) X 2 dX1_moveBidder_29 rfl rfl ?_
      refine go_iload_n (pc := 30) X 2 dX1_moveBidder_30 rfl rfl ?_
      refine go_iconst (pc := 31) X dX1_moveBidder_31 ?_
      refine go_isub (pc := 32) X dX1_moveBidder_32 ?_
      obtain ⟨S27, h28, h⟩ := bind_some h
      refine go_callVv (pc := 33) X 2 [] (ct_X1_exchange ho h28) (shB ho) rfl gg_X1_55 hd_X1_exchange ⟨Nat.le_of_ble_eq_true rfl, Nat.le_of_ble_eq_true rfl⟩ rfl rfl (Nat.le_of_ble_eq_true rfl) dX1_moveBidder_33 ?_
      refine go_iinc (pc := 36) X [1, 2, 0] 2 (Ls' := [(0, .ref (ad th)), (2, .int (i32 a2)), (3, .int (i32 (t21.1 + (-1))))]) dX1_moveBidder_36 rfl (by decide) rfl ?_
      refine go_goto (pc := 39) X 23 dX1_moveBidder_39 rfl ?_
      exact lp_back h hx24
  refine go_pick [0, 2, 3] (Ls' := [(0, .ref (ad th)), (2, .int (i32 a2)), (3, .int (i32 a1))]) rfl ?_
  refine H20 FU (a1, r4) r18 h19 ?_
  exact go_vret (pc := 42) X h dX1_moveBidder_42
set_option maxRecDepth 100000 in
set_option maxHeartbeats 4000000 in
theorem ct_X1_valuesAbove {l : Launch} {D : va_G} {cI cB : ClassId} {Z : (Nat → Nat) × (Nat → Nat)} {ad : Nat → Nat} {S : Mem} {th : Nat} {a1 : Int} {a2 : Int} {r : Int} (ho : isBk th) (h : f_X1_valuesAbove S th a1 a2 = some r) : Ctr l D cI cB Z ad shsC yX1_valuesAbove cX1_valuesAbove 4 (some .int) 1 22 [.ref (ad th), .int (i32 a1), .int (i32 a2)] S (some (.int (i32 r))) S := by
  refine ctr_of (by decide +kernel) (Nat.le_of_ble_eq_true rfl) rfl ?_
  intro p e s m args below meth c A X
  unfold f_X1_valuesAbove at h
  refine go_iconst (pc := 0) X dX1_valuesAbove_0 ?_
  refine go_istore_n (pc := 1) X [1, 2, 3, 0] (Ls' := [(0, .ref (ad th)), (1, .int (i32 a1)), (2, .int (i32 a2)), (3, .int (i32 0))]) dX1_valuesAbove_1 rfl (by decide) rfl ?_
  obtain ⟨r6, h7, h⟩ := bind_some h
  have H8 : ∀ (n : Nat) (t9 : Int) (z10 : Int), lp (f_X1_valuesAbove_l2 S th a1 a2) n t9 = some z10 → Go p l e { frames := 1, cells := 0, slots := 0, locals := 22 } s m args below meth c 4 D cI cB ad shsC A (MQ below (cQ D cI cB ad shsC (some (.int (i32 r))) S A) args s 0 0 A) 28 [(3, .int (i32 z10))] [] S → Go p l e { frames := 1, cells := 0, slots := 0, locals := 22 } s m args below meth c 4 D cI cB ad shsC A (MQ below (cQ D cI cB ad shsC (some (.int (i32 r))) S A) args s 0 0 A) 2 [(0, .ref (ad th)), (1, .int (i32 a1)), (2, .int (i32 a2)), (3, .int (i32 t9))] [] S := by
    refine lp_go (fun t9 : Int => Go p l e { frames := 1, cells := 0, slots := 0, locals := 22 } s m args below meth c 4 D cI cB ad shsC A (MQ below (cQ D cI cB ad shsC (some (.int (i32 r))) S A) args s 0 0 A) 2 [(0, .ref (ad th)), (1, .int (i32 a1)), (2, .int (i32 a2)), (3, .int (i32 t9))] [] S) (fun z10 : Int => Go p l e { frames := 1, cells := 0, slots := 0, locals := 22 } s m args below meth c 4 D cI cB ad shsC A (MQ below (cQ D cI cB ad shsC (some (.int (i32 r))) S A) args s 0 0 A) 28 [(3, .int (i32 z10))] [] S) ?_
    intro t9 x11 h hx12
    unfold f_X1_valuesAbove_l2 at h
    refine go_iload_n (pc := 2) X 3 dX1_valuesAbove_2 rfl rfl ?_
    refine go_aload_n (pc := 3) X 0 dX1_valuesAbove_3 rfl rfl ?_
    refine go_getr (pc := 4) X (fk := 3) (shB ho) rfl inT_X1 (by decide) fL_X1_21 rfl dX1_valuesAbove_4 ?_
    refine go_iload_n (pc := 7) X 1 dX1_valuesAbove_7 rfl rfl ?_
    obtain ⟨g14, h⟩ := gd_some h
    refine go_iald (pc := 8) X (shB1 ho) (Nat.le_of_ble_eq_true rfl) rfl g14 dX1_valuesAbove_8 ?_
    refine go_icmp_ge (pc := 9) X 28 dX1_valuesAbove_9 rfl (fun c15 => ?_) (fun c15 => ?_)
    · rw [if_neg c15] at h
      refine go_pick [3] (Ls' := [(3, .int (i32 t9))]) rfl ?_
      exact lp_back h hx12
    · rw [if_pos c15] at h
      refine go_aload_n (pc := 12) X 0 dX1_valuesAbove_12 rfl rfl ?_
      refine go_iload_n (pc := 13) X 1 dX1_valuesAbove_13 rfl rfl ?_
      refine go_iload_n (pc := 14) X 3 dX1_valuesAbove_14 rfl rfl ?_
      obtain ⟨r16, h17, h⟩ := bind_some h
      refine go_callVi (pc := 15) X 2 [] (ct_X1_valueAt ho h17) (shB ho) rfl gg_X1_51 hd_X1_valueAt ⟨Nat.le_of_ble_eq_true rfl, Nat.le_of_ble_eq_true rfl⟩ rfl rfl (Nat.le_of_ble_eq_true rfl) dX1_valuesAbove_15 ?_
      refine go_iload_n (pc := 18) X 2 dX1_valuesAbove_18 rfl rfl ?_
      refine go_icmp_le (pc := 19) X 28 dX1_valuesAbove_19 rfl (fun c18 => ?_) (fun c18 => ?_)
      · rw [if_neg c18] at h
        refine go_pick [3] (Ls' := [(3, .int (i32 t9))]) rfl ?_
        exact lp_back h hx12
      · rw [if_pos c18] at h
        refine go_iinc (pc := 22) X [1, 2, 3, 0] 3 (Ls' := [(0, .ref (ad th)), (1, .int (i32 a1)), (2, .int (i32 a2)), (3, .int (i32 (t9 + 1)))]) dX1_valuesAbove_22 rfl (by decide) rfl ?_
        refine go_goto (pc := 25) X 2 dX1_valuesAbove_25 rfl ?_
        exact lp_back h hx12
  refine H8 FU 0 r6 h7 ?_
  refine go_iload_n (pc := 28) X 0 dX1_valuesAbove_28 rfl rfl ?_
  exact go_iretP (pc := 29) X h dX1_valuesAbove_29
set_option maxRecDepth 100000 in
set_option maxHeartbeats 4000000 in
theorem ct_X1_takesOf {l : Launch} {D : va_G} {cI cB : ClassId} {Z : (Nat → Nat) × (Nat → Nat)} {ad : Nat → Nat} {S : Mem} {th : Nat} {a1 : Int} {a2 : Int} {r : Int} (ho : isBk th) (h : f_X1_takesOf S th a1 a2 = some r) : Ctr l D cI cB Z ad shsC yX1_takesOf cX1_takesOf 3 (some .int) 2 45 [.ref (ad th), .int (i32 a1), .int (i32 a2)] S (some (.int (i32 r))) S := by
  refine ctr_of (by decide +kernel) (Nat.le_of_ble_eq_true rfl) rfl ?_
  intro p e s m args below meth c A X
  unfold f_X1_takesOf at h
  refine go_aload_n (pc := 0) X 0 dX1_takesOf_0 rfl rfl ?_
  refine go_getr (pc := 1) X (fk := 4) (shB ho) rfl inT_X1 (by decide) fL_X1_25 rfl dX1_takesOf_1 ?_
  refine go_iload_n (pc := 4) X 1 dX1_takesOf_4 rfl rfl ?_
  obtain ⟨g1, h⟩ := gd_some h
  refine go_iald (pc := 5) X (shB2 ho) (Nat.le_of_ble_eq_true rfl) rfl g1 dX1_takesOf_5 ?_
  refine go_aload_n (pc := 6) X 0 dX1_takesOf_6 rfl rfl ?_
  refine go_iload_n (pc := 7) X 1 dX1_takesOf_7 rfl rfl ?_
  refine go_iload_n (pc := 8) X 2 dX1_takesOf_8 rfl rfl ?_
  refine go_iconst (pc := 9) X dX1_takesOf_9 ?_
  refine go_isub (pc := 10) X dX1_takesOf_10 ?_
  obtain ⟨r2, h3, h⟩ := bind_some h
  refine go_callVi (pc := 11) X 2 [.int (i32 (S (th + 2) a1))] (ct_X1_valuesAbove ho h3) (shB ho) rfl gg_X1_81 hd_X1_valuesAbove ⟨Nat.le_of_ble_eq_true rfl, Nat.le_of_ble_eq_true rfl⟩ rfl rfl (Nat.le_of_ble_eq_true rfl) dX1_takesOf_11 ?_
  refine go_mmin (pc := 14) X mL_X1_63 (Nat.le_of_ble_eq_true rfl) (Nat.le_of_ble_eq_true rfl) dX1_takesOf_14 ?_
  exact go_iretP (pc := 17) X h dX1_takesOf_17
set_option maxRecDepth 100000 in
set_option maxHeartbeats 4000000 in
theorem ct_X1_sumOfFirst {l : Launch} {D : va_G} {cI cB : ClassId} {Z : (Nat → Nat) × (Nat → Nat)} {ad : Nat → Nat} {S : Mem} {th : Nat} {a1 : Int} {a2 : Int} {r : Int} (ho : isBk th) (h : f_X1_sumOfFirst S th a1 a2 = some r) : Ctr l D cI cB Z ad shsC yX1_sumOfFirst cX1_sumOfFirst 5 (some .int) 1 22 [.ref (ad th), .int (i32 a1), .int (i32 a2)] S (some (.int (i32 r))) S := by
  refine ctr_of (by decide +kernel) (Nat.le_of_ble_eq_true rfl) rfl ?_
  intro p e s m args below meth c A X
  unfold f_X1_sumOfFirst at h
  refine go_iconst (pc := 0) X dX1_sumOfFirst_0 ?_
  refine go_istore_n (pc := 1) X [1, 2, 3, 0] (Ls' := [(0, .ref (ad th)), (1, .int (i32 a1)), (2, .int (i32 a2)), (3, .int (i32 0))]) dX1_sumOfFirst_1 rfl (by decide) rfl ?_
  refine go_iconst (pc := 2) X dX1_sumOfFirst_2 ?_
  refine go_istore (pc := 3) X [1, 2, 3, 4, 0] (Ls' := [(0, .ref (ad th)), (1, .int (i32 a1)), (2, .int (i32 a2)), (3, .int (i32 0)), (4, .int (i32 0))]) dX1_sumOfFirst_3 (by decide) rfl ?_
  obtain ⟨r6, h7, h⟩ := bind_some h
  have H8 : ∀ (n : Nat) (t9 : Int × Int) (z10 : Int), lp (f_X1_sumOfFirst_l5 S th a1 a2) n t9 = some z10 → Go p l e { frames := 1, cells := 0, slots := 0, locals := 22 } s m args below meth c 5 D cI cB ad shsC A (MQ below (cQ D cI cB ad shsC (some (.int (i32 r))) S A) args s 0 0 A) 38 [(3, .int (i32 z10))] [] S → Go p l e { frames := 1, cells := 0, slots := 0, locals := 22 } s m args below meth c 5 D cI cB ad shsC A (MQ below (cQ D cI cB ad shsC (some (.int (i32 r))) S A) args s 0 0 A) 5 [(0, .ref (ad th)), (1, .int (i32 a1)), (2, .int (i32 a2)), (3, .int (i32 t9.1)), (4, .int (i32 t9.2))] [] S := by
    refine lp_go (fun t9 : Int × Int => Go p l e { frames := 1, cells := 0, slots := 0, locals := 22 } s m args below meth c 5 D cI cB ad shsC A (MQ below (cQ D cI cB ad shsC (some (.int (i32 r))) S A) args s 0 0 A) 5 [(0, .ref (ad th)), (1, .int (i32 a1)), (2, .int (i32 a2)), (3, .int (i32 t9.1)), (4, .int (i32 t9.2))] [] S) (fun z10 : Int => Go p l e { frames := 1, cells := 0, slots := 0, locals := 22 } s m args below meth c 5 D cI cB ad shsC A (MQ below (cQ D cI cB ad shsC (some (.int (i32 r))) S A) args s 0 0 A) 38 [(3, .int (i32 z10))] [] S) ?_
    intro t9 x11 h hx12
    unfold f_X1_sumOfFirst_l5 at h
    refine go_iload (pc := 5) X 4 dX1_sumOfFirst_5 rfl ?_
    refine go_iload_n (pc := 7) X 2 dX1_sumOfFirst_7 rfl rfl ?_
    refine go_icmp_ge (pc := 8) X 38 dX1_sumOfFirst_8 rfl (fun c14 => ?_) (fun c14 => ?_)
    · rw [if_neg c14] at h
      refine go_pick [3] (Ls' := [(3, .int (i32 t9.1))]) rfl ?_
      exact lp_back h hx12
    · rw [if_pos c14] at h
      refine go_iload (pc := 11) X 4 dX1_sumOfFirst_11 rfl ?_
      refine go_aload_n (pc := 13) X 0 dX1_sumOfFirst_13 rfl rfl ?_
      refine go_getr (pc := 14) X (fk := 3) (shB ho) rfl inT_X1 (by decide) fL_X1_21 rfl dX1_sumOfFirst_14 ?_
      refine go_iload_n (pc := 17) X 1 dX1_sumOfFirst_17 rfl rfl ?_
      obtain ⟨g15, h⟩ := gd_some h
      refine go_iald (pc := 18) X (shB1 ho) (Nat.le_of_ble_eq_true rfl) rfl g15 dX1_sumOfFirst_18 ?_
      refine go_icmp_ge (pc := 19) X 38 dX1_sumOfFirst_19 rfl (fun c16 => ?_) (fun c16 => ?_)
      · rw [if_neg c16] at h
        refine go_pick [3] (Ls' := [(3, .int (i32 t9.1))]) rfl ?_
        exact lp_back h hx12
      · rw [if_pos c16] at h
        refine go_iload_n (pc := 22) X 3 dX1_sumOfFirst_22 rfl rfl ?_
        refine go_aload_n (pc := 23) X 0 dX1_sumOfFirst_23 rfl rfl ?_
        refine go_iload_n (pc := 24) X 1 dX1_sumOfFirst_24 rfl rfl ?_
        refine go_iload (pc := 25) X 4 dX1_sumOfFirst_25 rfl ?_
        obtain ⟨r17, h18, h⟩ := bind_some h
        refine go_callVi (pc := 27) X 2 [.int (i32 t9.1)] (ct_X1_valueAt ho h18) (shB ho) rfl gg_X1_51 hd_X1_valueAt ⟨Nat.le_of_ble_eq_true rfl, Nat.le_of_ble_eq_true rfl⟩ rfl rfl (Nat.le_of_ble_eq_true rfl) dX1_sumOfFirst_27 ?_
        refine go_iadd (pc := 30) X dX1_sumOfFirst_30 ?_
        refine go_istore_n (pc := 31) X [1, 2, 3, 0, 4] (Ls' := [(0, .ref (ad th)), (1, .int (i32 a1)), (2, .int (i32 a2)), (3, .int (i32 (t9.1 + r17))), (4, .int (i32 t9.2))]) dX1_sumOfFirst_31 rfl (by decide) rfl ?_
        refine go_iinc (pc := 32) X [1, 2, 3, 4, 0] 4 (Ls' := [(0, .ref (ad th)), (1, .int (i32 a1)), (2, .int (i32 a2)), (3, .int (i32 (t9.1 + r17))), (4, .int (i32 (t9.2 + 1)))]) dX1_sumOfFirst_32 rfl (by decide) rfl ?_
        refine go_goto (pc := 35) X 5 dX1_sumOfFirst_35 rfl ?_
        exact lp_back h hx12
  refine H8 FU (0, 0) r6 h7 ?_
  refine go_iload_n (pc := 38) X 0 dX1_sumOfFirst_38 rfl rfl ?_
  exact go_iretP (pc := 39) X h dX1_sumOfFirst_39
set_option maxRecDepth 100000 in
set_option maxHeartbeats 4000000 in
theorem ct_X1_everyone {l : Launch} {D : va_G} {cI cB : ClassId} {Z : (Nat → Nat) × (Nat → Nat)} {ad : Nat → Nat} {S : Mem} {th : Nat} {r : Int} (ho : isBk th) (h : f_X1_everyone S th = some r) : Ctr l D cI cB Z ad shsC yX1_everyone cX1_everyone 1 (some .int) 0 0 [.ref (ad th)] S (some (.int (i32 r))) S := by
  refine ctr_of (by decide +kernel) (Nat.le_of_ble_eq_true rfl) rfl ?_
  intro p e s m args below meth c A X
  unfold f_X1_everyone at h
  refine go_iconst (pc := 0) X dX1_everyone_0 ?_
  refine go_aload_n (pc := 1) X 0 dX1_everyone_1 rfl rfl ?_
  refine go_get (pc := 2) X (fk := 2) (fi := 2) rfl (shB ho) rfl inT_X1 (by decide) fL_X1_18 rfl dX1_everyone_2 ?_
  refine go_ishl (pc := 5) X dX1_everyone_5 ?_
  refine go_iconst (pc := 6) X dX1_everyone_6 ?_
  refine go_isub (pc := 7) X dX1_everyone_7 ?_
  exact go_iretP (pc := 8) X h dX1_everyone_8
set_option maxRecDepth 100000 in
set_option maxHeartbeats 4000000 in
theorem ct_X1_usable {l : Launch} {D : va_G} {cI cB : ClassId} {Z : (Nat → Nat) × (Nat → Nat)} {ad : Nat → Nat} {S : Mem} {th : Nat} {a1 : Int} {r : Int} (ho : isBk th) (h : f_X1_usable S th a1 = some r) : Ctr l D cI cB Z ad shsC yX1_usable cX1_usable 2 (some .int) 1 21 [.ref (ad th), .int (i32 a1)] S (some (.int (i32 r))) S := by
  refine ctr_of (by decide +kernel) (Nat.le_of_ble_eq_true rfl) rfl ?_
  intro p e s m args below meth c A X
  unfold f_X1_usable at h
  refine go_aload_n (pc := 0) X 0 dX1_usable_0 rfl rfl ?_
  refine go_getr (pc := 1) X (fk := 3) (shB ho) rfl inT_X1 (by decide) fL_X1_21 rfl dX1_usable_1 ?_
  refine go_iload_n (pc := 4) X 1 dX1_usable_4 rfl rfl ?_
  obtain ⟨g1, h⟩ := gd_some h
  refine go_iald (pc := 5) X (shB1 ho) (Nat.le_of_ble_eq_true rfl) rfl g1 dX1_usable_5 ?_
  refine go_aload_n (pc := 6) X 0 dX1_usable_6 rfl rfl ?_
  refine go_getr (pc := 7) X (fk := 4) (shB ho) rfl inT_X1 (by decide) fL_X1_25 rfl dX1_usable_7 ?_
  refine go_iload_n (pc := 10) X 1 dX1_usable_10 rfl rfl ?_
  refine go_iald (pc := 11) X (shB2 ho) (Nat.le_of_ble_eq_true rfl) rfl g1 dX1_usable_11 ?_
  refine go_mmin (pc := 12) X mL_X1_63 (Nat.le_of_ble_eq_true rfl) (Nat.le_of_ble_eq_true rfl) dX1_usable_12 ?_
  exact go_iretP (pc := 15) X h dX1_usable_15
set_option maxRecDepth 100000 in
set_option maxHeartbeats 4000000 in
theorem ct_X1_nextGreatest {l : Launch} {D : va_G} {cI cB : ClassId} {Z : (Nat → Nat) × (Nat → Nat)} {ad : Nat → Nat} {S : Mem} {th : Nat} {a1 : Int} {r : Int} (ho : isBk th) (h : f_X1_nextGreatest S th a1 = some r) : Ctr l D cI cB Z ad shsC yX1_nextGreatest cX1_nextGreatest 5 (some .int) 1 22 [.ref (ad th), .int (i32 a1)] S (some (.int (i32 r))) S := by
  refine ctr_of (by decide +kernel) (Nat.le_of_ble_eq_true rfl) rfl ?_
  intro p e s m args below meth c A X
  unfold f_X1_nextGreatest at h
  refine go_iconst (pc := 0) X dX1_nextGreatest_0 ?_
  refine go_istore_n (pc := 1) X [1, 2, 0] (Ls' := [(0, .ref (ad th)), (1, .int (i32 a1)), (2, .int (i32 (-1)))]) dX1_nextGreatest_1 rfl (by decide) rfl ?_
  refine go_iload_n (pc := 2) X 1 dX1_nextGreatest_2 rfl rfl ?_
  refine go_istore_n (pc := 3) X [1, 2, 3, 0] (Ls' := [(0, .ref (ad th)), (1, .int (i32 a1)), (2, .int (i32 (-1))), (3, .int (i32 a1))]) dX1_nextGreatest_3 rfl (by decide) rfl ?_
  refine go_iconst (pc := 4) X dX1_nextGreatest_4 ?_
  refine go_istore (pc := 5) X [1, 2, 3, 4, 0] (Ls' := [(0, .ref (ad th)), (1, .int (i32 a1)), (2, .int (i32 (-1))), (3, .int (i32 a1)), (4, .int (i32 0))]) dX1_nextGreatest_5 (by decide) rfl ?_
  obtain ⟨r12, h13, h⟩ := bind_some h
  have H14 : ∀ (n : Nat) (t15 : Int × Int × Int) (z16 : Int), lp (f_X1_nextGreatest_l7 S th) n t15 = some z16 → Go p l e { frames := 1, cells := 0, slots := 0, locals := 22 } s m args below meth c 5 D cI cB ad shsC A (MQ below (cQ D cI cB ad shsC (some (.int (i32 r))) S A) args s 0 0 A) 73 [(2, .int (i32 z16))] [] S → Go p l e { frames := 1, cells := 0, slots := 0, locals := 22 } s m args below meth c 5 D cI cB ad shsC A (MQ below (cQ D cI cB ad shsC (some (.int (i32 r))) S A) args s 0 0 A) 7 [(0, .ref (ad th)), (2, .int (i32 t15.1)), (3, .int (i32 t15.2.1)), (4, .int (i32 t15.2.2))] [] S := by
    refine lp_go (fun t15 : Int × Int × Int => Go p l e { frames := 1, cells := 0, slots := 0, locals := 22 } s m args below meth c 5 D cI cB ad shsC A (MQ below (cQ D cI cB ad shsC (some (.int (i32 r))) S A) args s 0 0 A) 7 [(0, .ref (ad th)), (2, .int (i32 t15.1)), (3, .int (i32 t15.2.1)), (4, .int (i32 t15.2.2))] [] S) (fun z16 : Int => Go p l e { frames := 1, cells := 0, slots := 0, locals := 22 } s m args below meth c 5 D cI cB ad shsC A (MQ below (cQ D cI cB ad shsC (some (.int (i32 r))) S A) args s 0 0 A) 73 [(2, .int (i32 z16))] [] S) ?_
    intro t15 x17 h hx18
    unfold f_X1_nextGreatest_l7 at h
    refine go_iload (pc := 7) X 3 dX1_nextGreatest_7 rfl ?_
    refine go_aload_n (pc := 9) X 0 dX1_nextGreatest_9 rfl rfl ?_
    refine go_get (pc := 10) X (fk := 2) (fi := 2) rfl (shB ho) rfl inT_X1 (by decide) fL_X1_18 rfl dX1_nextGreatest_10 ?_
    refine go_icmp_ge (pc := 13) X 73 dX1_nextGreatest_13 rfl (fun c20 => ?_) (fun c20 => ?_)
    · rw [if_neg c20] at h
      refine go_pick [1] (Ls' := [(2, .int (i32 t15.1))]) rfl ?_
      exact lp_back h hx18
    · rw [if_pos c20] at h
      refine go_aload_n (pc := 16) X 0 dX1_nextGreatest_16 rfl rfl ?_
      refine go_getr (pc := 17) X (fk := 6) (shB ho) rfl inT_X1 (by decide) fL_X1_31 rfl dX1_nextGreatest_17 ?_
      refine go_iload (pc := 20) X 3 dX1_nextGreatest_20 rfl ?_
      obtain ⟨g21, h⟩ := gd_some h
      refine go_iald (pc := 22) X (shB4 ho) (Nat.le_of_ble_eq_true rfl) rfl g21 dX1_nextGreatest_22 ?_
      refine go_aload_n (pc := 23) X 0 dX1_nextGreatest_23 rfl rfl ?_
      refine go_getr (pc := 24) X (fk := 7) (shB ho) rfl inT_X1 (by decide) fL_X1_34 rfl dX1_nextGreatest_24 ?_
      refine go_iload (pc := 27) X 3 dX1_nextGreatest_27 rfl ?_
      refine go_iald (pc := 29) X (shB5 ho) (Nat.le_of_ble_eq_true rfl) rfl g21 dX1_nextGreatest_29 ?_
      obtain ⟨j22, h23, h⟩ := bind_some h
      have k24 : Go p l e { frames := 1, cells := 0, slots := 0, locals := 22 } s m args below meth c 5 D cI cB ad shsC A (MQ below (cQ D cI cB ad shsC (some (.int (i32 r))) S A) args s 0 0 A) 67 [(0, .ref (ad th)), (2, .int (i32 j22.1)), (3, .int (i32 j22.2)), (4, .int (i32 t15.2.2))] [] S := by
        refine go_iinc (pc := 67) X [1, 2, 3, 0] 3 (Ls' := [(0, .ref (ad th)), (2, .int (i32 j22.1)), (3, .int (i32 j22.2)), (4, .int (i32 (t15.2.2 + 1)))]) dX1_nextGreatest_67 rfl (by decide) rfl ?_
        refine go_goto (pc := 70) X 7 dX1_nextGreatest_70 rfl ?_
        exact lp_back h hx18
      refine go_icmp_ge (pc := 30) X 67 dX1_nextGreatest_30 rfl (fun c25 => ?_) (fun c25 => ?_)
      · rw [if_neg c25] at h23
        cases h23
        exact k24
      · rw [if_pos c25] at h23
        refine go_aload_n (pc := 33) X 0 dX1_nextGreatest_33 rfl rfl ?_
        refine go_iload (pc := 34) X 3 dX1_nextGreatest_34 rfl ?_
        refine go_aload_n (pc := 36) X 0 dX1_nextGreatest_36 rfl rfl ?_
        refine go_getr (pc := 37) X (fk := 6) (shB ho) rfl inT_X1 (by decide) fL_X1_31 rfl dX1_nextGreatest_37 ?_
        refine go_iload (pc := 40) X 3 dX1_nextGreatest_40 rfl ?_
        refine go_iald (pc := 42) X (shB4 ho) (Nat.le_of_ble_eq_true rfl) rfl g21 dX1_nextGreatest_42 ?_
        obtain ⟨r26, h27, h23⟩ := bind_some h23
        refine go_callVi (pc := 43) X 2 [] (ct_X1_valueAt ho h27) (shB ho) rfl gg_X1_51 hd_X1_valueAt ⟨Nat.le_of_ble_eq_true rfl, Nat.le_of_ble_eq_true rfl⟩ rfl rfl (Nat.le_of_ble_eq_true rfl) dX1_nextGreatest_43 ?_
        refine go_iload_n (pc := 46) X 2 dX1_nextGreatest_46 rfl rfl ?_
        refine go_icmp_le (pc := 47) X 67 dX1_nextGreatest_47 rfl (fun c28 => ?_) (fun c28 => ?_)
        · rw [if_neg c28] at h23
          cases h23
          exact k24
        · rw [if_pos c28] at h23
          refine go_aload_n (pc := 50) X 0 dX1_nextGreatest_50 rfl rfl ?_
          refine go_iload (pc := 51) X 3 dX1_nextGreatest_51 rfl ?_
          refine go_aload_n (pc := 53) X 0 dX1_nextGreatest_53 rfl rfl ?_
          refine go_getr (pc := 54) X (fk := 6) (shB ho) rfl inT_X1 (by decide) fL_X1_31 rfl dX1_nextGreatest_54 ?_
          refine go_iload (pc := 57) X 3 dX1_nextGreatest_57 rfl ?_
          refine go_iald (pc := 59) X (shB4 ho) (Nat.le_of_ble_eq_true rfl) rfl g21 dX1_nextGreatest_59 ?_
          obtain ⟨r29, h30, h23⟩ := bind_some h23
          refine go_callVi (pc := 60) X 2 [] (ct_X1_valueAt ho h30) (shB ho) rfl gg_X1_51 hd_X1_valueAt ⟨Nat.le_of_ble_eq_true rfl, Nat.le_of_ble_eq_true rfl⟩ rfl rfl (Nat.le_of_ble_eq_true rfl) dX1_nextGreatest_60 ?_
          refine go_istore_n (pc := 63) X [1, 2, 0, 3] (Ls' := [(0, .ref (ad th)), (2, .int (i32 t15.1)), (3, .int (i32 r29)), (4, .int (i32 t15.2.2))]) dX1_nextGreatest_63 rfl (by decide) rfl ?_
          refine go_iload (pc := 64) X 3 dX1_nextGreatest_64 rfl ?_
          refine go_istore_n (pc := 66) X [1, 0, 2, 3] (Ls' := [(0, .ref (ad th)), (2, .int (i32 t15.2.2)), (3, .int (i32 r29)), (4, .int (i32 t15.2.2))]) dX1_nextGreatest_66 rfl (by decide) rfl ?_
          cases h23
          exact k24
  refine go_pick [0, 2, 3, 4] (Ls' := [(0, .ref (ad th)), (2, .int (i32 (-1))), (3, .int (i32 a1)), (4, .int (i32 0))]) rfl ?_
  refine H14 FU ((-1), a1, 0) r12 h13 ?_
  refine go_iload_n (pc := 73) X 0 dX1_nextGreatest_73 rfl rfl ?_
  exact go_iretP (pc := 74) X h dX1_nextGreatest_74
set_option maxRecDepth 100000 in
set_option maxHeartbeats 4000000 in
theorem ct_X1_worthTo {l : Launch} {D : va_G} {cI cB : ClassId} {Z : (Nat → Nat) × (Nat → Nat)} {ad : Nat → Nat} {S : Mem} {th : Nat} {a1 : Int} {a2 : Int} {r : Int} {S' : Mem} (ho : isBk th) (h : f_X1_worthTo S th a1 a2 = some (r, S')) : Ctr l D cI cB Z ad shsC yX1_worthTo cX1_worthTo 6 (some .int) 2 46 [.ref (ad th), .int (i32 a1), .int (i32 a2)] S (some (.int (i32 r))) S' := by
  refine ctr_of (by decide +kernel) (Nat.le_of_ble_eq_true rfl) rfl ?_
  intro p e s m args below meth c A X
  unfold f_X1_worthTo at h
  refine go_iconst (pc := 0) X dX1_worthTo_0 ?_
  refine go_istore_n (pc := 1) X [1, 2, 3, 0] (Ls' := [(0, .ref (ad th)), (1, .int (i32 a1)), (2, .int (i32 a2)), (3, .int (i32 0))]) dX1_worthTo_1 rfl (by decide) rfl ?_
  obtain ⟨r13, h14, h⟩ := bind_some h
  have H15 : ∀ (n : Nat) (t16 : Int × Mem) (z17 : Mem), lp (f_X1_worthTo_l2 th a1 a2) n t16 = some z17 → Go p l e { frames := 2, cells := 0, slots := 0, locals := 46 } s m args below meth c 6 D cI cB ad shsC A (MQ below (cQ D cI cB ad shsC (some (.int (i32 r))) S' A) args s 0 0 A) 47 [(0, .ref (ad th)), (2, .int (i32 a2))] [] z17 → Go p l e { frames := 2, cells := 0, slots := 0, locals := 46 } s m args below meth c 6 D cI cB ad shsC A (MQ below (cQ D cI cB ad shsC (some (.int (i32 r))) S' A) args s 0 0 A) 2 [(0, .ref (ad th)), (1, .int (i32 a1)), (2, .int (i32 a2)), (3, .int (i32 t16.1))] [] t16.2 := by
    refine lp_go (fun t16 : Int × Mem => Go p l e { frames := 2, cells := 0, slots := 0, locals := 46 } s m args below meth c 6 D cI cB ad shsC A (MQ below (cQ D cI cB ad shsC (some (.int (i32 r))) S' A) args s 0 0 A) 2 [(0, .ref (ad th)), (1, .int (i32 a1)), (2, .int (i32 a2)), (3, .int (i32 t16.1))] [] t16.2) (fun z17 : Mem => Go p l e { frames := 2, cells := 0, slots := 0, locals := 46 } s m args below meth c 6 D cI cB ad shsC A (MQ below (cQ D cI cB ad shsC (some (.int (i32 r))) S' A) args s 0 0 A) 47 [(0, .ref (ad th)), (2, .int (i32 a2))] [] z17) ?_
    intro t16 x18 h hx19
    unfold f_X1_worthTo_l2 at h
    refine go_iload_n (pc := 2) X 3 dX1_worthTo_2 rfl rfl ?_
    refine go_aload_n (pc := 3) X 0 dX1_worthTo_3 rfl rfl ?_
    refine go_get (pc := 4) X (fk := 2) (fi := 2) rfl (shB ho) rfl inT_X1 (by decide) fL_X1_18 rfl dX1_worthTo_4 ?_
    refine go_icmp_ge (pc := 7) X 47 dX1_worthTo_7 rfl (fun c21 => ?_) (fun c21 => ?_)
    · rw [if_neg c21] at h
      refine go_pick [0, 2] (Ls' := [(0, .ref (ad th)), (2, .int (i32 a2))]) rfl ?_
      exact lp_back h hx19
    · rw [if_pos c21] at h
      refine go_aload_n (pc := 10) X 0 dX1_worthTo_10 rfl rfl ?_
      refine go_getr (pc := 11) X (fk := 6) (shB ho) rfl inT_X1 (by decide) fL_X1_31 rfl dX1_worthTo_11 ?_
      refine go_iload_n (pc := 14) X 3 dX1_worthTo_14 rfl rfl ?_
      refine go_iconst (pc := 15) X dX1_worthTo_15 ?_
      obtain ⟨g22, h⟩ := gd_some h
      obtain ⟨S23, e24, h⟩ := wrk_some h
      refine go_iastE (pc := 16) X e24 (shB4 ho) (Nat.le_of_ble_eq_true rfl) rfl g22 dX1_worthTo_16 ?_
      refine go_aload_n (pc := 17) X 0 dX1_worthTo_17 rfl rfl ?_
      refine go_getr (pc := 18) X (fk := 7) (shB ho) rfl inT_X1 (by decide) fL_X1_34 rfl dX1_worthTo_18 ?_
      refine go_iload_n (pc := 21) X 3 dX1_worthTo_21 rfl rfl ?_
      refine go_iload_n (pc := 22) X 1 dX1_worthTo_22 rfl rfl ?_
      refine go_iload_n (pc := 23) X 3 dX1_worthTo_23 rfl rfl ?_
      refine go_ishr (pc := 24) X dX1_worthTo_24 ?_
      refine go_iconst (pc := 25) X dX1_worthTo_25 ?_
      refine go_iand (pc := 26) X dX1_worthTo_26 ?_
      refine go_iconst (pc := 27) X dX1_worthTo_27 ?_
      obtain ⟨j25, h26, h⟩ := bind_some h
      have k27 : Go p l e { frames := 2, cells := 0, slots := 0, locals := 46 } s m args below meth c 6 D cI cB ad shsC A (MQ below (cQ D cI cB ad shsC (some (.int (i32 r))) S' A) args s 0 0 A) 40 [(0, .ref (ad th)), (1, .int (i32 a1)), (2, .int (i32 a2)), (3, .int (i32 t16.1))] [.int (i32 j25), .int (i32 t16.1), .ref (ad (th + 5))] S23 := by
        obtain ⟨S28, e29, h⟩ := wrk_some h
        refine go_iastE (pc := 40) X e29 (shB5 ho) (Nat.le_of_ble_eq_true rfl) rfl g22 dX1_worthTo_40 ?_
        refine go_iinc (pc := 41) X [1, 2, 3, 0] 3 (Ls' := [(0, .ref (ad th)), (1, .int (i32 a1)), (2, .int (i32 a2)), (3, .int (i32 (t16.1 + 1)))]) dX1_worthTo_41 rfl (by decide) rfl ?_
        refine go_goto (pc := 44) X 2 dX1_worthTo_44 rfl ?_
        exact lp_back h hx19
      refine go_icmp_ne (pc := 28) X 39 dX1_worthTo_28 rfl (fun c30 => ?_) (fun c30 => ?_)
      · rw [if_neg c30] at h26
        refine go_iconst (pc := 39) X dX1_worthTo_39 ?_
        cases h26
        exact k27
      · rw [if_pos c30] at h26
        refine go_aload_n (pc := 31) X 0 dX1_worthTo_31 rfl rfl ?_
        refine go_iload_n (pc := 32) X 3 dX1_worthTo_32 rfl rfl ?_
        obtain ⟨r31, h32, h26⟩ := bind_some h26
        refine go_callVi (pc := 33) X 1 [.int (i32 t16.1), .ref (ad (th + 5))] (ct_X1_usable ho h32) (shB ho) rfl gg_X1_94 hd_X1_usable ⟨Nat.le_of_ble_eq_true rfl, Nat.le_of_ble_eq_true rfl⟩ rfl rfl (Nat.le_of_ble_eq_true rfl) dX1_worthTo_33 ?_
        refine go_goto (pc := 36) X 40 dX1_worthTo_36 rfl ?_
        cases h26
        exact k27
  refine H15 FU (0, S) r13 h14 ?_
  refine go_iconst (pc := 47) X dX1_worthTo_47 ?_
  refine go_istore_n (pc := 48) X [1, 2, 0] (Ls' := [(0, .ref (ad th)), (2, .int (i32 a2)), (3, .int (i32 0))]) dX1_worthTo_48 rfl (by decide) rfl ?_
  refine go_iconst (pc := 49) X dX1_worthTo_49 ?_
  refine go_istore (pc := 50) X [1, 2, 3, 0] (Ls' := [(0, .ref (ad th)), (2, .int (i32 a2)), (3, .int (i32 0)), (4, .int (i32 0))]) dX1_worthTo_50 (by decide) rfl ?_
  obtain ⟨r42, h43, h⟩ := bind_some h
  have H44 : ∀ (n : Nat) (t45 : Int × Int × Mem) (z46 : (Int × Mem) ⊕ (Int × Mem)), lp (f_X1_worthTo_l52 th a2) n t45 = some z46 → lpG (fun z49 : Int × Mem => Go p l e { frames := 2, cells := 0, slots := 0, locals := 46 } s m args below meth c 6 D cI cB ad shsC A (MQ below (cQ D cI cB ad shsC (some (.int (i32 r))) S' A) args s 0 0 A) 119 [(3, .int (i32 z49.1))] [] z49.2) (fun u : Int × Mem => some u = some (r, S')) z46 → Go p l e { frames := 2, cells := 0, slots := 0, locals := 46 } s m args below meth c 6 D cI cB ad shsC A (MQ below (cQ D cI cB ad shsC (some (.int (i32 r))) S' A) args s 0 0 A) 52 [(0, .ref (ad th)), (2, .int (i32 a2)), (3, .int (i32 t45.1)), (4, .int (i32 t45.2.1))] [] t45.2.2 := by
    refine lp_go (fun t45 : Int × Int × Mem => Go p l e { frames := 2, cells := 0, slots := 0, locals := 46 } s m args below meth c 6 D cI cB ad shsC A (MQ below (cQ D cI cB ad shsC (some (.int (i32 r))) S' A) args s 0 0 A) 52 [(0, .ref (ad th)), (2, .int (i32 a2)), (3, .int (i32 t45.1)), (4, .int (i32 t45.2.1))] [] t45.2.2) (fun z46 : (Int × Mem) ⊕ (Int × Mem) => lpG (fun z49 : Int × Mem => Go p l e { frames := 2, cells := 0, slots := 0, locals := 46 } s m args below meth c 6 D cI cB ad shsC A (MQ below (cQ D cI cB ad shsC (some (.int (i32 r))) S' A) args s 0 0 A) 119 [(3, .int (i32 z49.1))] [] z49.2) (fun u : Int × Mem => some u = some (r, S')) z46) ?_
    intro t45 x47 h hx48
    unfold f_X1_worthTo_l52 at h
    refine go_iload (pc := 52) X 3 dX1_worthTo_52 rfl ?_
    refine go_iload_n (pc := 54) X 1 dX1_worthTo_54 rfl rfl ?_
    refine go_icmp_ge (pc := 55) X 119 dX1_worthTo_55 rfl (fun c50 => ?_) (fun c50 => ?_)
    · rw [if_neg c50] at h
      refine go_pick [2] (Ls' := [(3, .int (i32 t45.1))]) rfl ?_
      exact lp_back h hx48
    · rw [if_pos c50] at h
      refine go_aload_n (pc := 58) X 0 dX1_worthTo_58 rfl rfl ?_
      refine go_aload_n (pc := 59) X 0 dX1_worthTo_59 rfl rfl ?_
      refine go_get (pc := 60) X (fk := 1) (fi := 1) rfl (shB ho) rfl inT_X1 (by decide) fL_X1_15 rfl dX1_worthTo_60 ?_
      obtain ⟨r51, h52, h⟩ := bind_some h
      refine go_callVi (pc := 63) X 1 [] (ct_X1_nextGreatest ho h52) (shB ho) rfl gg_X1_97 hd_X1_nextGreatest ⟨Nat.le_of_ble_eq_true rfl, Nat.le_of_ble_eq_true rfl⟩ rfl rfl (Nat.le_of_ble_eq_true rfl) dX1_worthTo_63 ?_
      refine go_istore (pc := 66) X [1, 2, 3, 4, 0] (Ls' := [(0, .ref (ad th)), (2, .int (i32 a2)), (3, .int (i32 t45.1)), (4, .int (i32 t45.2.1)), (5, .int (i32 r51))]) dX1_worthTo_66 (by decide) rfl ?_
      refine go_iload (pc := 68) X 4 dX1_worthTo_68 rfl ?_
      refine go_iconst (pc := 70) X dX1_worthTo_70 ?_
      refine go_icmp_ne (pc := 71) X 86 dX1_worthTo_71 rfl (fun c53 => ?_) (fun c53 => ?_)
      · rw [if_neg c53] at h
        refine go_iload_n (pc := 86) X 2 dX1_worthTo_86 rfl rfl ?_
        refine go_aload_n (pc := 87) X 0 dX1_worthTo_87 rfl rfl ?_
        refine go_iload (pc := 88) X 4 dX1_worthTo_88 rfl ?_
        refine go_aload_n (pc := 90) X 0 dX1_worthTo_90 rfl rfl ?_
        refine go_getr (pc := 91) X (fk := 6) (shB ho) rfl inT_X1 (by decide) fL_X1_31 rfl dX1_worthTo_91 ?_
        refine go_iload (pc := 94) X 4 dX1_worthTo_94 rfl ?_
        obtain ⟨g54, h⟩ := gd_some h
        refine go_iald (pc := 96) X (shB4 ho) (Nat.le_of_ble_eq_true rfl) rfl g54 dX1_worthTo_96 ?_
        obtain ⟨r55, h56, h⟩ := bind_some h
        refine go_callVi (pc := 97) X 2 [.int (i32 t45.1)] (ct_X1_valueAt ho h56) (shB ho) rfl gg_X1_51 hd_X1_valueAt ⟨Nat.le_of_ble_eq_true rfl, Nat.le_of_ble_eq_true rfl⟩ rfl rfl (Nat.le_of_ble_eq_true rfl) dX1_worthTo_97 ?_
        refine go_iadd (pc := 100) X dX1_worthTo_100 ?_
        refine go_istore_n (pc := 101) X [1, 2, 0, 3, 4] (Ls' := [(0, .ref (ad th)), (2, .int (i32 a2)), (3, .int (i32 (t45.1 + r55))), (4, .int (i32 t45.2.1)), (5, .int (i32 r51))]) dX1_worthTo_101 rfl (by decide) rfl ?_
        refine go_aload_n (pc := 102) X 0 dX1_worthTo_102 rfl rfl ?_
        refine go_getr (pc := 103) X (fk := 6) (shB ho) rfl inT_X1 (by decide) fL_X1_31 rfl dX1_worthTo_103 ?_
        refine go_iload (pc := 106) X 4 dX1_worthTo_106 rfl ?_
        refine go_dup2 (pc := 108) X dX1_worthTo_108 rfl rfl ?_
        refine go_iald (pc := 109) X (shB4 ho) (Nat.le_of_ble_eq_true rfl) rfl g54 dX1_worthTo_109 ?_
        refine go_iconst (pc := 110) X dX1_worthTo_110 ?_
        refine go_iadd (pc := 111) X dX1_worthTo_111 ?_
        obtain ⟨S57, e58, h⟩ := wrk_some h
        refine go_iastE (pc := 112) X e58 (shB4 ho) (Nat.le_of_ble_eq_true rfl) rfl g54 dX1_worthTo_112 ?_
        refine go_iinc (pc := 113) X [1, 2, 3, 0, 4] 3 (Ls' := [(0, .ref (ad th)), (2, .int (i32 a2)), (3, .int (i32 (t45.1 + r55))), (4, .int (i32 (t45.2.1 + 1))), (5, .int (i32 r51))]) dX1_worthTo_113 rfl (by decide) rfl ?_
        refine go_goto (pc := 116) X 52 dX1_worthTo_116 rfl ?_
        refine go_pick [0, 1, 2, 3] (Ls' := [(0, .ref (ad th)), (2, .int (i32 a2)), (3, .int (i32 (t45.1 + r55))), (4, .int (i32 (t45.2.1 + 1)))]) rfl ?_
        exact lp_back h hx48
      · rw [if_pos c53] at h
        refine go_iload_n (pc := 74) X 2 dX1_worthTo_74 rfl rfl ?_
        refine go_iload_n (pc := 75) X 1 dX1_worthTo_75 rfl rfl ?_
        refine go_iload (pc := 76) X 3 dX1_worthTo_76 rfl ?_
        refine go_isub (pc := 78) X dX1_worthTo_78 ?_
        refine go_aload_n (pc := 79) X 0 dX1_worthTo_79 rfl rfl ?_
        refine go_get (pc := 80) X (fk := 1) (fi := 1) rfl (shB ho) rfl inT_X1 (by decide) fL_X1_15 rfl dX1_worthTo_80 ?_
        refine go_imul (pc := 83) X dX1_worthTo_83 ?_
        refine go_iadd (pc := 84) X dX1_worthTo_84 ?_
        exact go_iret (pc := 85) X (lp_back h hx48) dX1_worthTo_85
  refine H44 FU (0, 0, r13) r42 h43 ?_
  cases r42 with
  | inl r59 =>
    have h := lct_l h
    refine lpG_l ?_
    refine go_iload_n (pc := 119) X 0 dX1_worthTo_119 rfl rfl ?_
    exact go_iret (pc := 120) X h dX1_worthTo_120
  | inr u60 =>
    have h := lct_r h
    refine lpG_r ?_
    exact h
set_option maxRecDepth 100000 in
set_option maxHeartbeats 4000000 in
theorem ct_X1_handOver {l : Launch} {D : va_G} {cI cB : ClassId} {Z : (Nat → Nat) × (Nat → Nat)} {ad : Nat → Nat} {S : Mem} {th : Nat} {q1 : Nat} {S' : Mem} (ho : isBk th) (ho1 : isUn q1) (h : f_X1_handOver S th q1 = some S') : Ctr l D cI cB Z ad shsC yX1_handOver cX1_handOver 3 none 2 51 [.ref (ad th), .ref (ad q1)] S (none) S' := by
  refine ctr_of (by decide +kernel) (Nat.le_of_ble_eq_true rfl) rfl ?_
  intro p e s m args below meth c A X
  unfold f_X1_handOver at h
  refine go_iconst (pc := 0) X dX1_handOver_0 ?_
  refine go_istore_n (pc := 1) X [1, 2, 0] (Ls' := [(0, .ref (ad th)), (1, .ref (ad q1)), (2, .int (i32 0))]) dX1_handOver_1 rfl (by decide) rfl ?_
  obtain ⟨r7, h8, h⟩ := bind_some h
  have H9 : ∀ (n : Nat) (t10 : Int × Mem) (z11 : Mem), lp (f_X1_handOver_l2 th q1) n t10 = some z11 → Go p l e { frames := 2, cells := 0, slots := 0, locals := 51 } s m args below meth c 3 D cI cB ad shsC A (MQ below (cQ D cI cB ad shsC (none) S' A) args s 0 0 A) 37 [] [] z11 → Go p l e { frames := 2, cells := 0, slots := 0, locals := 51 } s m args below meth c 3 D cI cB ad shsC A (MQ below (cQ D cI cB ad shsC (none) S' A) args s 0 0 A) 2 [(0, .ref (ad th)), (1, .ref (ad q1)), (2, .int (i32 t10.1))] [] t10.2 := by
    refine lp_go (fun t10 : Int × Mem => Go p l e { frames := 2, cells := 0, slots := 0, locals := 51 } s m args below meth c 3 D cI cB ad shsC A (MQ below (cQ D cI cB ad shsC (none) S' A) args s 0 0 A) 2 [(0, .ref (ad th)), (1, .ref (ad q1)), (2, .int (i32 t10.1))] [] t10.2) (fun z11 : Mem => Go p l e { frames := 2, cells := 0, slots := 0, locals := 51 } s m args below meth c 3 D cI cB ad shsC A (MQ below (cQ D cI cB ad shsC (none) S' A) args s 0 0 A) 37 [] [] z11) ?_
    intro t10 x12 h hx13
    unfold f_X1_handOver_l2 at h
    refine go_iload_n (pc := 2) X 2 dX1_handOver_2 rfl rfl ?_
    refine go_aload_n (pc := 3) X 0 dX1_handOver_3 rfl rfl ?_
    refine go_get (pc := 4) X (fk := 2) (fi := 2) rfl (shB ho) rfl inT_X1 (by decide) fL_X1_18 rfl dX1_handOver_4 ?_
    refine go_icmp_ge (pc := 7) X 37 dX1_handOver_7 rfl (fun c15 => ?_) (fun c15 => ?_)
    · rw [if_neg c15] at h
      refine go_pick [] (Ls' := []) rfl ?_
      exact lp_back h hx13
    · rw [if_pos c15] at h
      refine go_aload_n (pc := 10) X 0 dX1_handOver_10 rfl rfl ?_
      refine go_iload_n (pc := 11) X 2 dX1_handOver_11 rfl rfl ?_
      refine go_iconst (pc := 12) X dX1_handOver_12 ?_
      refine go_aload_n (pc := 13) X 1 dX1_handOver_13 rfl rfl ?_
      refine go_iload_n (pc := 14) X 2 dX1_handOver_14 rfl rfl ?_
      obtain ⟨g16, h⟩ := gd_some h
      refine go_iald (pc := 15) X (shU ho1) (Nat.le_of_ble_eq_true rfl) rfl g16 dX1_handOver_15 ?_
      obtain ⟨S17, h18, h⟩ := bind_some h
      refine go_callVv (pc := 16) X 3 [] (ct_X1_dropValues ho h18) (shB ho) rfl gg_X1_68 hd_X1_dropValues ⟨Nat.le_of_ble_eq_true rfl, Nat.le_of_ble_eq_true rfl⟩ rfl rfl (Nat.le_of_ble_eq_true rfl) dX1_handOver_16 ?_
      refine go_aload_n (pc := 19) X 0 dX1_handOver_19 rfl rfl ?_
      refine go_getr (pc := 20) X (fk := 4) (shB ho) rfl inT_X1 (by decide) fL_X1_25 rfl dX1_handOver_20 ?_
      refine go_iload_n (pc := 23) X 2 dX1_handOver_23 rfl rfl ?_
      refine go_dup2 (pc := 24) X dX1_handOver_24 rfl rfl ?_
      refine go_iald (pc := 25) X (shB2 ho) (Nat.le_of_ble_eq_true rfl) rfl g16 dX1_handOver_25 ?_
      refine go_aload_n (pc := 26) X 1 dX1_handOver_26 rfl rfl ?_
      refine go_iload_n (pc := 27) X 2 dX1_handOver_27 rfl rfl ?_
      refine go_iald (pc := 28) X (shU ho1) (Nat.le_of_ble_eq_true rfl) rfl g16 dX1_handOver_28 ?_
      refine go_isub (pc := 29) X dX1_handOver_29 ?_
      obtain ⟨S19, e20, h⟩ := wrk_some h
      refine go_iastE (pc := 30) X e20 (shB2 ho) (Nat.le_of_ble_eq_true rfl) rfl g16 dX1_handOver_30 ?_
      refine go_iinc (pc := 31) X [1, 2, 0] 2 (Ls' := [(0, .ref (ad th)), (1, .ref (ad q1)), (2, .int (i32 (t10.1 + 1)))]) dX1_handOver_31 rfl (by decide) rfl ?_
      refine go_goto (pc := 34) X 2 dX1_handOver_34 rfl ?_
      exact lp_back h hx13
  refine H9 FU (0, S) r7 h8 ?_
  exact go_vret (pc := 37) X h dX1_handOver_37
set_option maxRecDepth 100000 in
set_option maxHeartbeats 4000000 in
theorem ct_X1_shifted {l : Launch} {D : va_G} {cI cB : ClassId} {Z : (Nat → Nat) × (Nat → Nat)} {ad : Nat → Nat} {S : Mem} {a0 : Int} {a1 : Int} {r : Int} (h : f_X1_shifted S a0 a1 = some r) : Ctr l D cI cB Z ad shsC yX1_shifted cX1_shifted 2 (some .int) 1 21 [.int (i32 a0), .int (i32 a1)] S (some (.int (i32 r))) S := by
  refine ctr_of (by decide +kernel) (Nat.le_of_ble_eq_true rfl) rfl ?_
  intro p e s m args below meth c A X
  unfold f_X1_shifted at h
  refine go_iconst (pc := 0) X dX1_shifted_0 ?_
  refine go_bipush (pc := 1) X dX1_shifted_1 (by decide) (by decide) ?_
  refine go_iload_n (pc := 3) X 0 dX1_shifted_3 rfl rfl ?_
  refine go_iload_n (pc := 4) X 1 dX1_shifted_4 rfl rfl ?_
  refine go_iadd (pc := 5) X dX1_shifted_5 ?_
  refine go_mmin (pc := 6) X mL_X1_63 (Nat.le_of_ble_eq_true rfl) (Nat.le_of_ble_eq_true rfl) dX1_shifted_6 ?_
  refine go_mmax (pc := 9) X mL_X1_78 (Nat.le_of_ble_eq_true rfl) (Nat.le_of_ble_eq_true rfl) dX1_shifted_9 ?_
  exact go_iretP (pc := 12) X h dX1_shifted_12
set_option maxRecDepth 100000 in
set_option maxHeartbeats 4000000 in
theorem ct_X1_changedBy {l : Launch} {D : va_G} {cI cB : ClassId} {Z : (Nat → Nat) × (Nat → Nat)} {ad : Nat → Nat} {S : Mem} {th : Nat} {a1 : Int} {a2 : Int} {r : Int} (ho : isBk th) (h : f_X1_changedBy S th a1 a2 = some r) : Ctr l D cI cB Z ad shsC yX1_changedBy cX1_changedBy 5 (some .int) 2 42 [.ref (ad th), .int (i32 a1), .int (i32 a2)] S (some (.int (i32 r))) S := by
  refine ctr_of (by decide +kernel) (Nat.le_of_ble_eq_true rfl) rfl ?_
  intro p e s m args below meth c A X
  unfold f_X1_changedBy at h
  refine go_iconst (pc := 0) X dX1_changedBy_0 ?_
  refine go_istore_n (pc := 1) X [1, 2, 3, 0] (Ls' := [(0, .ref (ad th)), (1, .int (i32 a1)), (2, .int (i32 a2)), (3, .int (i32 0))]) dX1_changedBy_1 rfl (by decide) rfl ?_
  refine go_iconst (pc := 2) X dX1_changedBy_2 ?_
  refine go_istore (pc := 3) X [1, 2, 3, 4, 0] (Ls' := [(0, .ref (ad th)), (1, .int (i32 a1)), (2, .int (i32 a2)), (3, .int (i32 0)), (4, .int (i32 0))]) dX1_changedBy_3 (by decide) rfl ?_
  obtain ⟨r13, h14, h⟩ := bind_some h
  have H15 : ∀ (n : Nat) (t16 : Int × Int) (z17 : Int), lp (f_X1_changedBy_l5 S th a1 a2) n t16 = some z17 → Go p l e { frames := 2, cells := 0, slots := 0, locals := 42 } s m args below meth c 5 D cI cB ad shsC A (MQ below (cQ D cI cB ad shsC (some (.int (i32 r))) S A) args s 0 0 A) 46 [(3, .int (i32 z17))] [] S → Go p l e { frames := 2, cells := 0, slots := 0, locals := 42 } s m args below meth c 5 D cI cB ad shsC A (MQ below (cQ D cI cB ad shsC (some (.int (i32 r))) S A) args s 0 0 A) 5 [(0, .ref (ad th)), (1, .int (i32 a1)), (2, .int (i32 a2)), (3, .int (i32 t16.1)), (4, .int (i32 t16.2))] [] S := by
    refine lp_go (fun t16 : Int × Int => Go p l e { frames := 2, cells := 0, slots := 0, locals := 42 } s m args below meth c 5 D cI cB ad shsC A (MQ below (cQ D cI cB ad shsC (some (.int (i32 r))) S A) args s 0 0 A) 5 [(0, .ref (ad th)), (1, .int (i32 a1)), (2, .int (i32 a2)), (3, .int (i32 t16.1)), (4, .int (i32 t16.2))] [] S) (fun z17 : Int => Go p l e { frames := 2, cells := 0, slots := 0, locals := 42 } s m args below meth c 5 D cI cB ad shsC A (MQ below (cQ D cI cB ad shsC (some (.int (i32 r))) S A) args s 0 0 A) 46 [(3, .int (i32 z17))] [] S) ?_
    intro t16 x18 h hx19
    unfold f_X1_changedBy_l5 at h
    refine go_iload (pc := 5) X 4 dX1_changedBy_5 rfl ?_
    refine go_aload_n (pc := 7) X 0 dX1_changedBy_7 rfl rfl ?_
    refine go_getr (pc := 8) X (fk := 3) (shB ho) rfl inT_X1 (by decide) fL_X1_21 rfl dX1_changedBy_8 ?_
    refine go_iload_n (pc := 11) X 1 dX1_changedBy_11 rfl rfl ?_
    obtain ⟨g21, h⟩ := gd_some h
    refine go_iald (pc := 12) X (shB1 ho) (Nat.le_of_ble_eq_true rfl) rfl g21 dX1_changedBy_12 ?_
    refine go_icmp_ge (pc := 13) X 46 dX1_changedBy_13 rfl (fun c22 => ?_) (fun c22 => ?_)
    · rw [if_neg c22] at h
      refine go_pick [3] (Ls' := [(3, .int (i32 t16.1))]) rfl ?_
      exact lp_back h hx19
    · rw [if_pos c22] at h
      refine go_aload_n (pc := 16) X 0 dX1_changedBy_16 rfl rfl ?_
      refine go_iload_n (pc := 17) X 1 dX1_changedBy_17 rfl rfl ?_
      refine go_iload (pc := 18) X 4 dX1_changedBy_18 rfl ?_
      obtain ⟨r23, h24, h⟩ := bind_some h
      refine go_callVi (pc := 20) X 2 [] (ct_X1_valueAt ho h24) (shB ho) rfl gg_X1_51 hd_X1_valueAt ⟨Nat.le_of_ble_eq_true rfl, Nat.le_of_ble_eq_true rfl⟩ rfl rfl (Nat.le_of_ble_eq_true rfl) dX1_changedBy_20 ?_
      refine go_iload_n (pc := 23) X 2 dX1_changedBy_23 rfl rfl ?_
      obtain ⟨r25, h26, h⟩ := bind_some h
      refine go_callSi (pc := 24) X 2 [] (ct_X1_shifted h26) gg_X1_75 hd_X1_shifted ⟨Nat.le_of_ble_eq_true rfl, Nat.le_of_ble_eq_true rfl⟩ rfl rfl (Nat.le_of_ble_eq_true rfl) dX1_changedBy_24 ?_
      refine go_aload_n (pc := 27) X 0 dX1_changedBy_27 rfl rfl ?_
      refine go_iload_n (pc := 28) X 1 dX1_changedBy_28 rfl rfl ?_
      refine go_iload (pc := 29) X 4 dX1_changedBy_29 rfl ?_
      obtain ⟨r27, h28, h⟩ := bind_some h
      refine go_callVi (pc := 31) X 2 [.int (i32 r25)] (ct_X1_valueAt ho h28) (shB ho) rfl gg_X1_51 hd_X1_valueAt ⟨Nat.le_of_ble_eq_true rfl, Nat.le_of_ble_eq_true rfl⟩ rfl rfl (Nat.le_of_ble_eq_true rfl) dX1_changedBy_31 ?_
      obtain ⟨j29, h30, h⟩ := bind_some h
      have k31 : Go p l e { frames := 2, cells := 0, slots := 0, locals := 42 } s m args below meth c 5 D cI cB ad shsC A (MQ below (cQ D cI cB ad shsC (some (.int (i32 r))) S A) args s 0 0 A) 40 [(0, .ref (ad th)), (1, .int (i32 a1)), (2, .int (i32 a2)), (3, .int (i32 j29)), (4, .int (i32 t16.2))] [] S := by
        refine go_iinc (pc := 40) X [1, 2, 3, 4, 0] 4 (Ls' := [(0, .ref (ad th)), (1, .int (i32 a1)), (2, .int (i32 a2)), (3, .int (i32 j29)), (4, .int (i32 (t16.2 + 1)))]) dX1_changedBy_40 rfl (by decide) rfl ?_
        refine go_goto (pc := 43) X 5 dX1_changedBy_43 rfl ?_
        exact lp_back h hx19
      refine go_icmp_eq (pc := 34) X 40 dX1_changedBy_34 rfl (fun c32 => ?_) (fun c32 => ?_)
      · rw [if_pos c32] at h30
        cases h30
        exact k31
      · rw [if_neg c32] at h30
        refine go_iinc (pc := 37) X [1, 2, 3, 0, 4] 3 (Ls' := [(0, .ref (ad th)), (1, .int (i32 a1)), (2, .int (i32 a2)), (3, .int (i32 (t16.1 + 1))), (4, .int (i32 t16.2))]) dX1_changedBy_37 rfl (by decide) rfl ?_
        cases h30
        exact k31
  refine H15 FU (0, 0) r13 h14 ?_
  refine go_iload_n (pc := 46) X 0 dX1_changedBy_46 rfl rfl ?_
  exact go_iretP (pc := 47) X h dX1_changedBy_47
set_option maxRecDepth 100000 in
set_option maxHeartbeats 4000000 in
theorem ct_X1_shift {l : Launch} {D : va_G} {cI cB : ClassId} {Z : (Nat → Nat) × (Nat → Nat)} {ad : Nat → Nat} {S : Mem} {th : Nat} {a1 : Int} {a2 : Int} {S' : Mem} (ho : isBk th) (h : f_X1_shift S th a1 a2 = some S') : Ctr l D cI cB Z ad shsC yX1_shift cX1_shift 4 none 2 42 [.ref (ad th), .int (i32 a1), .int (i32 a2)] S (none) S' := by
  refine ctr_of (by decide +kernel) (Nat.le_of_ble_eq_true rfl) rfl ?_
  intro p e s m args below meth c A X
  unfold f_X1_shift at h
  refine go_iconst (pc := 0) X dX1_shift_0 ?_
  refine go_istore_n (pc := 1) X [1, 2, 3, 0] (Ls' := [(0, .ref (ad th)), (1, .int (i32 a1)), (2, .int (i32 a2)), (3, .int (i32 0))]) dX1_shift_1 rfl (by decide) rfl ?_
  obtain ⟨r10, h11, h⟩ := bind_some h
  have H12 : ∀ (n : Nat) (t13 : Int × Mem) (z14 : Mem), lp (f_X1_shift_l2 th a1 a2) n t13 = some z14 → Go p l e { frames := 2, cells := 0, slots := 0, locals := 42 } s m args below meth c 4 D cI cB ad shsC A (MQ below (cQ D cI cB ad shsC (none) S' A) args s 0 0 A) 39 [] [] z14 → Go p l e { frames := 2, cells := 0, slots := 0, locals := 42 } s m args below meth c 4 D cI cB ad shsC A (MQ below (cQ D cI cB ad shsC (none) S' A) args s 0 0 A) 2 [(0, .ref (ad th)), (1, .int (i32 a1)), (2, .int (i32 a2)), (3, .int (i32 t13.1))] [] t13.2 := by
    refine lp_go (fun t13 : Int × Mem => Go p l e { frames := 2, cells := 0, slots := 0, locals := 42 } s m args below meth c 4 D cI cB ad shsC A (MQ below (cQ D cI cB ad shsC (none) S' A) args s 0 0 A) 2 [(0, .ref (ad th)), (1, .int (i32 a1)), (2, .int (i32 a2)), (3, .int (i32 t13.1))] [] t13.2) (fun z14 : Mem => Go p l e { frames := 2, cells := 0, slots := 0, locals := 42 } s m args below meth c 4 D cI cB ad shsC A (MQ below (cQ D cI cB ad shsC (none) S' A) args s 0 0 A) 39 [] [] z14) ?_
    intro t13 x15 h hx16
    unfold f_X1_shift_l2 at h
    refine go_iload_n (pc := 2) X 3 dX1_shift_2 rfl rfl ?_
    refine go_aload_n (pc := 3) X 0 dX1_shift_3 rfl rfl ?_
    refine go_getr (pc := 4) X (fk := 3) (shB ho) rfl inT_X1 (by decide) fL_X1_21 rfl dX1_shift_4 ?_
    refine go_iload_n (pc := 7) X 1 dX1_shift_7 rfl rfl ?_
    obtain ⟨g18, h⟩ := gd_some h
    refine go_iald (pc := 8) X (shB1 ho) (Nat.le_of_ble_eq_true rfl) rfl g18 dX1_shift_8 ?_
    refine go_icmp_ge (pc := 9) X 39 dX1_shift_9 rfl (fun c19 => ?_) (fun c19 => ?_)
    · rw [if_neg c19] at h
      refine go_pick [] (Ls' := []) rfl ?_
      exact lp_back h hx16
    · rw [if_pos c19] at h
      refine go_aload_n (pc := 12) X 0 dX1_shift_12 rfl rfl ?_
      refine go_getr (pc := 13) X (fk := 5) (shB ho) rfl inT_X1 (by decide) fL_X1_28 rfl dX1_shift_13 ?_
      refine go_iload_n (pc := 16) X 1 dX1_shift_16 rfl rfl ?_
      refine go_bipush (pc := 17) X dX1_shift_17 (by decide) (by decide) ?_
      refine go_imul (pc := 19) X dX1_shift_19 ?_
      refine go_iload_n (pc := 20) X 3 dX1_shift_20 rfl rfl ?_
      refine go_iadd (pc := 21) X dX1_shift_21 ?_
      refine go_aload_n (pc := 22) X 0 dX1_shift_22 rfl rfl ?_
      refine go_iload_n (pc := 23) X 1 dX1_shift_23 rfl rfl ?_
      refine go_iload_n (pc := 24) X 3 dX1_shift_24 rfl rfl ?_
      obtain ⟨r20, h21, h⟩ := bind_some h
      refine go_callVi (pc := 25) X 2 [.int (i32 ((a1 * 8) + t13.1)), .ref (ad (th + 3))] (ct_X1_valueAt ho h21) (shB ho) rfl gg_X1_51 hd_X1_valueAt ⟨Nat.le_of_ble_eq_true rfl, Nat.le_of_ble_eq_true rfl⟩ rfl rfl (Nat.le_of_ble_eq_true rfl) dX1_shift_25 ?_
      refine go_iload_n (pc := 28) X 2 dX1_shift_28 rfl rfl ?_
      obtain ⟨r22, h23, h⟩ := bind_some h
      refine go_callSi (pc := 29) X 2 [.int (i32 ((a1 * 8) + t13.1)), .ref (ad (th + 3))] (ct_X1_shifted h23) gg_X1_75 hd_X1_shifted ⟨Nat.le_of_ble_eq_true rfl, Nat.le_of_ble_eq_true rfl⟩ rfl rfl (Nat.le_of_ble_eq_true rfl) dX1_shift_29 ?_
      obtain ⟨g24, h⟩ := gd_some h
      obtain ⟨S25, e26, h⟩ := wrk_some h
      refine go_iastE (pc := 32) X e26 (shB3 ho) (Nat.le_of_ble_eq_true rfl) rfl g24 dX1_shift_32 ?_
      refine go_iinc (pc := 33) X [1, 2, 3, 0] 3 (Ls' := [(0, .ref (ad th)), (1, .int (i32 a1)), (2, .int (i32 a2)), (3, .int (i32 (t13.1 + 1)))]) dX1_shift_33 rfl (by decide) rfl ?_
      refine go_goto (pc := 36) X 2 dX1_shift_36 rfl ?_
      exact lp_back h hx16
  refine H12 FU (0, S) r10 h11 ?_
  exact go_vret (pc := 39) X h dX1_shift_39
set_option maxRecDepth 100000 in
set_option maxHeartbeats 4000000 in
theorem ct_X1_loadFrom {l : Launch} {D : va_G} {cI cB : ClassId} {Z : (Nat → Nat) × (Nat → Nat)} {ad : Nat → Nat} {S : Mem} {th : Nat} {a2 : Int} {S' : Mem} (ho : isBk th) (h : f_X1_loadFrom S th a2 = some S') : Ctr l D cI cB Z ad shsC yX1_loadFrom cX1_loadFrom 3 none 1 26 [.ref (ad th), .ref (ad 35), .int (i32 a2)] S (none) S' := by
  refine ctr_of (by decide +kernel) (Nat.le_of_ble_eq_true rfl) rfl ?_
  intro p e s m args below meth c A X
  unfold f_X1_loadFrom at h
  refine go_aload_n (pc := 0) X 0 dX1_loadFrom_0 rfl rfl ?_
  refine go_aload_n (pc := 1) X 1 dX1_loadFrom_1 rfl rfl ?_
  refine go_iload_n (pc := 2) X 2 dX1_loadFrom_2 rfl rfl ?_
  obtain ⟨g1, h⟩ := gd_some h
  refine go_iald (pc := 3) X shHi (Nat.le_of_ble_eq_true rfl) rfl g1 dX1_loadFrom_3 ?_
  obtain ⟨S2, e3, h⟩ := wrk_some h
  refine go_putE (pc := 4) X (fk := 0) (fi := 0) rfl e3 (shB ho) rfl inT_X1 tyX1_ok nmX1 (by decide) fL_X1_9 rfl rfl rfl rfl rfl dX1_loadFrom_4 ?_
  refine go_aload_n (pc := 7) X 0 dX1_loadFrom_7 rfl rfl ?_
  refine go_aload_n (pc := 8) X 1 dX1_loadFrom_8 rfl rfl ?_
  refine go_iload_n (pc := 9) X 2 dX1_loadFrom_9 rfl rfl ?_
  refine go_iconst (pc := 10) X dX1_loadFrom_10 ?_
  refine go_iadd (pc := 11) X dX1_loadFrom_11 ?_
  obtain ⟨g4, h⟩ := gd_some h
  refine go_iald (pc := 12) X shHi (Nat.le_of_ble_eq_true rfl) rfl g4 dX1_loadFrom_12 ?_
  obtain ⟨S5, e6, h⟩ := wrk_some h
  refine go_putE (pc := 13) X (fk := 1) (fi := 1) rfl e6 (shB ho) rfl inT_X1 tyX1_ok nmX1 (by decide) fL_X1_15 rfl rfl rfl rfl rfl dX1_loadFrom_13 ?_
  refine go_aload_n (pc := 16) X 0 dX1_loadFrom_16 rfl rfl ?_
  refine go_aload_n (pc := 17) X 1 dX1_loadFrom_17 rfl rfl ?_
  refine go_iload_n (pc := 18) X 2 dX1_loadFrom_18 rfl rfl ?_
  refine go_iconst (pc := 19) X dX1_loadFrom_19 ?_
  refine go_iadd (pc := 20) X dX1_loadFrom_20 ?_
  obtain ⟨g7, h⟩ := gd_some h
  refine go_iald (pc := 21) X shHi (Nat.le_of_ble_eq_true rfl) rfl g7 dX1_loadFrom_21 ?_
  obtain ⟨S8, e9, h⟩ := wrk_some h
  refine go_putE (pc := 22) X (fk := 2) (fi := 2) rfl e9 (shB ho) rfl inT_X1 tyX1_ok nmX1 (by decide) fL_X1_18 rfl rfl rfl rfl rfl dX1_loadFrom_22 ?_
  refine go_aload_n (pc := 25) X 1 dX1_loadFrom_25 rfl rfl ?_
  refine go_iload_n (pc := 26) X 2 dX1_loadFrom_26 rfl rfl ?_
  refine go_iconst (pc := 27) X dX1_loadFrom_27 ?_
  refine go_iadd (pc := 28) X dX1_loadFrom_28 ?_
  refine go_aload_n (pc := 29) X 0 dX1_loadFrom_29 rfl rfl ?_
  refine go_getr (pc := 30) X (fk := 3) (shB ho) rfl inT_X1 (by decide) fL_X1_21 rfl dX1_loadFrom_30 ?_
  refine go_iconst (pc := 33) X dX1_loadFrom_33 ?_
  refine go_bipush (pc := 34) X dX1_loadFrom_34 (by decide) (by decide) ?_
  obtain ⟨g10, h⟩ := gd_some h
  obtain ⟨S11, e12, h⟩ := cpyk_some h
  refine go_copyE (pc := 36) X e12 mL_X1_41 shHi (shB1 ho) (Nat.le_of_ble_eq_true rfl) (Nat.le_of_ble_eq_true rfl) rfl rfl g10 (Nat.le_of_ble_eq_true rfl) (Nat.le_of_ble_eq_true rfl) dX1_loadFrom_36 ?_
  refine go_aload_n (pc := 39) X 1 dX1_loadFrom_39 rfl rfl ?_
  refine go_iload_n (pc := 40) X 2 dX1_loadFrom_40 rfl rfl ?_
  refine go_iconst (pc := 41) X dX1_loadFrom_41 ?_
  refine go_iadd (pc := 42) X dX1_loadFrom_42 ?_
  refine go_bipush (pc := 43) X dX1_loadFrom_43 (by decide) (by decide) ?_
  refine go_iadd (pc := 45) X dX1_loadFrom_45 ?_
  refine go_aload_n (pc := 46) X 0 dX1_loadFrom_46 rfl rfl ?_
  refine go_getr (pc := 47) X (fk := 4) (shB ho) rfl inT_X1 (by decide) fL_X1_25 rfl dX1_loadFrom_47 ?_
  refine go_iconst (pc := 50) X dX1_loadFrom_50 ?_
  refine go_bipush (pc := 51) X dX1_loadFrom_51 (by decide) (by decide) ?_
  obtain ⟨g13, h⟩ := gd_some h
  obtain ⟨S14, e15, h⟩ := cpyk_some h
  refine go_copyE (pc := 53) X e15 mL_X1_41 shHi (shB2 ho) (Nat.le_of_ble_eq_true rfl) (Nat.le_of_ble_eq_true rfl) rfl rfl g13 (Nat.le_of_ble_eq_true rfl) (Nat.le_of_ble_eq_true rfl) dX1_loadFrom_53 ?_
  refine go_aload_n (pc := 56) X 1 dX1_loadFrom_56 rfl rfl ?_
  refine go_iload_n (pc := 57) X 2 dX1_loadFrom_57 rfl rfl ?_
  refine go_iconst (pc := 58) X dX1_loadFrom_58 ?_
  refine go_iadd (pc := 59) X dX1_loadFrom_59 ?_
  refine go_bipush (pc := 60) X dX1_loadFrom_60 (by decide) (by decide) ?_
  refine go_iadd (pc := 62) X dX1_loadFrom_62 ?_
  refine go_bipush (pc := 63) X dX1_loadFrom_63 (by decide) (by decide) ?_
  refine go_iadd (pc := 65) X dX1_loadFrom_65 ?_
  refine go_aload_n (pc := 66) X 0 dX1_loadFrom_66 rfl rfl ?_
  refine go_getr (pc := 67) X (fk := 5) (shB ho) rfl inT_X1 (by decide) fL_X1_28 rfl dX1_loadFrom_67 ?_
  refine go_iconst (pc := 70) X dX1_loadFrom_70 ?_
  refine go_bipush (pc := 71) X dX1_loadFrom_71 (by decide) (by decide) ?_
  obtain ⟨g16, h⟩ := gd_some h
  obtain ⟨S17, e18, h⟩ := cpyk_some h
  refine go_copyE (pc := 73) X e18 mL_X1_41 shHi (shB3 ho) (Nat.le_of_ble_eq_true rfl) (Nat.le_of_ble_eq_true rfl) rfl rfl g16 (Nat.le_of_ble_eq_true rfl) (Nat.le_of_ble_eq_true rfl) dX1_loadFrom_73 ?_
  exact go_vret (pc := 76) X h dX1_loadFrom_76
set_option maxRecDepth 100000 in
set_option maxHeartbeats 4000000 in
theorem ct_X1_wantsOf {l : Launch} {D : va_G} {cI cB : ClassId} {Z : (Nat → Nat) × (Nat → Nat)} {ad : Nat → Nat} {S : Mem} {th : Nat} {a1 : Int} {a2 : Int} {r : Int} (ho : isBk th) (h : f_X1_wantsOf S th a1 a2 = some r) : Ctr l D cI cB Z ad shsC yX1_wantsOf cX1_wantsOf 3 (some .int) 2 45 [.ref (ad th), .int (i32 a1), .int (i32 a2)] S (some (.int (i32 r))) S := by
  refine ctr_of (by decide +kernel) (Nat.le_of_ble_eq_true rfl) rfl ?_
  intro p e s m args below meth c A X
  unfold f_X1_wantsOf at h
  refine go_aload_n (pc := 0) X 0 dX1_wantsOf_0 rfl rfl ?_
  refine go_getr (pc := 1) X (fk := 4) (shB ho) rfl inT_X1 (by decide) fL_X1_25 rfl dX1_wantsOf_1 ?_
  refine go_iload_n (pc := 4) X 1 dX1_wantsOf_4 rfl rfl ?_
  obtain ⟨g1, h⟩ := gd_some h
  refine go_iald (pc := 5) X (shB2 ho) (Nat.le_of_ble_eq_true rfl) rfl g1 dX1_wantsOf_5 ?_
  refine go_aload_n (pc := 6) X 0 dX1_wantsOf_6 rfl rfl ?_
  refine go_iload_n (pc := 7) X 1 dX1_wantsOf_7 rfl rfl ?_
  refine go_iload_n (pc := 8) X 2 dX1_wantsOf_8 rfl rfl ?_
  obtain ⟨r2, h3, h⟩ := bind_some h
  refine go_callVi (pc := 9) X 2 [.int (i32 (S (th + 2) a1))] (ct_X1_valuesAbove ho h3) (shB ho) rfl gg_X1_81 hd_X1_valuesAbove ⟨Nat.le_of_ble_eq_true rfl, Nat.le_of_ble_eq_true rfl⟩ rfl rfl (Nat.le_of_ble_eq_true rfl) dX1_wantsOf_9 ?_
  refine go_mmin (pc := 12) X mL_X1_63 (Nat.le_of_ble_eq_true rfl) (Nat.le_of_ble_eq_true rfl) dX1_wantsOf_12 ?_
  exact go_iretP (pc := 15) X h dX1_wantsOf_15
set_option maxRecDepth 100000 in
set_option maxHeartbeats 4000000 in
theorem ct_X1_wantsOfAll {l : Launch} {D : va_G} {cI cB : ClassId} {Z : (Nat → Nat) × (Nat → Nat)} {ad : Nat → Nat} {S : Mem} {th : Nat} {a1 : Int} {r : Int} (ho : isBk th) (h : f_X1_wantsOfAll S th a1 = some r) : Ctr l D cI cB Z ad shsC yX1_wantsOfAll cX1_wantsOfAll 4 (some .int) 3 67 [.ref (ad th), .int (i32 a1)] S (some (.int (i32 r))) S := by
  refine ctr_of (by decide +kernel) (Nat.le_of_ble_eq_true rfl) rfl ?_
  intro p e s m args below meth c A X
  unfold f_X1_wantsOfAll at h
  refine go_iconst (pc := 0) X dX1_wantsOfAll_0 ?_
  refine go_istore_n (pc := 1) X [1, 2, 0] (Ls' := [(0, .ref (ad th)), (1, .int (i32 a1)), (2, .int (i32 0))]) dX1_wantsOfAll_1 rfl (by decide) rfl ?_
  refine go_iconst (pc := 2) X dX1_wantsOfAll_2 ?_
  refine go_istore_n (pc := 3) X [1, 2, 3, 0] (Ls' := [(0, .ref (ad th)), (1, .int (i32 a1)), (2, .int (i32 0)), (3, .int (i32 0))]) dX1_wantsOfAll_3 rfl (by decide) rfl ?_
  obtain ⟨r4, h5, h⟩ := bind_some h
  have H6 : ∀ (n : Nat) (t7 : Int × Int) (z8 : Int), lp (f_X1_wantsOfAll_l4 S th a1) n t7 = some z8 → Go p l e { frames := 3, cells := 0, slots := 0, locals := 67 } s m args below meth c 4 D cI cB ad shsC A (MQ below (cQ D cI cB ad shsC (some (.int (i32 r))) S A) args s 0 0 A) 27 [(2, .int (i32 z8))] [] S → Go p l e { frames := 3, cells := 0, slots := 0, locals := 67 } s m args below meth c 4 D cI cB ad shsC A (MQ below (cQ D cI cB ad shsC (some (.int (i32 r))) S A) args s 0 0 A) 4 [(0, .ref (ad th)), (1, .int (i32 a1)), (2, .int (i32 t7.1)), (3, .int (i32 t7.2))] [] S := by
    refine lp_go (fun t7 : Int × Int => Go p l e { frames := 3, cells := 0, slots := 0, locals := 67 } s m args below meth c 4 D cI cB ad shsC A (MQ below (cQ D cI cB ad shsC (some (.int (i32 r))) S A) args s 0 0 A) 4 [(0, .ref (ad th)), (1, .int (i32 a1)), (2, .int (i32 t7.1)), (3, .int (i32 t7.2))] [] S) (fun z8 : Int => Go p l e { frames := 3, cells := 0, slots := 0, locals := 67 } s m args below meth c 4 D cI cB ad shsC A (MQ below (cQ D cI cB ad shsC (some (.int (i32 r))) S A) args s 0 0 A) 27 [(2, .int (i32 z8))] [] S) ?_
    intro t7 x9 h hx10
    unfold f_X1_wantsOfAll_l4 at h
    refine go_iload_n (pc := 4) X 3 dX1_wantsOfAll_4 rfl rfl ?_
    refine go_aload_n (pc := 5) X 0 dX1_wantsOfAll_5 rfl rfl ?_
    refine go_get (pc := 6) X (fk := 2) (fi := 2) rfl (shB ho) rfl inT_X1 (by decide) fL_X1_18 rfl dX1_wantsOfAll_6 ?_
    refine go_icmp_ge (pc := 9) X 27 dX1_wantsOfAll_9 rfl (fun c12 => ?_) (fun c12 => ?_)
    · rw [if_neg c12] at h
      refine go_pick [2] (Ls' := [(2, .int (i32 t7.1))]) rfl ?_
      exact lp_back h hx10
    · rw [if_pos c12] at h
      refine go_iload_n (pc := 12) X 2 dX1_wantsOfAll_12 rfl rfl ?_
      refine go_aload_n (pc := 13) X 0 dX1_wantsOfAll_13 rfl rfl ?_
      refine go_iload_n (pc := 14) X 3 dX1_wantsOfAll_14 rfl rfl ?_
      refine go_iload_n (pc := 15) X 1 dX1_wantsOfAll_15 rfl rfl ?_
      obtain ⟨r13, h14, h⟩ := bind_some h
      refine go_callVi (pc := 16) X 2 [.int (i32 t7.1)] (ct_X1_wantsOf ho h14) (shB ho) rfl gg_X1_84 hd_X1_wantsOf ⟨Nat.le_of_ble_eq_true rfl, Nat.le_of_ble_eq_true rfl⟩ rfl rfl (Nat.le_of_ble_eq_true rfl) dX1_wantsOfAll_16 ?_
      refine go_iadd (pc := 19) X dX1_wantsOfAll_19 ?_
      refine go_istore_n (pc := 20) X [1, 2, 0, 3] (Ls' := [(0, .ref (ad th)), (1, .int (i32 a1)), (2, .int (i32 (t7.1 + r13))), (3, .int (i32 t7.2))]) dX1_wantsOfAll_20 rfl (by decide) rfl ?_
      refine go_iinc (pc := 21) X [1, 2, 3, 0] 3 (Ls' := [(0, .ref (ad th)), (1, .int (i32 a1)), (2, .int (i32 (t7.1 + r13))), (3, .int (i32 (t7.2 + 1)))]) dX1_wantsOfAll_21 rfl (by decide) rfl ?_
      refine go_goto (pc := 24) X 4 dX1_wantsOfAll_24 rfl ?_
      exact lp_back h hx10
  refine H6 FU (0, 0) r4 h5 ?_
  refine go_iload_n (pc := 27) X 0 dX1_wantsOfAll_27 rfl rfl ?_
  exact go_iretP (pc := 28) X h dX1_wantsOfAll_28
set_option maxRecDepth 100000 in
set_option maxHeartbeats 4000000 in
theorem ct_X1_freeFor {l : Launch} {D : va_G} {cI cB : ClassId} {Z : (Nat → Nat) × (Nat → Nat)} {ad : Nat → Nat} {S : Mem} {th : Nat} {a1 : Int} {a2 : Int} {r : Int} (ho : isBk th) (h : f_X1_freeFor S th a1 a2 = some r) : Ctr l D cI cB Z ad shsC yX1_freeFor cX1_freeFor 3 (some .int) 4 90 [.ref (ad th), .int (i32 a1), .int (i32 a2)] S (some (.int (i32 r))) S := by
  refine ctr_of (by decide +kernel) (Nat.le_of_ble_eq_true rfl) rfl ?_
  intro p e s m args below meth c A X
  unfold f_X1_freeFor at h
  refine go_iconst (pc := 0) X dX1_freeFor_0 ?_
  refine go_aload_n (pc := 1) X 0 dX1_freeFor_1 rfl rfl ?_
  refine go_get (pc := 2) X (fk := 0) (fi := 0) rfl (shB ho) rfl inT_X1 (by decide) fL_X1_9 rfl dX1_freeFor_2 ?_
  refine go_aload_n (pc := 5) X 0 dX1_freeFor_5 rfl rfl ?_
  refine go_iload_n (pc := 6) X 2 dX1_freeFor_6 rfl rfl ?_
  obtain ⟨r1, h2, h⟩ := bind_some h
  refine go_callVi (pc := 7) X 1 [.int (i32 (S th 0)), .int (i32 0)] (ct_X1_wantsOfAll ho h2) (shB ho) rfl gg_X1_87 hd_X1_wantsOfAll ⟨Nat.le_of_ble_eq_true rfl, Nat.le_of_ble_eq_true rfl⟩ rfl rfl (Nat.le_of_ble_eq_true rfl) dX1_freeFor_7 ?_
  refine go_aload_n (pc := 10) X 0 dX1_freeFor_10 rfl rfl ?_
  refine go_iload_n (pc := 11) X 1 dX1_freeFor_11 rfl rfl ?_
  refine go_iload_n (pc := 12) X 2 dX1_freeFor_12 rfl rfl ?_
  obtain ⟨r3, h4, h⟩ := bind_some h
  refine go_callVi (pc := 13) X 2 [.int (i32 r1), .int (i32 (S th 0)), .int (i32 0)] (ct_X1_wantsOf ho h4) (shB ho) rfl gg_X1_84 hd_X1_wantsOf ⟨Nat.le_of_ble_eq_true rfl, Nat.le_of_ble_eq_true rfl⟩ rfl rfl (Nat.le_of_ble_eq_true rfl) dX1_freeFor_13 ?_
  refine go_isub (pc := 16) X dX1_freeFor_16 ?_
  refine go_isub (pc := 17) X dX1_freeFor_17 ?_
  refine go_mmax (pc := 18) X mL_X1_78 (Nat.le_of_ble_eq_true rfl) (Nat.le_of_ble_eq_true rfl) dX1_freeFor_18 ?_
  exact go_iretP (pc := 21) X h dX1_freeFor_21
set_option maxRecDepth 100000 in
set_option maxHeartbeats 4000000 in
theorem ct_X1_areAlike {l : Launch} {D : va_G} {cI cB : ClassId} {Z : (Nat → Nat) × (Nat → Nat)} {ad : Nat → Nat} {S : Mem} {th : Nat} {a1 : Int} {a2 : Int} {r : Int} (ho : isBk th) (h : f_X1_areAlike S th a1 a2 = some r) : Ctr l D cI cB Z ad shsC yX1_areAlike cX1_areAlike 4 (some .boolean) 1 22 [.ref (ad th), .int (i32 a1), .int (i32 a2)] S (some (.int (i32 r))) S := by
  refine ctr_of (by decide +kernel) (Nat.le_of_ble_eq_true rfl) rfl ?_
  intro p e s m args below meth c A X
  unfold f_X1_areAlike at h
  refine go_aload_n (pc := 0) X 0 dX1_areAlike_0 rfl rfl ?_
  refine go_getr (pc := 1) X (fk := 3) (shB ho) rfl inT_X1 (by decide) fL_X1_21 rfl dX1_areAlike_1 ?_
  refine go_iload_n (pc := 4) X 1 dX1_areAlike_4 rfl rfl ?_
  obtain ⟨g1, h⟩ := gd_some h
  refine go_iald (pc := 5) X (shB1 ho) (Nat.le_of_ble_eq_true rfl) rfl g1 dX1_areAlike_5 ?_
  refine go_aload_n (pc := 6) X 0 dX1_areAlike_6 rfl rfl ?_
  refine go_getr (pc := 7) X (fk := 3) (shB ho) rfl inT_X1 (by decide) fL_X1_21 rfl dX1_areAlike_7 ?_
  refine go_iload_n (pc := 10) X 2 dX1_areAlike_10 rfl rfl ?_
  obtain ⟨g2, h⟩ := gd_some h
  refine go_iald (pc := 11) X (shB1 ho) (Nat.le_of_ble_eq_true rfl) rfl g2 dX1_areAlike_11 ?_
  refine go_icmp_ne (pc := 12) X 30 dX1_areAlike_12 rfl (fun c3 => ?_) (fun c3 => ?_)
  · rw [if_neg c3] at h
    refine go_iconst (pc := 30) X dX1_areAlike_30 ?_
    exact go_zretP (pc := 31) X (Or.inl rfl) h dX1_areAlike_31
  · rw [if_pos c3] at h
    refine go_aload_n (pc := 15) X 0 dX1_areAlike_15 rfl rfl ?_
    refine go_getr (pc := 16) X (fk := 4) (shB ho) rfl inT_X1 (by decide) fL_X1_25 rfl dX1_areAlike_16 ?_
    refine go_iload_n (pc := 19) X 1 dX1_areAlike_19 rfl rfl ?_
    refine go_iald (pc := 20) X (shB2 ho) (Nat.le_of_ble_eq_true rfl) rfl g1 dX1_areAlike_20 ?_
    refine go_aload_n (pc := 21) X 0 dX1_areAlike_21 rfl rfl ?_
    refine go_getr (pc := 22) X (fk := 4) (shB ho) rfl inT_X1 (by decide) fL_X1_25 rfl dX1_areAlike_22 ?_
    refine go_iload_n (pc := 25) X 2 dX1_areAlike_25 rfl rfl ?_
    refine go_iald (pc := 26) X (shB2 ho) (Nat.le_of_ble_eq_true rfl) rfl g2 dX1_areAlike_26 ?_
    refine go_icmp_eq (pc := 27) X 32 dX1_areAlike_27 rfl (fun c4 => ?_) (fun c4 => ?_)
    · rw [if_pos c4] at h
      refine go_iconst (pc := 32) X dX1_areAlike_32 ?_
      refine go_istore_n (pc := 33) X [1, 2, 3, 0] (Ls' := [(0, .ref (ad th)), (1, .int (i32 a1)), (2, .int (i32 a2)), (3, .int (i32 0))]) dX1_areAlike_33 rfl (by decide) rfl ?_
      obtain ⟨r12, h13, h⟩ := bind_some h
      have H14 : ∀ (n : Nat) (t15 : Int) (z16 : (Unit) ⊕ (Int)), lp (f_X1_areAlike_l34 S th a1 a2) n t15 = some z16 → lpG (fun z19 : Unit => Go p l e { frames := 1, cells := 0, slots := 0, locals := 22 } s m args below meth c 4 D cI cB ad shsC A (MQ below (cQ D cI cB ad shsC (some (.int (i32 r))) S A) args s 0 0 A) 67 [] [] S) (fun u : Int => some u = some r) z16 → Go p l e { frames := 1, cells := 0, slots := 0, locals := 22 } s m args below meth c 4 D cI cB ad shsC A (MQ below (cQ D cI cB ad shsC (some (.int (i32 r))) S A) args s 0 0 A) 34 [(0, .ref (ad th)), (1, .int (i32 a1)), (2, .int (i32 a2)), (3, .int (i32 t15))] [] S := by
        refine lp_go (fun t15 : Int => Go p l e { frames := 1, cells := 0, slots := 0, locals := 22 } s m args below meth c 4 D cI cB ad shsC A (MQ below (cQ D cI cB ad shsC (some (.int (i32 r))) S A) args s 0 0 A) 34 [(0, .ref (ad th)), (1, .int (i32 a1)), (2, .int (i32 a2)), (3, .int (i32 t15))] [] S) (fun z16 : (Unit) ⊕ (Int) => lpG (fun z19 : Unit => Go p l e { frames := 1, cells := 0, slots := 0, locals := 22 } s m args below meth c 4 D cI cB ad shsC A (MQ below (cQ D cI cB ad shsC (some (.int (i32 r))) S A) args s 0 0 A) 67 [] [] S) (fun u : Int => some u = some r) z16) ?_
        intro t15 x17 h hx18
        unfold f_X1_areAlike_l34 at h
        refine go_iload_n (pc := 34) X 3 dX1_areAlike_34 rfl rfl ?_
        refine go_aload_n (pc := 35) X 0 dX1_areAlike_35 rfl rfl ?_
        refine go_getr (pc := 36) X (fk := 3) (shB ho) rfl inT_X1 (by decide) fL_X1_21 rfl dX1_areAlike_36 ?_
        refine go_iload_n (pc := 39) X 1 dX1_areAlike_39 rfl rfl ?_
        obtain ⟨g20, h⟩ := gd_some h
        refine go_iald (pc := 40) X (shB1 ho) (Nat.le_of_ble_eq_true rfl) rfl g20 dX1_areAlike_40 ?_
        refine go_icmp_ge (pc := 41) X 67 dX1_areAlike_41 rfl (fun c21 => ?_) (fun c21 => ?_)
        · rw [if_neg c21] at h
          refine go_pick [] (Ls' := []) rfl ?_
          exact lp_back h hx18
        · rw [if_pos c21] at h
          refine go_aload_n (pc := 44) X 0 dX1_areAlike_44 rfl rfl ?_
          refine go_iload_n (pc := 45) X 1 dX1_areAlike_45 rfl rfl ?_
          refine go_iload_n (pc := 46) X 3 dX1_areAlike_46 rfl rfl ?_
          obtain ⟨r22, h23, h⟩ := bind_some h
          refine go_callVi (pc := 47) X 2 [] (ct_X1_valueAt ho h23) (shB ho) rfl gg_X1_51 hd_X1_valueAt ⟨Nat.le_of_ble_eq_true rfl, Nat.le_of_ble_eq_true rfl⟩ rfl rfl (Nat.le_of_ble_eq_true rfl) dX1_areAlike_47 ?_
          refine go_aload_n (pc := 50) X 0 dX1_areAlike_50 rfl rfl ?_
          refine go_iload_n (pc := 51) X 2 dX1_areAlike_51 rfl rfl ?_
          refine go_iload_n (pc := 52) X 3 dX1_areAlike_52 rfl rfl ?_
          obtain ⟨r24, h25, h⟩ := bind_some h
          refine go_callVi (pc := 53) X 2 [.int (i32 r22)] (ct_X1_valueAt ho h25) (shB ho) rfl gg_X1_51 hd_X1_valueAt ⟨Nat.le_of_ble_eq_true rfl, Nat.le_of_ble_eq_true rfl⟩ rfl rfl (Nat.le_of_ble_eq_true rfl) dX1_areAlike_53 ?_
          refine go_icmp_eq (pc := 56) X 61 dX1_areAlike_56 rfl (fun c26 => ?_) (fun c26 => ?_)
          · rw [if_pos c26] at h
            refine go_iinc (pc := 61) X [1, 2, 3, 0] 3 (Ls' := [(0, .ref (ad th)), (1, .int (i32 a1)), (2, .int (i32 a2)), (3, .int (i32 (t15 + 1)))]) dX1_areAlike_61 rfl (by decide) rfl ?_
            refine go_goto (pc := 64) X 34 dX1_areAlike_64 rfl ?_
            exact lp_back h hx18
          · rw [if_neg c26] at h
            refine go_iconst (pc := 59) X dX1_areAlike_59 ?_
            exact go_zretP (pc := 60) X (Or.inl rfl) (lp_back h hx18) dX1_areAlike_60
      refine H14 FU 0 r12 h13 ?_
      cases r12 with
      | inl r27 =>
        have h := lct_l h
        refine lpG_l ?_
        refine go_iconst (pc := 67) X dX1_areAlike_67 ?_
        exact go_zretP (pc := 68) X (Or.inr rfl) h dX1_areAlike_68
      | inr u28 =>
        have h := lct_r h
        refine lpG_r ?_
        exact h
    · rw [if_neg c4] at h
      refine go_iconst (pc := 30) X dX1_areAlike_30 ?_
      exact go_zretP (pc := 31) X (Or.inl rfl) h dX1_areAlike_31
set_option maxRecDepth 100000 in
set_option maxHeartbeats 4000000 in
theorem ct_X1_valuesOfAll {l : Launch} {D : va_G} {cI cB : ClassId} {Z : (Nat → Nat) × (Nat → Nat)} {ad : Nat → Nat} {S : Mem} {th : Nat} {r : Int} (ho : isBk th) (h : f_X1_valuesOfAll S th = some r) : Ctr l D cI cB Z ad shsC yX1_valuesOfAll cX1_valuesOfAll 3 (some .int) 0 0 [.ref (ad th)] S (some (.int (i32 r))) S := by
  refine ctr_of (by decide +kernel) (Nat.le_of_ble_eq_true rfl) rfl ?_
  intro p e s m args below meth c A X
  unfold f_X1_valuesOfAll at h
  refine go_iconst (pc := 0) X dX1_valuesOfAll_0 ?_
  refine go_istore_n (pc := 1) X [1, 0] (Ls' := [(0, .ref (ad th)), (1, .int (i32 0))]) dX1_valuesOfAll_1 rfl (by decide) rfl ?_
  refine go_iconst (pc := 2) X dX1_valuesOfAll_2 ?_
  refine go_istore_n (pc := 3) X [1, 2, 0] (Ls' := [(0, .ref (ad th)), (1, .int (i32 0)), (2, .int (i32 0))]) dX1_valuesOfAll_3 rfl (by decide) rfl ?_
  obtain ⟨r3, h4, h⟩ := bind_some h
  have H5 : ∀ (n : Nat) (t6 : Int × Int) (z7 : Int), lp (f_X1_valuesOfAll_l4 S th) n t6 = some z7 → Go p l e { frames := 0, cells := 0, slots := 0, locals := 0 } s m args below meth c 3 D cI cB ad shsC A (MQ below (cQ D cI cB ad shsC (some (.int (i32 r))) S A) args s 0 0 A) 27 [(1, .int (i32 z7))] [] S → Go p l e { frames := 0, cells := 0, slots := 0, locals := 0 } s m args below meth c 3 D cI cB ad shsC A (MQ below (cQ D cI cB ad shsC (some (.int (i32 r))) S A) args s 0 0 A) 4 [(0, .ref (ad th)), (1, .int (i32 t6.1)), (2, .int (i32 t6.2))] [] S := by
    refine lp_go (fun t6 : Int × Int => Go p l e { frames := 0, cells := 0, slots := 0, locals := 0 } s m args below meth c 3 D cI cB ad shsC A (MQ below (cQ D cI cB ad shsC (some (.int (i32 r))) S A) args s 0 0 A) 4 [(0, .ref (ad th)), (1, .int (i32 t6.1)), (2, .int (i32 t6.2))] [] S) (fun z7 : Int => Go p l e { frames := 0, cells := 0, slots := 0, locals := 0 } s m args below meth c 3 D cI cB ad shsC A (MQ below (cQ D cI cB ad shsC (some (.int (i32 r))) S A) args s 0 0 A) 27 [(1, .int (i32 z7))] [] S) ?_
    intro t6 x8 h hx9
    unfold f_X1_valuesOfAll_l4 at h
    refine go_iload_n (pc := 4) X 2 dX1_valuesOfAll_4 rfl rfl ?_
    refine go_aload_n (pc := 5) X 0 dX1_valuesOfAll_5 rfl rfl ?_
    refine go_get (pc := 6) X (fk := 2) (fi := 2) rfl (shB ho) rfl inT_X1 (by decide) fL_X1_18 rfl dX1_valuesOfAll_6 ?_
    refine go_icmp_ge (pc := 9) X 27 dX1_valuesOfAll_9 rfl (fun c11 => ?_) (fun c11 => ?_)
    · rw [if_neg c11] at h
      refine go_pick [1] (Ls' := [(1, .int (i32 t6.1))]) rfl ?_
      exact lp_back h hx9
    · rw [if_pos c11] at h
      refine go_iload_n (pc := 12) X 1 dX1_valuesOfAll_12 rfl rfl ?_
      refine go_aload_n (pc := 13) X 0 dX1_valuesOfAll_13 rfl rfl ?_
      refine go_getr (pc := 14) X (fk := 3) (shB ho) rfl inT_X1 (by decide) fL_X1_21 rfl dX1_valuesOfAll_14 ?_
      refine go_iload_n (pc := 17) X 2 dX1_valuesOfAll_17 rfl rfl ?_
      obtain ⟨g12, h⟩ := gd_some h
      refine go_iald (pc := 18) X (shB1 ho) (Nat.le_of_ble_eq_true rfl) rfl g12 dX1_valuesOfAll_18 ?_
      refine go_iadd (pc := 19) X dX1_valuesOfAll_19 ?_
      refine go_istore_n (pc := 20) X [1, 0, 2] (Ls' := [(0, .ref (ad th)), (1, .int (i32 (t6.1 + (S (th + 1) t6.2)))), (2, .int (i32 t6.2))]) dX1_valuesOfAll_20 rfl (by decide) rfl ?_
      refine go_iinc (pc := 21) X [1, 2, 0] 2 (Ls' := [(0, .ref (ad th)), (1, .int (i32 (t6.1 + (S (th + 1) t6.2)))), (2, .int (i32 (t6.2 + 1)))]) dX1_valuesOfAll_21 rfl (by decide) rfl ?_
      refine go_goto (pc := 24) X 4 dX1_valuesOfAll_24 rfl ?_
      exact lp_back h hx9
  refine H5 FU (0, 0) r3 h4 ?_
  refine go_iload_n (pc := 27) X 0 dX1_valuesOfAll_27 rfl rfl ?_
  exact go_iretP (pc := 28) X h dX1_valuesOfAll_28
set_option maxRecDepth 100000 in
set_option maxHeartbeats 4000000 in
theorem ct_X1_rankedOwner {l : Launch} {D : va_G} {cI cB : ClassId} {Z : (Nat → Nat) × (Nat → Nat)} {ad : Nat → Nat} {S : Mem} {th : Nat} {a1 : Int} {r : Int} {S' : Mem} (ho : isBk th) (h : f_X1_rankedOwner S th a1 = some (r, S')) : Ctr l D cI cB Z ad shsC yX1_rankedOwner cX1_rankedOwner 4 (some .int) 2 46 [.ref (ad th), .int (i32 a1)] S (some (.int (i32 r))) S' := by
  refine ctr_of (by decide +kernel) (Nat.le_of_ble_eq_true rfl) rfl ?_
  intro p e s m args below meth c A X
  unfold f_X1_rankedOwner at h
  refine go_iconst (pc := 0) X dX1_rankedOwner_0 ?_
  refine go_istore_n (pc := 1) X [1, 2, 0] (Ls' := [(0, .ref (ad th)), (1, .int (i32 a1)), (2, .int (i32 0))]) dX1_rankedOwner_1 rfl (by decide) rfl ?_
  obtain ⟨r7, h8, h⟩ := bind_some h
  have H9 : ∀ (n : Nat) (t10 : Int × Mem) (z11 : Mem), lp (f_X1_rankedOwner_l2 th a1) n t10 = some z11 → Go p l e { frames := 2, cells := 0, slots := 0, locals := 46 } s m args below meth c 4 D cI cB ad shsC A (MQ below (cQ D cI cB ad shsC (some (.int (i32 r))) S' A) args s 0 0 A) 35 [(0, .ref (ad th)), (1, .int (i32 a1))] [] z11 → Go p l e { frames := 2, cells := 0, slots := 0, locals := 46 } s m args below meth c 4 D cI cB ad shsC A (MQ below (cQ D cI cB ad shsC (some (.int (i32 r))) S' A) args s 0 0 A) 2 [(0, .ref (ad th)), (1, .int (i32 a1)), (2, .int (i32 t10.1))] [] t10.2 := by
    refine lp_go (fun t10 : Int × Mem => Go p l e { frames := 2, cells := 0, slots := 0, locals := 46 } s m args below meth c 4 D cI cB ad shsC A (MQ below (cQ D cI cB ad shsC (some (.int (i32 r))) S' A) args s 0 0 A) 2 [(0, .ref (ad th)), (1, .int (i32 a1)), (2, .int (i32 t10.1))] [] t10.2) (fun z11 : Mem => Go p l e { frames := 2, cells := 0, slots := 0, locals := 46 } s m args below meth c 4 D cI cB ad shsC A (MQ below (cQ D cI cB ad shsC (some (.int (i32 r))) S' A) args s 0 0 A) 35 [(0, .ref (ad th)), (1, .int (i32 a1))] [] z11) ?_
    intro t10 x12 h hx13
    unfold f_X1_rankedOwner_l2 at h
    refine go_iload_n (pc := 2) X 2 dX1_rankedOwner_2 rfl rfl ?_
    refine go_aload_n (pc := 3) X 0 dX1_rankedOwner_3 rfl rfl ?_
    refine go_get (pc := 4) X (fk := 2) (fi := 2) rfl (shB ho) rfl inT_X1 (by decide) fL_X1_18 rfl dX1_rankedOwner_4 ?_
    refine go_icmp_ge (pc := 7) X 35 dX1_rankedOwner_7 rfl (fun c15 => ?_) (fun c15 => ?_)
    · rw [if_neg c15] at h
      refine go_pick [0, 1] (Ls' := [(0, .ref (ad th)), (1, .int (i32 a1))]) rfl ?_
      exact lp_back h hx13
    · rw [if_pos c15] at h
      refine go_aload_n (pc := 10) X 0 dX1_rankedOwner_10 rfl rfl ?_
      refine go_getr (pc := 11) X (fk := 6) (shB ho) rfl inT_X1 (by decide) fL_X1_31 rfl dX1_rankedOwner_11 ?_
      refine go_iload_n (pc := 14) X 2 dX1_rankedOwner_14 rfl rfl ?_
      refine go_iconst (pc := 15) X dX1_rankedOwner_15 ?_
      obtain ⟨g16, h⟩ := gd_some h
      obtain ⟨S17, e18, h⟩ := wrk_some h
      refine go_iastE (pc := 16) X e18 (shB4 ho) (Nat.le_of_ble_eq_true rfl) rfl g16 dX1_rankedOwner_16 ?_
      refine go_aload_n (pc := 17) X 0 dX1_rankedOwner_17 rfl rfl ?_
      refine go_getr (pc := 18) X (fk := 7) (shB ho) rfl inT_X1 (by decide) fL_X1_34 rfl dX1_rankedOwner_18 ?_
      refine go_iload_n (pc := 21) X 2 dX1_rankedOwner_21 rfl rfl ?_
      refine go_aload_n (pc := 22) X 0 dX1_rankedOwner_22 rfl rfl ?_
      refine go_getr (pc := 23) X (fk := 3) (shB ho) rfl inT_X1 (by decide) fL_X1_21 rfl dX1_rankedOwner_23 ?_
      refine go_iload_n (pc := 26) X 2 dX1_rankedOwner_26 rfl rfl ?_
      refine go_iald (pc := 27) X (shB1 ho) (Nat.le_of_ble_eq_true rfl) rfl g16 dX1_rankedOwner_27 ?_
      obtain ⟨S19, e20, h⟩ := wrk_some h
      refine go_iastE (pc := 28) X e20 (shB5 ho) (Nat.le_of_ble_eq_true rfl) rfl g16 dX1_rankedOwner_28 ?_
      refine go_iinc (pc := 29) X [1, 2, 0] 2 (Ls' := [(0, .ref (ad th)), (1, .int (i32 a1)), (2, .int (i32 (t10.1 + 1)))]) dX1_rankedOwner_29 rfl (by decide) rfl ?_
      refine go_goto (pc := 32) X 2 dX1_rankedOwner_32 rfl ?_
      exact lp_back h hx13
  refine H9 FU (0, S) r7 h8 ?_
  refine go_aload_n (pc := 35) X 0 dX1_rankedOwner_35 rfl rfl ?_
  refine go_iconst (pc := 36) X dX1_rankedOwner_36 ?_
  obtain ⟨r21, h22, h⟩ := bind_some h
  refine go_callVi (pc := 37) X 1 [] (ct_X1_nextGreatest ho h22) (shB ho) rfl gg_X1_97 hd_X1_nextGreatest ⟨Nat.le_of_ble_eq_true rfl, Nat.le_of_ble_eq_true rfl⟩ rfl rfl (Nat.le_of_ble_eq_true rfl) dX1_rankedOwner_37 ?_
  refine go_istore_n (pc := 40) X [1, 2, 0] (Ls' := [(0, .ref (ad th)), (1, .int (i32 a1)), (2, .int (i32 r21))]) dX1_rankedOwner_40 rfl (by decide) rfl ?_
  refine go_iconst (pc := 41) X dX1_rankedOwner_41 ?_
  refine go_istore_n (pc := 42) X [1, 2, 3, 0] (Ls' := [(0, .ref (ad th)), (1, .int (i32 a1)), (2, .int (i32 r21)), (3, .int (i32 0))]) dX1_rankedOwner_42 rfl (by decide) rfl ?_
  obtain ⟨r30, h31, h⟩ := bind_some h
  have H32 : ∀ (n : Nat) (t33 : Int × Int × Mem) (z34 : Int × Mem), lp (f_X1_rankedOwner_l43 th a1) n t33 = some z34 → Go p l e { frames := 2, cells := 0, slots := 0, locals := 46 } s m args below meth c 4 D cI cB ad shsC A (MQ below (cQ D cI cB ad shsC (some (.int (i32 r))) S' A) args s 0 0 A) 75 [(2, .int (i32 z34.1))] [] z34.2 → Go p l e { frames := 2, cells := 0, slots := 0, locals := 46 } s m args below meth c 4 D cI cB ad shsC A (MQ below (cQ D cI cB ad shsC (some (.int (i32 r))) S' A) args s 0 0 A) 43 [(0, .ref (ad th)), (1, .int (i32 a1)), (2, .int (i32 t33.1)), (3, .int (i32 t33.2.1))] [] t33.2.2 := by
    refine lp_go (fun t33 : Int × Int × Mem => Go p l e { frames := 2, cells := 0, slots := 0, locals := 46 } s m args below meth c 4 D cI cB ad shsC A (MQ below (cQ D cI cB ad shsC (some (.int (i32 r))) S' A) args s 0 0 A) 43 [(0, .ref (ad th)), (1, .int (i32 a1)), (2, .int (i32 t33.1)), (3, .int (i32 t33.2.1))] [] t33.2.2) (fun z34 : Int × Mem => Go p l e { frames := 2, cells := 0, slots := 0, locals := 46 } s m args below meth c 4 D cI cB ad shsC A (MQ below (cQ D cI cB ad shsC (some (.int (i32 r))) S' A) args s 0 0 A) 75 [(2, .int (i32 z34.1))] [] z34.2) ?_
    intro t33 x35 h hx36
    unfold f_X1_rankedOwner_l43 at h
    refine go_iload_n (pc := 43) X 3 dX1_rankedOwner_43 rfl rfl ?_
    refine go_iload_n (pc := 44) X 1 dX1_rankedOwner_44 rfl rfl ?_
    refine go_icmp_ge (pc := 45) X 75 dX1_rankedOwner_45 rfl (fun c38 => ?_) (fun c38 => ?_)
    · rw [if_neg c38] at h
      refine go_pick [2] (Ls' := [(2, .int (i32 t33.1))]) rfl ?_
      exact lp_back h hx36
    · rw [if_pos c38] at h
      refine go_iload_n (pc := 48) X 2 dX1_rankedOwner_48 rfl rfl ?_
      refine go_iconst (pc := 49) X dX1_rankedOwner_49 ?_
      refine go_icmp_eq (pc := 50) X 75 dX1_rankedOwner_50 rfl (fun c39 => ?_) (fun c39 => ?_)
      · rw [if_pos c39] at h
        refine go_pick [2] (Ls' := [(2, .int (i32 t33.1))]) rfl ?_
        exact lp_back h hx36
      · rw [if_neg c39] at h
        refine go_aload_n (pc := 53) X 0 dX1_rankedOwner_53 rfl rfl ?_
        refine go_getr (pc := 54) X (fk := 6) (shB ho) rfl inT_X1 (by decide) fL_X1_31 rfl dX1_rankedOwner_54 ?_
        refine go_iload_n (pc := 57) X 2 dX1_rankedOwner_57 rfl rfl ?_
        refine go_dup2 (pc := 58) X dX1_rankedOwner_58 rfl rfl ?_
        obtain ⟨g40, h⟩ := gd_some h
        refine go_iald (pc := 59) X (shB4 ho) (Nat.le_of_ble_eq_true rfl) rfl g40 dX1_rankedOwner_59 ?_
        refine go_iconst (pc := 60) X dX1_rankedOwner_60 ?_
        refine go_iadd (pc := 61) X dX1_rankedOwner_61 ?_
        obtain ⟨S41, e42, h⟩ := wrk_some h
        refine go_iastE (pc := 62) X e42 (shB4 ho) (Nat.le_of_ble_eq_true rfl) rfl g40 dX1_rankedOwner_62 ?_
        refine go_aload_n (pc := 63) X 0 dX1_rankedOwner_63 rfl rfl ?_
        refine go_iconst (pc := 64) X dX1_rankedOwner_64 ?_
        obtain ⟨r43, h44, h⟩ := bind_some h
        refine go_callVi (pc := 65) X 1 [] (ct_X1_nextGreatest ho h44) (shB ho) rfl gg_X1_97 hd_X1_nextGreatest ⟨Nat.le_of_ble_eq_true rfl, Nat.le_of_ble_eq_true rfl⟩ rfl rfl (Nat.le_of_ble_eq_true rfl) dX1_rankedOwner_65 ?_
        refine go_istore_n (pc := 68) X [1, 2, 0, 3] (Ls' := [(0, .ref (ad th)), (1, .int (i32 a1)), (2, .int (i32 r43)), (3, .int (i32 t33.2.1))]) dX1_rankedOwner_68 rfl (by decide) rfl ?_
        refine go_iinc (pc := 69) X [1, 2, 3, 0] 3 (Ls' := [(0, .ref (ad th)), (1, .int (i32 a1)), (2, .int (i32 r43)), (3, .int (i32 (t33.2.1 + 1)))]) dX1_rankedOwner_69 rfl (by decide) rfl ?_
        refine go_goto (pc := 72) X 43 dX1_rankedOwner_72 rfl ?_
        exact lp_back h hx36
  refine H32 FU (r21, 0, r7) r30 h31 ?_
  refine go_iload_n (pc := 75) X 0 dX1_rankedOwner_75 rfl rfl ?_
  exact go_iret (pc := 76) X h dX1_rankedOwner_76
set_option maxRecDepth 100000 in
set_option maxHeartbeats 4000000 in
theorem ct_X1_rankedValue {l : Launch} {D : va_G} {cI cB : ClassId} {Z : (Nat → Nat) × (Nat → Nat)} {ad : Nat → Nat} {S : Mem} {th : Nat} {a1 : Int} {r : Int} {S' : Mem} (ho : isBk th) (h : f_X1_rankedValue S th a1 = some (r, S')) : Ctr l D cI cB Z ad shsC yX1_rankedValue cX1_rankedValue 3 (some .int) 3 69 [.ref (ad th), .int (i32 a1)] S (some (.int (i32 r))) S' := by
  refine ctr_of (by decide +kernel) (Nat.le_of_ble_eq_true rfl) rfl ?_
  intro p e s m args below meth c A X
  unfold f_X1_rankedValue at h
  refine go_aload_n (pc := 0) X 0 dX1_rankedValue_0 rfl rfl ?_
  refine go_iload_n (pc := 1) X 1 dX1_rankedValue_1 rfl rfl ?_
  obtain ⟨u1, h2, h⟩ := bind_some h
  refine go_callVi (pc := 2) X 1 [] (ct_X1_rankedOwner ho h2) (shB ho) rfl gg_X1_100 hd_X1_rankedOwner ⟨Nat.le_of_ble_eq_true rfl, Nat.le_of_ble_eq_true rfl⟩ rfl rfl (Nat.le_of_ble_eq_true rfl) dX1_rankedValue_2 ?_
  refine go_istore_n (pc := 5) X [1, 2, 0] (Ls' := [(0, .ref (ad th)), (1, .int (i32 a1)), (2, .int (i32 u1.1))]) dX1_rankedValue_5 rfl (by decide) rfl ?_
  refine go_iload_n (pc := 6) X 2 dX1_rankedValue_6 rfl rfl ?_
  refine go_iconst (pc := 7) X dX1_rankedValue_7 ?_
  refine go_icmp_ne (pc := 8) X 15 dX1_rankedValue_8 rfl (fun c3 => ?_) (fun c3 => ?_)
  · rw [if_neg c3] at h
    refine go_aload_n (pc := 15) X 0 dX1_rankedValue_15 rfl rfl ?_
    refine go_iload_n (pc := 16) X 2 dX1_rankedValue_16 rfl rfl ?_
    refine go_aload_n (pc := 17) X 0 dX1_rankedValue_17 rfl rfl ?_
    refine go_getr (pc := 18) X (fk := 6) (shB ho) rfl inT_X1 (by decide) fL_X1_31 rfl dX1_rankedValue_18 ?_
    refine go_iload_n (pc := 21) X 2 dX1_rankedValue_21 rfl rfl ?_
    obtain ⟨g4, h⟩ := gd_some h
    refine go_iald (pc := 22) X (shB4 ho) (Nat.le_of_ble_eq_true rfl) rfl g4 dX1_rankedValue_22 ?_
    obtain ⟨r5, h6, h⟩ := bind_some h
    refine go_callVi (pc := 23) X 2 [] (ct_X1_valueAt ho h6) (shB ho) rfl gg_X1_51 hd_X1_valueAt ⟨Nat.le_of_ble_eq_true rfl, Nat.le_of_ble_eq_true rfl⟩ rfl rfl (Nat.le_of_ble_eq_true rfl) dX1_rankedValue_23 ?_
    exact go_iret (pc := 26) X h dX1_rankedValue_26
  · rw [if_pos c3] at h
    refine go_iconst (pc := 11) X dX1_rankedValue_11 ?_
    refine go_goto (pc := 12) X 26 dX1_rankedValue_12 rfl ?_
    exact go_iret (pc := 26) X h dX1_rankedValue_26
set_option maxRecDepth 100000 in
set_option maxHeartbeats 4000000 in
theorem ct_X1_usableByAll {l : Launch} {D : va_G} {cI cB : ClassId} {Z : (Nat → Nat) × (Nat → Nat)} {ad : Nat → Nat} {S : Mem} {th : Nat} {r : Int} (ho : isBk th) (h : f_X1_usableByAll S th = some r) : Ctr l D cI cB Z ad shsC yX1_usableByAll cX1_usableByAll 3 (some .int) 2 42 [.ref (ad th)] S (some (.int (i32 r))) S := by
  refine ctr_of (by decide +kernel) (Nat.le_of_ble_eq_true rfl) rfl ?_
  intro p e s m args below meth c A X
  unfold f_X1_usableByAll at h
  refine go_iconst (pc := 0) X dX1_usableByAll_0 ?_
  refine go_istore_n (pc := 1) X [1, 0] (Ls' := [(0, .ref (ad th)), (1, .int (i32 0))]) dX1_usableByAll_1 rfl (by decide) rfl ?_
  refine go_iconst (pc := 2) X dX1_usableByAll_2 ?_
  refine go_istore_n (pc := 3) X [1, 2, 0] (Ls' := [(0, .ref (ad th)), (1, .int (i32 0)), (2, .int (i32 0))]) dX1_usableByAll_3 rfl (by decide) rfl ?_
  obtain ⟨r4, h5, h⟩ := bind_some h
  have H6 : ∀ (n : Nat) (t7 : Int × Int) (z8 : Int), lp (f_X1_usableByAll_l4 S th) n t7 = some z8 → Go p l e { frames := 2, cells := 0, slots := 0, locals := 42 } s m args below meth c 3 D cI cB ad shsC A (MQ below (cQ D cI cB ad shsC (some (.int (i32 r))) S A) args s 0 0 A) 26 [(1, .int (i32 z8))] [] S → Go p l e { frames := 2, cells := 0, slots := 0, locals := 42 } s m args below meth c 3 D cI cB ad shsC A (MQ below (cQ D cI cB ad shsC (some (.int (i32 r))) S A) args s 0 0 A) 4 [(0, .ref (ad th)), (1, .int (i32 t7.1)), (2, .int (i32 t7.2))] [] S := by
    refine lp_go (fun t7 : Int × Int => Go p l e { frames := 2, cells := 0, slots := 0, locals := 42 } s m args below meth c 3 D cI cB ad shsC A (MQ below (cQ D cI cB ad shsC (some (.int (i32 r))) S A) args s 0 0 A) 4 [(0, .ref (ad th)), (1, .int (i32 t7.1)), (2, .int (i32 t7.2))] [] S) (fun z8 : Int => Go p l e { frames := 2, cells := 0, slots := 0, locals := 42 } s m args below meth c 3 D cI cB ad shsC A (MQ below (cQ D cI cB ad shsC (some (.int (i32 r))) S A) args s 0 0 A) 26 [(1, .int (i32 z8))] [] S) ?_
    intro t7 x9 h hx10
    unfold f_X1_usableByAll_l4 at h
    refine go_iload_n (pc := 4) X 2 dX1_usableByAll_4 rfl rfl ?_
    refine go_aload_n (pc := 5) X 0 dX1_usableByAll_5 rfl rfl ?_
    refine go_get (pc := 6) X (fk := 2) (fi := 2) rfl (shB ho) rfl inT_X1 (by decide) fL_X1_18 rfl dX1_usableByAll_6 ?_
    refine go_icmp_ge (pc := 9) X 26 dX1_usableByAll_9 rfl (fun c12 => ?_) (fun c12 => ?_)
    · rw [if_neg c12] at h
      refine go_pick [1] (Ls' := [(1, .int (i32 t7.1))]) rfl ?_
      exact lp_back h hx10
    · rw [if_pos c12] at h
      refine go_iload_n (pc := 12) X 1 dX1_usableByAll_12 rfl rfl ?_
      refine go_aload_n (pc := 13) X 0 dX1_usableByAll_13 rfl rfl ?_
      refine go_iload_n (pc := 14) X 2 dX1_usableByAll_14 rfl rfl ?_
      obtain ⟨r13, h14, h⟩ := bind_some h
      refine go_callVi (pc := 15) X 1 [.int (i32 t7.1)] (ct_X1_usable ho h14) (shB ho) rfl gg_X1_94 hd_X1_usable ⟨Nat.le_of_ble_eq_true rfl, Nat.le_of_ble_eq_true rfl⟩ rfl rfl (Nat.le_of_ble_eq_true rfl) dX1_usableByAll_15 ?_
      refine go_iadd (pc := 18) X dX1_usableByAll_18 ?_
      refine go_istore_n (pc := 19) X [1, 0, 2] (Ls' := [(0, .ref (ad th)), (1, .int (i32 (t7.1 + r13))), (2, .int (i32 t7.2))]) dX1_usableByAll_19 rfl (by decide) rfl ?_
      refine go_iinc (pc := 20) X [1, 2, 0] 2 (Ls' := [(0, .ref (ad th)), (1, .int (i32 (t7.1 + r13))), (2, .int (i32 (t7.2 + 1)))]) dX1_usableByAll_20 rfl (by decide) rfl ?_
      refine go_goto (pc := 23) X 4 dX1_usableByAll_23 rfl ?_
      exact lp_back h hx10
  refine H6 FU (0, 0) r4 h5 ?_
  refine go_iload_n (pc := 26) X 0 dX1_usableByAll_26 rfl rfl ?_
  exact go_iretP (pc := 27) X h dX1_usableByAll_27
