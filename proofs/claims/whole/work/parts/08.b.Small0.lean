set_option maxRecDepth 100000 in
set_option maxHeartbeats 4000000 in
theorem ct_X5_hasRoomFor {l : Launch} {D : va_G} {cI cB : ClassId} {Z : (Nat → Nat) × (Nat → Nat)} {ad : Nat → Nat} {S : Mem} {a1 : Int} {r : Int} (h : f_X5_hasRoomFor S a1 = some r) : Ctr l D cI cB Z ad shsC yX5_hasRoomFor cX5_hasRoomFor 2 (some .boolean) 0 0 [.ref (ad 2), .int (i32 a1)] S (some (.int (i32 r))) S := by
  refine ctr_of (by decide +kernel) (Nat.le_of_ble_eq_true rfl) rfl ?_
  intro p e s m args below meth c A X
  unfold f_X5_hasRoomFor at h
  refine go_aload_n (pc := 0) X 0 dX5_hasRoomFor_0 rfl rfl ?_
  refine go_get (pc := 1) X (fk := 0) (fi := 0) rfl sh5 rfl inT_X5 (by decide) fL_X5_7 rfl dX5_hasRoomFor_1 ?_
  refine go_iload_n (pc := 4) X 1 dX5_hasRoomFor_4 rfl rfl ?_
  refine go_iadd (pc := 5) X dX5_hasRoomFor_5 ?_
  refine go_sipush (pc := 6) X dX5_hasRoomFor_6 (by decide) (by decide) ?_
  refine go_icmp_gt (pc := 9) X 16 dX5_hasRoomFor_9 rfl (fun c1 => ?_) (fun c1 => ?_)
  · rw [if_pos c1] at h
    refine go_iconst (pc := 16) X dX5_hasRoomFor_16 ?_
    exact go_zretP (pc := 17) X (Or.inl rfl) h dX5_hasRoomFor_17
  · rw [if_neg c1] at h
    refine go_iconst (pc := 12) X dX5_hasRoomFor_12 ?_
    refine go_goto (pc := 13) X 17 dX5_hasRoomFor_13 rfl ?_
    exact go_zretP (pc := 17) X (Or.inr rfl) h dX5_hasRoomFor_17
set_option maxRecDepth 100000 in
set_option maxHeartbeats 4000000 in
theorem ct_X5_put {l : Launch} {D : va_G} {cI cB : ClassId} {Z : (Nat → Nat) × (Nat → Nat)} {ad : Nat → Nat} {S : Mem} {a1 : Int} {S' : Mem} (h : f_X5_put S a1 = some S') : Ctr l D cI cB Z ad shsC yX5_put cX5_put 3 none 1 21 [.ref (ad 2), .int (i32 a1)] S (none) S' := by
  refine ctr_of (by decide +kernel) (Nat.le_of_ble_eq_true rfl) rfl ?_
  intro p e s m args below meth c A X
  unfold f_X5_put at h
  refine go_aload_n (pc := 0) X 0 dX5_put_0 rfl rfl ?_
  refine go_iconst (pc := 1) X dX5_put_1 ?_
  obtain ⟨r1, h2, h⟩ := bind_some h
  refine go_callVi (pc := 2) X 1 [] (ct_X5_hasRoomFor h2) sh5 rfl gg_X5_17 hd_X5_hasRoomFor ⟨Nat.le_of_ble_eq_true rfl, Nat.le_of_ble_eq_true rfl⟩ rfl rfl (Nat.le_of_ble_eq_true rfl) dX5_put_2 ?_
  refine go_if_ne (pc := 5) X 9 dX5_put_5 rfl (fun c3 => ?_) (fun c3 => ?_)
  · rw [if_neg c3] at h
    refine go_bipush (pc := 9) X dX5_put_9 (by decide) (by decide) ?_
    refine go_istore_n (pc := 11) X [1, 2, 0] (Ls' := [(0, .ref (ad 2)), (1, .int (i32 a1)), (2, .int (i32 24))]) dX5_put_11 rfl (by decide) rfl ?_
    obtain ⟨r10, h11, h⟩ := bind_some h
    have H12 : ∀ (n : Nat) (t13 : Int × Mem) (z14 : Mem), lp (f_X5_put_l12 a1) n t13 = some z14 → Go p l e { frames := 1, cells := 0, slots := 0, locals := 21 } s m args below meth c 3 D cI cB ad shsC A (MQ below (cQ D cI cB ad shsC (none) S' A) args s 0 0 A) 45 [] [] z14 → Go p l e { frames := 1, cells := 0, slots := 0, locals := 21 } s m args below meth c 3 D cI cB ad shsC A (MQ below (cQ D cI cB ad shsC (none) S' A) args s 0 0 A) 12 [(0, .ref (ad 2)), (1, .int (i32 a1)), (2, .int (i32 t13.1))] [] t13.2 := by
      refine lp_go (fun t13 : Int × Mem => Go p l e { frames := 1, cells := 0, slots := 0, locals := 21 } s m args below meth c 3 D cI cB ad shsC A (MQ below (cQ D cI cB ad shsC (none) S' A) args s 0 0 A) 12 [(0, .ref (ad 2)), (1, .int (i32 a1)), (2, .int (i32 t13.1))] [] t13.2) (fun z14 : Mem => Go p l e { frames := 1, cells := 0, slots := 0, locals := 21 } s m args below meth c 3 D cI cB ad shsC A (MQ below (cQ D cI cB ad shsC (none) S' A) args s 0 0 A) 45 [] [] z14) ?_
      intro t13 x15 h hx16
      unfold f_X5_put_l12 at h
      refine go_iload_n (pc := 12) X 2 dX5_put_12 rfl rfl ?_
      refine go_if_lt (pc := 13) X 45 dX5_put_13 rfl (fun c18 => ?_) (fun c18 => ?_)
      · rw [if_pos c18] at h
        refine go_pick [] (Ls' := []) rfl ?_
        exact lp_back h hx16
      · rw [if_neg c18] at h
        refine go_aload_n (pc := 16) X 0 dX5_put_16 rfl rfl ?_
        refine go_getr (pc := 17) X (fk := 1) sh5 rfl inT_X5 (by decide) fL_X5_13 rfl dX5_put_17 ?_
        refine go_aload_n (pc := 20) X 0 dX5_put_20 rfl rfl ?_
        refine go_get (pc := 21) X (fk := 0) (fi := 0) rfl sh5 rfl inT_X5 (by decide) fL_X5_7 rfl dX5_put_21 ?_
        refine go_iload_n (pc := 24) X 1 dX5_put_24 rfl rfl ?_
        refine go_iload_n (pc := 25) X 2 dX5_put_25 rfl rfl ?_
        refine go_ishr (pc := 26) X dX5_put_26 ?_
        refine go_i2b (pc := 27) X dX5_put_27 ?_
        obtain ⟨g19, h⟩ := gd_some h
        obtain ⟨S20, e21, h⟩ := wrk_some h
        refine go_bastE (pc := 28) X e21 shBy (Nat.le_of_ble_eq_true rfl) rfl g19 dX5_put_28 ?_
        refine go_aload_n (pc := 29) X 0 dX5_put_29 rfl rfl ?_
        refine go_dup (pc := 30) X dX5_put_30 rfl ?_
        refine go_get (pc := 31) X (fk := 0) (fi := 0) rfl sh5 rfl inT_X5 (by decide) fL_X5_7 rfl dX5_put_31 ?_
        refine go_iconst (pc := 34) X dX5_put_34 ?_
        refine go_iadd (pc := 35) X dX5_put_35 ?_
        obtain ⟨S22, e23, h⟩ := wrk_some h
        refine go_putE (pc := 36) X (fk := 0) (fi := 0) rfl e23 sh5 rfl inT_X5 tyX5_ok nmX5 (by decide) fL_X5_7 rfl rfl rfl rfl rfl dX5_put_36 ?_
        refine go_iinc (pc := 39) X [1, 2, 0] 2 (Ls' := [(0, .ref (ad 2)), (1, .int (i32 a1)), (2, .int (i32 (t13.1 + (-8))))]) dX5_put_39 rfl (by decide) rfl ?_
        refine go_goto (pc := 42) X 12 dX5_put_42 rfl ?_
        exact lp_back h hx16
    refine H12 FU (24, S) r10 h11 ?_
    exact go_vret (pc := 45) X h dX5_put_45
  · rw [if_pos c3] at h
    exact go_vret (pc := 8) X h dX5_put_8
set_option maxRecDepth 100000 in
set_option maxHeartbeats 4000000 in
theorem ct_X3_storeIn {l : Launch} {D : va_G} {cI cB : ClassId} {Z : (Nat → Nat) × (Nat → Nat)} {ad : Nat → Nat} {S : Mem} {a2 : Int} {S' : Mem} (h : f_X3_storeIn S a2 = some S') : Ctr l D cI cB Z ad shsC yX3_storeIn cX3_storeIn 3 none 1 26 [.ref (ad 32), .ref (ad 35), .int (i32 a2)] S (none) S' := by
  refine ctr_of (by decide +kernel) (Nat.le_of_ble_eq_true rfl) rfl ?_
  intro p e s m args below meth c A X
  unfold f_X3_storeIn at h
  refine go_aload_n (pc := 0) X 1 dX3_storeIn_0 rfl rfl ?_
  refine go_iload_n (pc := 1) X 2 dX3_storeIn_1 rfl rfl ?_
  refine go_aload_n (pc := 2) X 0 dX3_storeIn_2 rfl rfl ?_
  refine go_get (pc := 3) X (fk := 0) (fi := 0) rfl sh3 rfl inT_X3 (by decide) fL_X3_11 rfl dX3_storeIn_3 ?_
  obtain ⟨g1, h⟩ := gd_some h
  obtain ⟨S2, e3, h⟩ := wrk_some h
  refine go_iastE (pc := 6) X e3 shHi (Nat.le_of_ble_eq_true rfl) rfl g1 dX3_storeIn_6 ?_
  refine go_aload_n (pc := 7) X 0 dX3_storeIn_7 rfl rfl ?_
  refine go_getr (pc := 8) X (fk := 1) sh3 rfl inT_X3 (by decide) fL_X3_15 rfl dX3_storeIn_8 ?_
  refine go_iconst (pc := 11) X dX3_storeIn_11 ?_
  refine go_aload_n (pc := 12) X 1 dX3_storeIn_12 rfl rfl ?_
  refine go_iload_n (pc := 13) X 2 dX3_storeIn_13 rfl rfl ?_
  refine go_iconst (pc := 14) X dX3_storeIn_14 ?_
  refine go_iadd (pc := 15) X dX3_storeIn_15 ?_
  refine go_aload_n (pc := 16) X 0 dX3_storeIn_16 rfl rfl ?_
  refine go_getr (pc := 17) X (fk := 1) sh3 rfl inT_X3 (by decide) fL_X3_15 rfl dX3_storeIn_17 ?_
  refine go_alen (pc := 20) X shLe dX3_storeIn_20 ?_
  obtain ⟨g4, h⟩ := gd_some h
  obtain ⟨S5, e6, h⟩ := cpyk_some h
  refine go_copyE (pc := 21) X e6 mL_X3_19 shLe shHi (Nat.le_of_ble_eq_true rfl) (Nat.le_of_ble_eq_true rfl) rfl rfl g4 (Nat.le_of_ble_eq_true rfl) (Nat.le_of_ble_eq_true rfl) dX3_storeIn_21 ?_
  exact go_vret (pc := 24) X h dX3_storeIn_24
set_option maxRecDepth 100000 in
set_option maxHeartbeats 4000000 in
theorem ct_X2_push {l : Launch} {D : va_G} {cI cB : ClassId} {Z : (Nat → Nat) × (Nat → Nat)} {ad : Nat → Nat} {S : Mem} {S' : Mem} (h : f_X2_push S = some S') : Ctr l D cI cB Z ad shsC yX2_push cX2_push 3 none 2 48 [.ref (ad 34), .ref (ad 5), .ref (ad 32)] S (none) S' := by
  refine ctr_of (by decide +kernel) (Nat.le_of_ble_eq_true rfl) rfl ?_
  intro p e s m args below meth c A X
  unfold f_X2_push at h
  refine go_aload_n (pc := 0) X 1 dX2_push_0 rfl rfl ?_
  refine go_aload_n (pc := 1) X 0 dX2_push_1 rfl rfl ?_
  refine go_getr (pc := 2) X (fk := 2) sh2 rfl inT_X2 (by decide) fL_X2_20 rfl dX2_push_2 ?_
  refine go_aload_n (pc := 5) X 0 dX2_push_5 rfl rfl ?_
  refine go_get (pc := 6) X (fk := 1) (fi := 1) rfl sh2 rfl inT_X2 (by decide) fL_X2_17 rfl dX2_push_6 ?_
  refine go_bipush (pc := 9) X dX2_push_9 (by decide) (by decide) ?_
  refine go_imul (pc := 11) X dX2_push_11 ?_
  obtain ⟨S1, h2, h⟩ := bind_some h
  refine go_callVv (pc := 12) X 2 [] (ct_X1_storeIn bk5 h2) (shB bk5) rfl gg_X2_24 hd_X1_storeIn ⟨Nat.le_of_ble_eq_true rfl, Nat.le_of_ble_eq_true rfl⟩ rfl rfl (Nat.le_of_ble_eq_true rfl) dX2_push_12 ?_
  refine go_aload_n (pc := 15) X 2 dX2_push_15 rfl rfl ?_
  refine go_aload_n (pc := 16) X 0 dX2_push_16 rfl rfl ?_
  refine go_getr (pc := 17) X (fk := 2) sh2 rfl inT_X2 (by decide) fL_X2_20 rfl dX2_push_17 ?_
  refine go_aload_n (pc := 20) X 0 dX2_push_20 rfl rfl ?_
  refine go_get (pc := 21) X (fk := 1) (fi := 1) rfl sh2 rfl inT_X2 (by decide) fL_X2_17 rfl dX2_push_21 ?_
  refine go_bipush (pc := 24) X dX2_push_24 (by decide) (by decide) ?_
  refine go_imul (pc := 26) X dX2_push_26 ?_
  refine go_bipush (pc := 27) X dX2_push_27 (by decide) (by decide) ?_
  refine go_iadd (pc := 29) X dX2_push_29 ?_
  obtain ⟨S3, h4, h⟩ := bind_some h
  refine go_callVv (pc := 30) X 2 [] (ct_X3_storeIn h4) sh3 rfl gg_X2_28 hd_X3_storeIn ⟨Nat.le_of_ble_eq_true rfl, Nat.le_of_ble_eq_true rfl⟩ rfl rfl (Nat.le_of_ble_eq_true rfl) dX2_push_30 ?_
  refine go_aload_n (pc := 33) X 0 dX2_push_33 rfl rfl ?_
  refine go_aload_n (pc := 34) X 0 dX2_push_34 rfl rfl ?_
  refine go_get (pc := 35) X (fk := 1) (fi := 1) rfl sh2 rfl inT_X2 (by decide) fL_X2_17 rfl dX2_push_35 ?_
  refine go_iconst (pc := 38) X dX2_push_38 ?_
  refine go_iadd (pc := 39) X dX2_push_39 ?_
  refine go_bipush (pc := 40) X dX2_push_40 (by decide) (by decide) ?_
  refine go_irem (pc := 42) X dX2_push_42 rfl ?_
  obtain ⟨S5, e6, h⟩ := wrk_some h
  refine go_putE (pc := 43) X (fk := 1) (fi := 1) rfl e6 sh2 rfl inT_X2 tyX2_ok nmX2 (by decide) fL_X2_17 rfl rfl rfl rfl rfl dX2_push_43 ?_
  refine go_aload_n (pc := 46) X 0 dX2_push_46 rfl rfl ?_
  refine go_aload_n (pc := 47) X 0 dX2_push_47 rfl rfl ?_
  refine go_get (pc := 48) X (fk := 0) (fi := 0) rfl sh2 rfl inT_X2 (by decide) fL_X2_11 rfl dX2_push_48 ?_
  refine go_iconst (pc := 51) X dX2_push_51 ?_
  refine go_iadd (pc := 52) X dX2_push_52 ?_
  refine go_bipush (pc := 53) X dX2_push_53 (by decide) (by decide) ?_
  refine go_mmin (pc := 55) X mL_X2_29 (Nat.le_of_ble_eq_true rfl) (Nat.le_of_ble_eq_true rfl) dX2_push_55 ?_
  obtain ⟨S7, e8, h⟩ := wrk_some h
  refine go_putE (pc := 58) X (fk := 0) (fi := 0) rfl e8 sh2 rfl inT_X2 tyX2_ok nmX2 (by decide) fL_X2_11 rfl rfl rfl rfl rfl dX2_push_58 ?_
  exact go_vret (pc := 61) X h dX2_push_61
set_option maxRecDepth 100000 in
set_option maxHeartbeats 4000000 in
theorem ct_X3_write {l : Launch} {D : va_G} {cI cB : ClassId} {Z : (Nat → Nat) × (Nat → Nat)} {ad : Nat → Nat} {S : Mem} {a1 : Int} {a2 : Int} {a3 : Int} {a4 : Int} {S' : Mem} (h : f_X3_write S a1 a2 a3 a4 = some S') : Ctr l D cI cB Z ad shsC yX3_write cX3_write 5 none 1 26 [.ref (ad 32), .int (i32 a1), .int (i32 a2), .int (i32 a3), .int (i32 a4)] S (none) S' := by
  refine ctr_of (by decide +kernel) (Nat.le_of_ble_eq_true rfl) rfl ?_
  intro p e s m args below meth c A X
  unfold f_X3_write at h
  refine go_aload_n (pc := 0) X 0 dX3_write_0 rfl rfl ?_
  refine go_getr (pc := 1) X (fk := 1) sh3 rfl inT_X3 (by decide) fL_X3_15 rfl dX3_write_1 ?_
  refine go_iconst (pc := 4) X dX3_write_4 ?_
  refine go_aload_n (pc := 5) X 0 dX3_write_5 rfl rfl ?_
  refine go_getr (pc := 6) X (fk := 1) sh3 rfl inT_X3 (by decide) fL_X3_15 rfl dX3_write_6 ?_
  refine go_iconst (pc := 9) X dX3_write_9 ?_
  refine go_bipush (pc := 10) X dX3_write_10 (by decide) (by decide) ?_
  obtain ⟨g1, h⟩ := gd_some h
  obtain ⟨S2, e3, h⟩ := cpyk_some h
  refine go_copyE (pc := 12) X e3 mL_X3_19 shLe shLe (Nat.le_of_ble_eq_true rfl) (Nat.le_of_ble_eq_true rfl) rfl rfl g1 (Nat.le_of_ble_eq_true rfl) (Nat.le_of_ble_eq_true rfl) dX3_write_12 ?_
  refine go_aload_n (pc := 15) X 0 dX3_write_15 rfl rfl ?_
  refine go_getr (pc := 16) X (fk := 1) sh3 rfl inT_X3 (by decide) fL_X3_15 rfl dX3_write_16 ?_
  refine go_iconst (pc := 19) X dX3_write_19 ?_
  refine go_iload_n (pc := 20) X 1 dX3_write_20 rfl rfl ?_
  obtain ⟨g4, h⟩ := gd_some h
  obtain ⟨S5, e6, h⟩ := wrk_some h
  refine go_iastE (pc := 21) X e6 shLe (Nat.le_of_ble_eq_true rfl) rfl g4 dX3_write_21 ?_
  refine go_aload_n (pc := 22) X 0 dX3_write_22 rfl rfl ?_
  refine go_getr (pc := 23) X (fk := 1) sh3 rfl inT_X3 (by decide) fL_X3_15 rfl dX3_write_23 ?_
  refine go_iconst (pc := 26) X dX3_write_26 ?_
  refine go_iload_n (pc := 27) X 2 dX3_write_27 rfl rfl ?_
  obtain ⟨g7, h⟩ := gd_some h
  obtain ⟨S8, e9, h⟩ := wrk_some h
  refine go_iastE (pc := 28) X e9 shLe (Nat.le_of_ble_eq_true rfl) rfl g7 dX3_write_28 ?_
  refine go_aload_n (pc := 29) X 0 dX3_write_29 rfl rfl ?_
  refine go_getr (pc := 30) X (fk := 1) sh3 rfl inT_X3 (by decide) fL_X3_15 rfl dX3_write_30 ?_
  refine go_iconst (pc := 33) X dX3_write_33 ?_
  refine go_iload_n (pc := 34) X 3 dX3_write_34 rfl rfl ?_
  obtain ⟨g10, h⟩ := gd_some h
  obtain ⟨S11, e12, h⟩ := wrk_some h
  refine go_iastE (pc := 35) X e12 shLe (Nat.le_of_ble_eq_true rfl) rfl g10 dX3_write_35 ?_
  refine go_aload_n (pc := 36) X 0 dX3_write_36 rfl rfl ?_
  refine go_getr (pc := 37) X (fk := 1) sh3 rfl inT_X3 (by decide) fL_X3_15 rfl dX3_write_37 ?_
  refine go_iconst (pc := 40) X dX3_write_40 ?_
  refine go_iload (pc := 41) X 4 dX3_write_41 rfl ?_
  obtain ⟨g13, h⟩ := gd_some h
  obtain ⟨S14, e15, h⟩ := wrk_some h
  refine go_iastE (pc := 43) X e15 shLe (Nat.le_of_ble_eq_true rfl) rfl g13 dX3_write_43 ?_
  refine go_aload_n (pc := 44) X 0 dX3_write_44 rfl rfl ?_
  refine go_aload_n (pc := 45) X 0 dX3_write_45 rfl rfl ?_
  refine go_get (pc := 46) X (fk := 0) (fi := 0) rfl sh3 rfl inT_X3 (by decide) fL_X3_11 rfl dX3_write_46 ?_
  refine go_iconst (pc := 49) X dX3_write_49 ?_
  refine go_iadd (pc := 50) X dX3_write_50 ?_
  refine go_bipush (pc := 51) X dX3_write_51 (by decide) (by decide) ?_
  refine go_mmin (pc := 53) X mL_X3_25 (Nat.le_of_ble_eq_true rfl) (Nat.le_of_ble_eq_true rfl) dX3_write_53 ?_
  obtain ⟨S16, e17, h⟩ := wrk_some h
  refine go_putE (pc := 56) X (fk := 0) (fi := 0) rfl e17 sh3 rfl inT_X3 tyX3_ok nmX3 (by decide) fL_X3_11 rfl rfl rfl rfl rfl dX3_write_56 ?_
  exact go_vret (pc := 59) X h dX3_write_59
set_option maxRecDepth 100000 in
set_option maxHeartbeats 4000000 in
theorem ct_X3_loadFrom {l : Launch} {D : va_G} {cI cB : ClassId} {Z : (Nat → Nat) × (Nat → Nat)} {ad : Nat → Nat} {S : Mem} {a2 : Int} {S' : Mem} (h : f_X3_loadFrom S a2 = some S') : Ctr l D cI cB Z ad shsC yX3_loadFrom cX3_loadFrom 3 none 1 26 [.ref (ad 32), .ref (ad 35), .int (i32 a2)] S (none) S' := by
  refine ctr_of (by decide +kernel) (Nat.le_of_ble_eq_true rfl) rfl ?_
  intro p e s m args below meth c A X
  unfold f_X3_loadFrom at h
  refine go_aload_n (pc := 0) X 0 dX3_loadFrom_0 rfl rfl ?_
  refine go_aload_n (pc := 1) X 1 dX3_loadFrom_1 rfl rfl ?_
  refine go_iload_n (pc := 2) X 2 dX3_loadFrom_2 rfl rfl ?_
  obtain ⟨g1, h⟩ := gd_some h
  refine go_iald (pc := 3) X shHi (Nat.le_of_ble_eq_true rfl) rfl g1 dX3_loadFrom_3 ?_
  obtain ⟨S2, e3, h⟩ := wrk_some h
  refine go_putE (pc := 4) X (fk := 0) (fi := 0) rfl e3 sh3 rfl inT_X3 tyX3_ok nmX3 (by decide) fL_X3_11 rfl rfl rfl rfl rfl dX3_loadFrom_4 ?_
  refine go_aload_n (pc := 7) X 1 dX3_loadFrom_7 rfl rfl ?_
  refine go_iload_n (pc := 8) X 2 dX3_loadFrom_8 rfl rfl ?_
  refine go_iconst (pc := 9) X dX3_loadFrom_9 ?_
  refine go_iadd (pc := 10) X dX3_loadFrom_10 ?_
  refine go_aload_n (pc := 11) X 0 dX3_loadFrom_11 rfl rfl ?_
  refine go_getr (pc := 12) X (fk := 1) sh3 rfl inT_X3 (by decide) fL_X3_15 rfl dX3_loadFrom_12 ?_
  refine go_iconst (pc := 15) X dX3_loadFrom_15 ?_
  refine go_aload_n (pc := 16) X 0 dX3_loadFrom_16 rfl rfl ?_
  refine go_getr (pc := 17) X (fk := 1) sh3 rfl inT_X3 (by decide) fL_X3_15 rfl dX3_loadFrom_17 ?_
  refine go_alen (pc := 20) X shLe dX3_loadFrom_20 ?_
  obtain ⟨g4, h⟩ := gd_some h
  obtain ⟨S5, e6, h⟩ := cpyk_some h
  refine go_copyE (pc := 21) X e6 mL_X3_19 shHi shLe (Nat.le_of_ble_eq_true rfl) (Nat.le_of_ble_eq_true rfl) rfl rfl g4 (Nat.le_of_ble_eq_true rfl) (Nat.le_of_ble_eq_true rfl) dX3_loadFrom_21 ?_
  exact go_vret (pc := 24) X h dX3_loadFrom_24
set_option maxRecDepth 100000 in
set_option maxHeartbeats 4000000 in
theorem ct_X2_pop {l : Launch} {D : va_G} {cI cB : ClassId} {Z : (Nat → Nat) × (Nat → Nat)} {ad : Nat → Nat} {S : Mem} {S' : Mem} (h : f_X2_pop S = some S') : Ctr l D cI cB Z ad shsC yX2_pop cX2_pop 3 none 2 48 [.ref (ad 34), .ref (ad 5), .ref (ad 32)] S (none) S' := by
  refine ctr_of (by decide +kernel) (Nat.le_of_ble_eq_true rfl) rfl ?_
  intro p e s m args below meth c A X
  unfold f_X2_pop at h
  refine go_aload_n (pc := 0) X 0 dX2_pop_0 rfl rfl ?_
  refine go_get (pc := 1) X (fk := 0) (fi := 0) rfl sh2 rfl inT_X2 (by decide) fL_X2_11 rfl dX2_pop_1 ?_
  refine go_if_ne (pc := 4) X 8 dX2_pop_4 rfl (fun c1 => ?_) (fun c1 => ?_)
  · rw [if_neg c1] at h
    refine go_aload_n (pc := 8) X 0 dX2_pop_8 rfl rfl ?_
    refine go_aload_n (pc := 9) X 0 dX2_pop_9 rfl rfl ?_
    refine go_get (pc := 10) X (fk := 1) (fi := 1) rfl sh2 rfl inT_X2 (by decide) fL_X2_17 rfl dX2_pop_10 ?_
    refine go_bipush (pc := 13) X dX2_pop_13 (by decide) (by decide) ?_
    refine go_iadd (pc := 15) X dX2_pop_15 ?_
    refine go_iconst (pc := 16) X dX2_pop_16 ?_
    refine go_isub (pc := 17) X dX2_pop_17 ?_
    refine go_bipush (pc := 18) X dX2_pop_18 (by decide) (by decide) ?_
    refine go_irem (pc := 20) X dX2_pop_20 rfl ?_
    obtain ⟨S2, e3, h⟩ := wrk_some h
    refine go_putE (pc := 21) X (fk := 1) (fi := 1) rfl e3 sh2 rfl inT_X2 tyX2_ok nmX2 (by decide) fL_X2_17 rfl rfl rfl rfl rfl dX2_pop_21 ?_
    refine go_aload_n (pc := 24) X 0 dX2_pop_24 rfl rfl ?_
    refine go_dup (pc := 25) X dX2_pop_25 rfl ?_
    refine go_get (pc := 26) X (fk := 0) (fi := 0) rfl sh2 rfl inT_X2 (by decide) fL_X2_11 rfl dX2_pop_26 ?_
    refine go_iconst (pc := 29) X dX2_pop_29 ?_
    refine go_isub (pc := 30) X dX2_pop_30 ?_
    obtain ⟨S4, e5, h⟩ := wrk_some h
    refine go_putE (pc := 31) X (fk := 0) (fi := 0) rfl e5 sh2 rfl inT_X2 tyX2_ok nmX2 (by decide) fL_X2_11 rfl rfl rfl rfl rfl dX2_pop_31 ?_
    refine go_aload_n (pc := 34) X 1 dX2_pop_34 rfl rfl ?_
    refine go_aload_n (pc := 35) X 0 dX2_pop_35 rfl rfl ?_
    refine go_getr (pc := 36) X (fk := 2) sh2 rfl inT_X2 (by decide) fL_X2_20 rfl dX2_pop_36 ?_
    refine go_aload_n (pc := 39) X 0 dX2_pop_39 rfl rfl ?_
    refine go_get (pc := 40) X (fk := 1) (fi := 1) rfl sh2 rfl inT_X2 (by decide) fL_X2_17 rfl dX2_pop_40 ?_
    refine go_bipush (pc := 43) X dX2_pop_43 (by decide) (by decide) ?_
    refine go_imul (pc := 45) X dX2_pop_45 ?_
    obtain ⟨S6, h7, h⟩ := bind_some h
    refine go_callVv (pc := 46) X 2 [] (ct_X1_loadFrom bk5 h7) (shB bk5) rfl gg_X2_35 hd_X1_loadFrom ⟨Nat.le_of_ble_eq_true rfl, Nat.le_of_ble_eq_true rfl⟩ rfl rfl (Nat.le_of_ble_eq_true rfl) dX2_pop_46 ?_
    refine go_aload_n (pc := 49) X 2 dX2_pop_49 rfl rfl ?_
    refine go_aload_n (pc := 50) X 0 dX2_pop_50 rfl rfl ?_
    refine go_getr (pc := 51) X (fk := 2) sh2 rfl inT_X2 (by decide) fL_X2_20 rfl dX2_pop_51 ?_
    refine go_aload_n (pc := 54) X 0 dX2_pop_54 rfl rfl ?_
    refine go_get (pc := 55) X (fk := 1) (fi := 1) rfl sh2 rfl inT_X2 (by decide) fL_X2_17 rfl dX2_pop_55 ?_
    refine go_bipush (pc := 58) X dX2_pop_58 (by decide) (by decide) ?_
    refine go_imul (pc := 60) X dX2_pop_60 ?_
    refine go_bipush (pc := 61) X dX2_pop_61 (by decide) (by decide) ?_
    refine go_iadd (pc := 63) X dX2_pop_63 ?_
    obtain ⟨S8, h9, h⟩ := bind_some h
    refine go_callVv (pc := 64) X 2 [] (ct_X3_loadFrom h9) sh3 rfl gg_X2_38 hd_X3_loadFrom ⟨Nat.le_of_ble_eq_true rfl, Nat.le_of_ble_eq_true rfl⟩ rfl rfl (Nat.le_of_ble_eq_true rfl) dX2_pop_64 ?_
    exact go_vret (pc := 67) X h dX2_pop_67
  · rw [if_pos c1] at h
    exact go_vret (pc := 7) X h dX2_pop_7
set_option maxRecDepth 100000 in
set_option maxHeartbeats 4000000 in
theorem ct_X3_read {l : Launch} {D : va_G} {cI cB : ClassId} {Z : (Nat → Nat) × (Nat → Nat)} {ad : Nat → Nat} {S : Mem} {a1 : Int} {a2 : Int} {r : Int} (h : f_X3_read S a1 a2 = some r) : Ctr l D cI cB Z ad shsC yX3_read cX3_read 3 (some .int) 0 0 [.ref (ad 32), .int (i32 a1), .int (i32 a2)] S (some (.int (i32 r))) S := by
  refine ctr_of (by decide +kernel) (Nat.le_of_ble_eq_true rfl) rfl ?_
  intro p e s m args below meth c A X
  unfold f_X3_read at h
  refine go_iload_n (pc := 0) X 1 dX3_read_0 rfl rfl ?_
  refine go_if_lt (pc := 1) X 21 dX3_read_1 rfl (fun c1 => ?_) (fun c1 => ?_)
  · rw [if_pos c1] at h
    refine go_iconst (pc := 21) X dX3_read_21 ?_
    exact go_iretP (pc := 22) X h dX3_read_22
  · rw [if_neg c1] at h
    refine go_iload_n (pc := 4) X 1 dX3_read_4 rfl rfl ?_
    refine go_aload_n (pc := 5) X 0 dX3_read_5 rfl rfl ?_
    refine go_get (pc := 6) X (fk := 0) (fi := 0) rfl sh3 rfl inT_X3 (by decide) fL_X3_11 rfl dX3_read_6 ?_
    refine go_icmp_ge (pc := 9) X 21 dX3_read_9 rfl (fun c2 => ?_) (fun c2 => ?_)
    · rw [if_neg c2] at h
      refine go_iconst (pc := 21) X dX3_read_21 ?_
      exact go_iretP (pc := 22) X h dX3_read_22
    · rw [if_pos c2] at h
      refine go_iload_n (pc := 12) X 2 dX3_read_12 rfl rfl ?_
      refine go_if_lt (pc := 13) X 21 dX3_read_13 rfl (fun c3 => ?_) (fun c3 => ?_)
      · rw [if_pos c3] at h
        refine go_iconst (pc := 21) X dX3_read_21 ?_
        exact go_iretP (pc := 22) X h dX3_read_22
      · rw [if_neg c3] at h
        refine go_iload_n (pc := 16) X 2 dX3_read_16 rfl rfl ?_
        refine go_iconst (pc := 17) X dX3_read_17 ?_
        refine go_icmp_lt (pc := 18) X 23 dX3_read_18 rfl (fun c4 => ?_) (fun c4 => ?_)
        · rw [if_pos c4] at h
          refine go_aload_n (pc := 23) X 0 dX3_read_23 rfl rfl ?_
          refine go_getr (pc := 24) X (fk := 1) sh3 rfl inT_X3 (by decide) fL_X3_15 rfl dX3_read_24 ?_
          refine go_iload_n (pc := 27) X 1 dX3_read_27 rfl rfl ?_
          refine go_iconst (pc := 28) X dX3_read_28 ?_
          refine go_imul (pc := 29) X dX3_read_29 ?_
          refine go_iload_n (pc := 30) X 2 dX3_read_30 rfl rfl ?_
          refine go_iadd (pc := 31) X dX3_read_31 ?_
          obtain ⟨g5, h⟩ := gd_some h
          refine go_iald (pc := 32) X shLe (Nat.le_of_ble_eq_true rfl) rfl g5 dX3_read_32 ?_
          exact go_iretP (pc := 33) X h dX3_read_33
        · rw [if_neg c4] at h
          refine go_iconst (pc := 21) X dX3_read_21 ?_
          exact go_iretP (pc := 22) X h dX3_read_22
