set_option maxRecDepth 100000 in
set_option maxHeartbeats 4000000 in
theorem ct_X7_feed {l : Launch} {D : va_G} {cI cB : ClassId} {Z : (Nat → Nat) × (Nat → Nat)} {ad : Nat → Nat} {S : Mem} {a1 : Int} {a2 : Int} {a3 : Int} {a4 : Int} {a5 : Int} {r : Int} {S' : Mem} (h : f_X7_feed S a1 a2 a3 a4 a5 = some (r, S')) : Ctr l D cI cB Z ad shsC yX7_feed cX7_feed 6 (some .int) 2 43 [.ref (ad 0), .int (i32 a1), .int (i32 a2), .int (i32 a3), .int (i32 a4), .int (i32 a5)] S (some (.int (i32 r))) S' := by
  refine ctr_of (by decide +kernel) (Nat.le_of_ble_eq_true rfl) rfl ?_
  intro p e s m args below meth c A X
  unfold f_X7_feed at h
  refine go_aload_n (pc := 0) X 0 dX7_feed_0 rfl rfl ?_
  refine go_getr (pc := 1) X (fk := 1) sh7 rfl inT_X7 (by decide) fL_X7_20 rfl dX7_feed_1 ?_
  refine go_bipush (pc := 4) X dX7_feed_4 (by decide) (by decide) ?_
  obtain ⟨r1, h2, h⟩ := bind_some h
  refine go_callVi (pc := 6) X 1 [] (ct_X5_hasRoomFor h2) sh5 rfl gg_X7_64 hd_X5_hasRoomFor ⟨Nat.le_of_ble_eq_true rfl, Nat.le_of_ble_eq_true rfl⟩ rfl rfl (Nat.le_of_ble_eq_true rfl) dX7_feed_6 ?_
  refine go_if_ne (pc := 9) X 14 dX7_feed_9 rfl (fun c3 => ?_) (fun c3 => ?_)
  · rw [if_neg c3] at h
    refine go_aload_n (pc := 14) X 0 dX7_feed_14 rfl rfl ?_
    refine go_getr (pc := 15) X (fk := 1) sh7 rfl inT_X7 (by decide) fL_X7_20 rfl dX7_feed_15 ?_
    refine go_iload_n (pc := 18) X 1 dX7_feed_18 rfl rfl ?_
    obtain ⟨S4, h5, h⟩ := bind_some h
    refine go_callVv (pc := 19) X 1 [] (ct_X5_put h5) sh5 rfl gg_X7_70 hd_X5_put ⟨Nat.le_of_ble_eq_true rfl, Nat.le_of_ble_eq_true rfl⟩ rfl rfl (Nat.le_of_ble_eq_true rfl) dX7_feed_19 ?_
    refine go_aload_n (pc := 22) X 0 dX7_feed_22 rfl rfl ?_
    refine go_getr (pc := 23) X (fk := 1) sh7 rfl inT_X7 (by decide) fL_X7_20 rfl dX7_feed_23 ?_
    refine go_iload_n (pc := 26) X 2 dX7_feed_26 rfl rfl ?_
    obtain ⟨S6, h7, h⟩ := bind_some h
    refine go_callVv (pc := 27) X 1 [] (ct_X5_put h7) sh5 rfl gg_X7_70 hd_X5_put ⟨Nat.le_of_ble_eq_true rfl, Nat.le_of_ble_eq_true rfl⟩ rfl rfl (Nat.le_of_ble_eq_true rfl) dX7_feed_27 ?_
    refine go_aload_n (pc := 30) X 0 dX7_feed_30 rfl rfl ?_
    refine go_getr (pc := 31) X (fk := 1) sh7 rfl inT_X7 (by decide) fL_X7_20 rfl dX7_feed_31 ?_
    refine go_iload_n (pc := 34) X 3 dX7_feed_34 rfl rfl ?_
    obtain ⟨S8, h9, h⟩ := bind_some h
    refine go_callVv (pc := 35) X 1 [] (ct_X5_put h9) sh5 rfl gg_X7_70 hd_X5_put ⟨Nat.le_of_ble_eq_true rfl, Nat.le_of_ble_eq_true rfl⟩ rfl rfl (Nat.le_of_ble_eq_true rfl) dX7_feed_35 ?_
    refine go_aload_n (pc := 38) X 0 dX7_feed_38 rfl rfl ?_
    refine go_getr (pc := 39) X (fk := 1) sh7 rfl inT_X7 (by decide) fL_X7_20 rfl dX7_feed_39 ?_
    refine go_iload (pc := 42) X 4 dX7_feed_42 rfl ?_
    obtain ⟨S10, h11, h⟩ := bind_some h
    refine go_callVv (pc := 44) X 1 [] (ct_X5_put h11) sh5 rfl gg_X7_70 hd_X5_put ⟨Nat.le_of_ble_eq_true rfl, Nat.le_of_ble_eq_true rfl⟩ rfl rfl (Nat.le_of_ble_eq_true rfl) dX7_feed_44 ?_
    refine go_aload_n (pc := 47) X 0 dX7_feed_47 rfl rfl ?_
    refine go_getr (pc := 48) X (fk := 1) sh7 rfl inT_X7 (by decide) fL_X7_20 rfl dX7_feed_48 ?_
    refine go_iload (pc := 51) X 5 dX7_feed_51 rfl ?_
    obtain ⟨S12, h13, h⟩ := bind_some h
    refine go_callVv (pc := 53) X 1 [] (ct_X5_put h13) sh5 rfl gg_X7_70 hd_X5_put ⟨Nat.le_of_ble_eq_true rfl, Nat.le_of_ble_eq_true rfl⟩ rfl rfl (Nat.le_of_ble_eq_true rfl) dX7_feed_53 ?_
    refine go_aload_n (pc := 56) X 0 dX7_feed_56 rfl rfl ?_
    refine go_getr (pc := 57) X (fk := 1) sh7 rfl inT_X7 (by decide) fL_X7_20 rfl dX7_feed_57 ?_
    refine go_get (pc := 60) X (fk := 0) (fi := 0) rfl sh5 rfl inT_X5 (by decide) fL_X7_74 rfl dX7_feed_60 ?_
    exact go_iret (pc := 63) X h dX7_feed_63
  · rw [if_pos c3] at h
    refine go_iconst (pc := 12) X dX7_feed_12 ?_
    exact go_iret (pc := 13) X h dX7_feed_13
set_option maxRecDepth 100000 in
set_option maxHeartbeats 4000000 in
theorem ct_X7_back {l : Launch} {D : va_G} {cI cB : ClassId} {Z : (Nat → Nat) × (Nat → Nat)} {ad : Nat → Nat} {S : Mem} {a1 : Int} {r : Int} {S' : Mem} (h : f_X7_back S a1 = some (r, S')) : Ctr l D cI cB Z ad shsC yX7_back cX7_back 2 (some .int) 0 0 [.ref (ad 0), .int (i32 a1)] S (some (.int (i32 r))) S' := by
  refine ctr_of (by decide +kernel) (Nat.le_of_ble_eq_true rfl) rfl ?_
  intro p e s m args below meth c A X
  unfold f_X7_back at h
  refine go_iload_n (pc := 0) X 1 dX7_back_0 rfl rfl ?_
  refine go_if_lt (pc := 1) X 15 dX7_back_1 rfl (fun c1 => ?_) (fun c1 => ?_)
  · rw [if_pos c1] at h
    refine go_iconst (pc := 15) X dX7_back_15 ?_
    exact go_iret (pc := 16) X h dX7_back_16
  · rw [if_neg c1] at h
    refine go_iload_n (pc := 4) X 1 dX7_back_4 rfl rfl ?_
    refine go_aload_n (pc := 5) X 0 dX7_back_5 rfl rfl ?_
    refine go_getr (pc := 6) X (fk := 1) sh7 rfl inT_X7 (by decide) fL_X7_20 rfl dX7_back_6 ?_
    refine go_get (pc := 9) X (fk := 0) (fi := 0) rfl sh5 rfl inT_X5 (by decide) fL_X7_74 rfl dX7_back_9 ?_
    refine go_icmp_le (pc := 12) X 17 dX7_back_12 rfl (fun c2 => ?_) (fun c2 => ?_)
    · rw [if_neg c2] at h
      refine go_aload_n (pc := 17) X 0 dX7_back_17 rfl rfl ?_
      refine go_getr (pc := 18) X (fk := 1) sh7 rfl inT_X7 (by decide) fL_X7_20 rfl dX7_back_18 ?_
      refine go_dup (pc := 21) X dX7_back_21 rfl ?_
      refine go_get (pc := 22) X (fk := 0) (fi := 0) rfl sh5 rfl inT_X5 (by decide) fL_X7_74 rfl dX7_back_22 ?_
      refine go_iload_n (pc := 25) X 1 dX7_back_25 rfl rfl ?_
      refine go_isub (pc := 26) X dX7_back_26 ?_
      obtain ⟨S3, e4, h⟩ := wrk_some h
      refine go_putE (pc := 27) X (fk := 0) (fi := 0) rfl e4 sh5 rfl inT_X5 tyX5_ok nmX5 (by decide) fL_X7_74 rfl rfl rfl rfl rfl dX7_back_27 ?_
      refine go_aload_n (pc := 30) X 0 dX7_back_30 rfl rfl ?_
      refine go_getr (pc := 31) X (fk := 1) sh7 rfl inT_X7 (by decide) fL_X7_20 rfl dX7_back_31 ?_
      refine go_get (pc := 34) X (fk := 0) (fi := 0) rfl sh5 rfl inT_X5 (by decide) fL_X7_74 rfl dX7_back_34 ?_
      exact go_iret (pc := 37) X h dX7_back_37
    · rw [if_pos c2] at h
      refine go_iconst (pc := 15) X dX7_back_15 ?_
      exact go_iret (pc := 16) X h dX7_back_16
set_option maxRecDepth 100000 in
set_option maxHeartbeats 4000000 in
theorem ct_X7_text {l : Launch} {D : va_G} {cI cB : ClassId} {Z : (Nat → Nat) × (Nat → Nat)} {ad : Nat → Nat} {S : Mem} {r : Int} {S' : Mem} (h : f_X7_text S = some (r, S')) : Ctr l D cI cB Z ad shsC yX7_text cX7_text 2 (some .int) 7 157 [.ref (ad 0)] S (some (.int (i32 r))) S' := by
  refine ctr_of (by decide +kernel) (Nat.le_of_ble_eq_true rfl) rfl ?_
  intro p e s m args below meth c A X
  unfold f_X7_text at h
  refine go_aload_n (pc := 0) X 0 dX7_text_0 rfl rfl ?_
  refine go_getr (pc := 1) X (fk := 0) sh7 rfl inT_X7 (by decide) fL_X7_12 rfl dX7_text_1 ?_
  refine go_aload_n (pc := 4) X 0 dX7_text_4 rfl rfl ?_
  refine go_getr (pc := 5) X (fk := 7) sh7 rfl inT_X7 (by decide) fL_X7_50 rfl dX7_text_5 ?_
  obtain ⟨u1, h2, h⟩ := bind_some h
  refine go_callVi (pc := 8) X 1 [] (ct_X6_read h2) sh6 rfl gg_X7_78 hd_X6_read ⟨Nat.le_of_ble_eq_true rfl, Nat.le_of_ble_eq_true rfl⟩ rfl rfl (Nat.le_of_ble_eq_true rfl) dX7_text_8 ?_
  refine go_istore_n (pc := 11) X [1, 0] (Ls' := [(0, .ref (ad 0)), (1, .int (i32 u1.1))]) dX7_text_11 rfl (by decide) rfl ?_
  refine go_aload_n (pc := 12) X 0 dX7_text_12 rfl rfl ?_
  refine go_getr (pc := 13) X (fk := 1) sh7 rfl inT_X7 (by decide) fL_X7_20 rfl dX7_text_13 ?_
  refine go_iconst (pc := 16) X dX7_text_16 ?_
  obtain ⟨S3, e4, h⟩ := wrk_some h
  refine go_putE (pc := 17) X (fk := 0) (fi := 0) rfl e4 sh5 rfl inT_X5 tyX5_ok nmX5 (by decide) fL_X7_74 rfl rfl rfl rfl rfl dX7_text_17 ?_
  refine go_iload_n (pc := 20) X 1 dX7_text_20 rfl rfl ?_
  refine go_if_lt (pc := 21) X 29 dX7_text_21 rfl (fun c5 => ?_) (fun c5 => ?_)
  · rw [if_pos c5] at h
    refine go_aload_n (pc := 29) X 0 dX7_text_29 rfl rfl ?_
    refine go_getr (pc := 30) X (fk := 3) sh7 rfl inT_X7 (by decide) fL_X7_32 rfl dX7_text_30 ?_
    refine go_aload_n (pc := 33) X 0 dX7_text_33 rfl rfl ?_
    refine go_getr (pc := 34) X (fk := 7) sh7 rfl inT_X7 (by decide) fL_X7_50 rfl dX7_text_34 ?_
    obtain ⟨S6, h7, h⟩ := bind_some h
    refine go_callVv (pc := 37) X 1 [] (ct_X1_takeFrom bk5 bk19 h7) (shB bk5) rfl gg_X7_82 hd_X1_takeFrom ⟨Nat.le_of_ble_eq_true rfl, Nat.le_of_ble_eq_true rfl⟩ rfl rfl (Nat.le_of_ble_eq_true rfl) dX7_text_37 ?_
    refine go_aload_n (pc := 40) X 0 dX7_text_40 rfl rfl ?_
    refine go_getr (pc := 41) X (fk := 4) sh7 rfl inT_X7 (by decide) fL_X7_36 rfl dX7_text_41 ?_
    refine go_iconst (pc := 44) X dX7_text_44 ?_
    obtain ⟨S8, e9, h⟩ := wrk_some h
    refine go_putE (pc := 45) X (fk := 0) (fi := 0) rfl e9 sh3 rfl inT_X3 tyX3_ok nmX3 (by decide) fL_X7_88 rfl rfl rfl rfl rfl dX7_text_45 ?_
    refine go_aload_n (pc := 48) X 0 dX7_text_48 rfl rfl ?_
    refine go_getr (pc := 49) X (fk := 5) sh7 rfl inT_X7 (by decide) fL_X7_43 rfl dX7_text_49 ?_
    refine go_iconst (pc := 52) X dX7_text_52 ?_
    obtain ⟨S10, e11, h⟩ := wrk_some h
    refine go_putE (pc := 53) X (fk := 0) (fi := 0) rfl e11 sh2 rfl inT_X2 tyX2_ok nmX2 (by decide) fL_X7_91 rfl rfl rfl rfl rfl dX7_text_53 ?_
    refine go_aload_n (pc := 56) X 0 dX7_text_56 rfl rfl ?_
    refine go_iconst (pc := 57) X dX7_text_57 ?_
    obtain ⟨S12, e13, h⟩ := wrk_some h
    refine go_putE (pc := 58) X (fk := 9) (fi := 9) rfl e13 sh7 rfl inT_X7 tyX7_ok nmX7 (by decide) fL_X7_60 rfl rfl rfl rfl rfl dX7_text_58 ?_
    refine go_aload_n (pc := 61) X 0 dX7_text_61 rfl rfl ?_
    refine go_getr (pc := 62) X (fk := 3) sh7 rfl inT_X7 (by decide) fL_X7_32 rfl dX7_text_62 ?_
    refine go_get (pc := 65) X (fk := 2) (fi := 2) rfl (shB bk5) rfl inT_X1 (by decide) fL_X7_94 rfl dX7_text_65 ?_
    exact go_iret (pc := 68) X h dX7_text_68
  · rw [if_neg c5] at h
    refine go_bipush (pc := 24) X dX7_text_24 (by decide) (by decide) ?_
    refine go_iload_n (pc := 26) X 1 dX7_text_26 rfl rfl ?_
    refine go_isub (pc := 27) X dX7_text_27 ?_
    exact go_iret (pc := 28) X h dX7_text_28
set_option maxRecDepth 100000 in
set_option maxHeartbeats 4000000 in
theorem ct_X7_remember {l : Launch} {D : va_G} {cI cB : ClassId} {Z : (Nat → Nat) × (Nat → Nat)} {ad : Nat → Nat} {S : Mem} {S' : Mem} (h : f_X7_remember S = some S') : Ctr l D cI cB Z ad shsC yX7_remember cX7_remember 1 none 3 70 [.ref (ad 0)] S (none) S' := by
  refine ctr_of (by decide +kernel) (Nat.le_of_ble_eq_true rfl) rfl ?_
  intro p e s m args below meth c A X
  unfold f_X7_remember at h
  refine go_aload_n (pc := 0) X 0 dX7_remember_0 rfl rfl ?_
  refine go_getr (pc := 1) X (fk := 5) sh7 rfl inT_X7 (by decide) fL_X7_43 rfl dX7_remember_1 ?_
  refine go_aload_n (pc := 4) X 0 dX7_remember_4 rfl rfl ?_
  refine go_getr (pc := 5) X (fk := 3) sh7 rfl inT_X7 (by decide) fL_X7_32 rfl dX7_remember_5 ?_
  refine go_aload_n (pc := 8) X 0 dX7_remember_8 rfl rfl ?_
  refine go_getr (pc := 9) X (fk := 4) sh7 rfl inT_X7 (by decide) fL_X7_36 rfl dX7_remember_9 ?_
  obtain ⟨S1, h2, h⟩ := bind_some h
  refine go_callVv (pc := 12) X 2 [] (ct_X2_push h2) sh2 rfl gg_X7_355 hd_X2_push ⟨Nat.le_of_ble_eq_true rfl, Nat.le_of_ble_eq_true rfl⟩ rfl rfl (Nat.le_of_ble_eq_true rfl) dX7_remember_12 ?_
  refine go_aload_n (pc := 15) X 0 dX7_remember_15 rfl rfl ?_
  refine go_iconst (pc := 16) X dX7_remember_16 ?_
  obtain ⟨S3, e4, h⟩ := wrk_some h
  refine go_putE (pc := 17) X (fk := 9) (fi := 9) rfl e4 sh7 rfl inT_X7 tyX7_ok nmX7 (by decide) fL_X7_60 rfl rfl rfl rfl rfl dX7_remember_17 ?_
  exact go_vret (pc := 20) X h dX7_remember_20
set_option maxRecDepth 100000 in
set_option maxHeartbeats 4000000 in
theorem ct_X7_join {l : Launch} {D : va_G} {cI cB : ClassId} {Z : (Nat → Nat) × (Nat → Nat)} {ad : Nat → Nat} {S : Mem} {r : Int} {S' : Mem} (h : f_X7_join S = some (r, S')) : Ctr l D cI cB Z ad shsC yX7_join cX7_join 1 (some .int) 4 90 [.ref (ad 0)] S (some (.int (i32 r))) S' := by
  refine ctr_of (by decide +kernel) (Nat.le_of_ble_eq_true rfl) rfl ?_
  intro p e s m args below meth c A X
  unfold f_X7_join at h
  refine go_aload_n (pc := 0) X 0 dX7_join_0 rfl rfl ?_
  refine go_getr (pc := 1) X (fk := 3) sh7 rfl inT_X7 (by decide) fL_X7_32 rfl dX7_join_1 ?_
  refine go_get (pc := 4) X (fk := 2) (fi := 2) rfl (shB bk5) rfl inT_X1 (by decide) fL_X7_94 rfl dX7_join_4 ?_
  refine go_bipush (pc := 7) X dX7_join_7 (by decide) (by decide) ?_
  refine go_icmp_lt (pc := 9) X 14 dX7_join_9 rfl (fun c1 => ?_) (fun c1 => ?_)
  · rw [if_pos c1] at h
    refine go_aload_n (pc := 14) X 0 dX7_join_14 rfl rfl ?_
    obtain ⟨S2, h3, h⟩ := bind_some h
    refine go_callVv (pc := 15) X 0 [] (ct_X7_remember h3) sh7 rfl gg_X7_97 hd_X7_remember ⟨Nat.le_of_ble_eq_true rfl, Nat.le_of_ble_eq_true rfl⟩ rfl rfl (Nat.le_of_ble_eq_true rfl) dX7_join_15 ?_
    refine go_aload_n (pc := 18) X 0 dX7_join_18 rfl rfl ?_
    refine go_getr (pc := 19) X (fk := 3) sh7 rfl inT_X7 (by decide) fL_X7_32 rfl dX7_join_19 ?_
    obtain ⟨u4, h5, h⟩ := bind_some h
    refine go_callVi (pc := 22) X 0 [] (ct_X1_addBidder bk5 h5) (shB bk5) rfl gg_X7_100 hd_X1_addBidder ⟨Nat.le_of_ble_eq_true rfl, Nat.le_of_ble_eq_true rfl⟩ rfl rfl (Nat.le_of_ble_eq_true rfl) dX7_join_22 ?_
    exact go_iret (pc := 25) X h dX7_join_25
  · rw [if_neg c1] at h
    refine go_iconst (pc := 12) X dX7_join_12 ?_
    exact go_iret (pc := 13) X h dX7_join_13
set_option maxRecDepth 100000 in
set_option maxHeartbeats 4000000 in
theorem ct_X7_leave {l : Launch} {D : va_G} {cI cB : ClassId} {Z : (Nat → Nat) × (Nat → Nat)} {ad : Nat → Nat} {S : Mem} {a1 : Int} {r : Int} {S' : Mem} (h : f_X7_leave S a1 = some (r, S')) : Ctr l D cI cB Z ad shsC yX7_leave cX7_leave 2 (some .boolean) 4 90 [.ref (ad 0), .int (i32 a1)] S (some (.int (i32 r))) S' := by
  refine ctr_of (by decide +kernel) (Nat.le_of_ble_eq_true rfl) rfl ?_
  intro p e s m args below meth c A X
  unfold f_X7_leave at h
  refine go_aload_n (pc := 0) X 0 dX7_leave_0 rfl rfl ?_
  refine go_getr (pc := 1) X (fk := 3) sh7 rfl inT_X7 (by decide) fL_X7_32 rfl dX7_leave_1 ?_
  refine go_iload_n (pc := 4) X 1 dX7_leave_4 rfl rfl ?_
  obtain ⟨r1, h2, h⟩ := bind_some h
  refine go_callVi (pc := 5) X 1 [] (ct_X1_has bk5 h2) (shB bk5) rfl gg_X7_104 hd_X1_has ⟨Nat.le_of_ble_eq_true rfl, Nat.le_of_ble_eq_true rfl⟩ rfl rfl (Nat.le_of_ble_eq_true rfl) dX7_leave_5 ?_
  refine go_if_ne (pc := 8) X 13 dX7_leave_8 rfl (fun c3 => ?_) (fun c3 => ?_)
  · rw [if_neg c3] at h
    refine go_aload_n (pc := 13) X 0 dX7_leave_13 rfl rfl ?_
    obtain ⟨S4, h5, h⟩ := bind_some h
    refine go_callVv (pc := 14) X 0 [] (ct_X7_remember h5) sh7 rfl gg_X7_97 hd_X7_remember ⟨Nat.le_of_ble_eq_true rfl, Nat.le_of_ble_eq_true rfl⟩ rfl rfl (Nat.le_of_ble_eq_true rfl) dX7_leave_14 ?_
    refine go_aload_n (pc := 17) X 0 dX7_leave_17 rfl rfl ?_
    refine go_getr (pc := 18) X (fk := 3) sh7 rfl inT_X7 (by decide) fL_X7_32 rfl dX7_leave_18 ?_
    refine go_iload_n (pc := 21) X 1 dX7_leave_21 rfl rfl ?_
    obtain ⟨S6, h7, h⟩ := bind_some h
    refine go_callVv (pc := 22) X 1 [] (ct_X1_removeBidder bk5 h7) (shB bk5) rfl gg_X7_107 hd_X1_removeBidder ⟨Nat.le_of_ble_eq_true rfl, Nat.le_of_ble_eq_true rfl⟩ rfl rfl (Nat.le_of_ble_eq_true rfl) dX7_leave_22 ?_
    refine go_iconst (pc := 25) X dX7_leave_25 ?_
    exact go_zret (pc := 26) X (Or.inr rfl) h dX7_leave_26
  · rw [if_pos c3] at h
    refine go_iconst (pc := 11) X dX7_leave_11 ?_
    exact go_zret (pc := 12) X (Or.inl rfl) h dX7_leave_12
set_option maxRecDepth 100000 in
set_option maxHeartbeats 4000000 in
theorem ct_X7_isPrice {l : Launch} {D : va_G} {cI cB : ClassId} {Z : (Nat → Nat) × (Nat → Nat)} {ad : Nat → Nat} {S : Mem} {a0 : Int} {r : Int} (h : f_X7_isPrice S a0 = some r) : Ctr l D cI cB Z ad shsC yX7_isPrice cX7_isPrice 1 (some .boolean) 0 0 [.int (i32 a0)] S (some (.int (i32 r))) S := by
  refine ctr_of (by decide +kernel) (Nat.le_of_ble_eq_true rfl) rfl ?_
  intro p e s m args below meth c A X
  unfold f_X7_isPrice at h
  refine go_iload_n (pc := 0) X 0 dX7_isPrice_0 rfl rfl ?_
  refine go_if_lt (pc := 1) X 14 dX7_isPrice_1 rfl (fun c1 => ?_) (fun c1 => ?_)
  · rw [if_pos c1] at h
    refine go_iconst (pc := 14) X dX7_isPrice_14 ?_
    exact go_zretP (pc := 15) X (Or.inl rfl) h dX7_isPrice_15
  · rw [if_neg c1] at h
    refine go_iload_n (pc := 4) X 0 dX7_isPrice_4 rfl rfl ?_
    refine go_bipush (pc := 5) X dX7_isPrice_5 (by decide) (by decide) ?_
    refine go_icmp_gt (pc := 7) X 14 dX7_isPrice_7 rfl (fun c2 => ?_) (fun c2 => ?_)
    · rw [if_pos c2] at h
      refine go_iconst (pc := 14) X dX7_isPrice_14 ?_
      exact go_zretP (pc := 15) X (Or.inl rfl) h dX7_isPrice_15
    · rw [if_neg c2] at h
      refine go_iconst (pc := 10) X dX7_isPrice_10 ?_
      refine go_goto (pc := 11) X 15 dX7_isPrice_11 rfl ?_
      exact go_zretP (pc := 15) X (Or.inr rfl) h dX7_isPrice_15
set_option maxRecDepth 100000 in
set_option maxHeartbeats 4000000 in
theorem ct_X7_value {l : Launch} {D : va_G} {cI cB : ClassId} {Z : (Nat → Nat) × (Nat → Nat)} {ad : Nat → Nat} {S : Mem} {a1 : Int} {a2 : Int} {r : Int} {S' : Mem} (h : f_X7_value S a1 a2 = some (r, S')) : Ctr l D cI cB Z ad shsC yX7_value cX7_value 3 (some .int) 4 90 [.ref (ad 0), .int (i32 a1), .int (i32 a2)] S (some (.int (i32 r))) S' := by
  refine ctr_of (by decide +kernel) (Nat.le_of_ble_eq_true rfl) rfl ?_
  intro p e s m args below meth c A X
  unfold f_X7_value at h
  refine go_aload_n (pc := 0) X 0 dX7_value_0 rfl rfl ?_
  refine go_getr (pc := 1) X (fk := 3) sh7 rfl inT_X7 (by decide) fL_X7_32 rfl dX7_value_1 ?_
  refine go_iload_n (pc := 4) X 1 dX7_value_4 rfl rfl ?_
  obtain ⟨r1, h2, h⟩ := bind_some h
  refine go_callVi (pc := 5) X 1 [] (ct_X1_has bk5 h2) (shB bk5) rfl gg_X7_104 hd_X1_has ⟨Nat.le_of_ble_eq_true rfl, Nat.le_of_ble_eq_true rfl⟩ rfl rfl (Nat.le_of_ble_eq_true rfl) dX7_value_5 ?_
  refine go_if_eq (pc := 8) X 32 dX7_value_8 rfl (fun c3 => ?_) (fun c3 => ?_)
  · rw [if_pos c3] at h
    refine go_iconst (pc := 32) X dX7_value_32 ?_
    exact go_iret (pc := 33) X h dX7_value_33
  · rw [if_neg c3] at h
    refine go_iload_n (pc := 11) X 2 dX7_value_11 rfl rfl ?_
    obtain ⟨r4, h5, h⟩ := bind_some h
    refine go_callSi (pc := 12) X 1 [] (ct_X7_isPrice h5) gg_X7_110 hd_X7_isPrice ⟨Nat.le_of_ble_eq_true rfl, Nat.le_of_ble_eq_true rfl⟩ rfl rfl (Nat.le_of_ble_eq_true rfl) dX7_value_12 ?_
    refine go_if_eq (pc := 15) X 32 dX7_value_15 rfl (fun c6 => ?_) (fun c6 => ?_)
    · rw [if_pos c6] at h
      refine go_iconst (pc := 32) X dX7_value_32 ?_
      exact go_iret (pc := 33) X h dX7_value_33
    · rw [if_neg c6] at h
      refine go_aload_n (pc := 18) X 0 dX7_value_18 rfl rfl ?_
      refine go_getr (pc := 19) X (fk := 3) sh7 rfl inT_X7 (by decide) fL_X7_32 rfl dX7_value_19 ?_
      refine go_getr (pc := 22) X (fk := 3) (shB bk5) rfl inT_X1 (by decide) fL_X7_113 rfl dX7_value_22 ?_
      refine go_iload_n (pc := 25) X 1 dX7_value_25 rfl rfl ?_
      obtain ⟨g7, h⟩ := gd_some h
      refine go_iald (pc := 26) X (shB1 bk5) (Nat.le_of_ble_eq_true rfl) rfl g7 dX7_value_26 ?_
      refine go_bipush (pc := 27) X dX7_value_27 (by decide) (by decide) ?_
      refine go_icmp_lt (pc := 29) X 34 dX7_value_29 rfl (fun c8 => ?_) (fun c8 => ?_)
      · rw [if_pos c8] at h
        refine go_aload_n (pc := 34) X 0 dX7_value_34 rfl rfl ?_
        obtain ⟨S9, h10, h⟩ := bind_some h
        refine go_callVv (pc := 35) X 0 [] (ct_X7_remember h10) sh7 rfl gg_X7_97 hd_X7_remember ⟨Nat.le_of_ble_eq_true rfl, Nat.le_of_ble_eq_true rfl⟩ rfl rfl (Nat.le_of_ble_eq_true rfl) dX7_value_35 ?_
        refine go_aload_n (pc := 38) X 0 dX7_value_38 rfl rfl ?_
        refine go_getr (pc := 39) X (fk := 3) sh7 rfl inT_X7 (by decide) fL_X7_32 rfl dX7_value_39 ?_
        refine go_iload_n (pc := 42) X 1 dX7_value_42 rfl rfl ?_
        refine go_iload_n (pc := 43) X 2 dX7_value_43 rfl rfl ?_
        obtain ⟨S11, h12, h⟩ := bind_some h
        refine go_callVv (pc := 44) X 2 [] (ct_X1_insertValue bk5 h12) (shB bk5) rfl gg_X7_117 hd_X1_insertValue ⟨Nat.le_of_ble_eq_true rfl, Nat.le_of_ble_eq_true rfl⟩ rfl rfl (Nat.le_of_ble_eq_true rfl) dX7_value_44 ?_
        refine go_aload_n (pc := 47) X 0 dX7_value_47 rfl rfl ?_
        refine go_getr (pc := 48) X (fk := 3) sh7 rfl inT_X7 (by decide) fL_X7_32 rfl dX7_value_48 ?_
        refine go_getr (pc := 51) X (fk := 3) (shB bk5) rfl inT_X1 (by decide) fL_X7_113 rfl dX7_value_51 ?_
        refine go_iload_n (pc := 54) X 1 dX7_value_54 rfl rfl ?_
        refine go_iald (pc := 55) X (shB1 bk5) (Nat.le_of_ble_eq_true rfl) rfl g7 dX7_value_55 ?_
        exact go_iret (pc := 56) X h dX7_value_56
      · rw [if_neg c8] at h
        refine go_iconst (pc := 32) X dX7_value_32 ?_
        exact go_iret (pc := 33) X h dX7_value_33
set_option maxRecDepth 100000 in
set_option maxHeartbeats 4000000 in
theorem ct_X7_without {l : Launch} {D : va_G} {cI cB : ClassId} {Z : (Nat → Nat) × (Nat → Nat)} {ad : Nat → Nat} {S : Mem} {a1 : Int} {a2 : Int} {r : Int} {S' : Mem} (h : f_X7_without S a1 a2 = some (r, S')) : Ctr l D cI cB Z ad shsC yX7_without cX7_without 3 (some .int) 4 90 [.ref (ad 0), .int (i32 a1), .int (i32 a2)] S (some (.int (i32 r))) S' := by
  refine ctr_of (by decide +kernel) (Nat.le_of_ble_eq_true rfl) rfl ?_
  intro p e s m args below meth c A X
  unfold f_X7_without at h
  refine go_aload_n (pc := 0) X 0 dX7_without_0 rfl rfl ?_
  refine go_getr (pc := 1) X (fk := 3) sh7 rfl inT_X7 (by decide) fL_X7_32 rfl dX7_without_1 ?_
  refine go_iload_n (pc := 4) X 1 dX7_without_4 rfl rfl ?_
  refine go_iload_n (pc := 5) X 2 dX7_without_5 rfl rfl ?_
  obtain ⟨r1, h2, h⟩ := bind_some h
  refine go_callVi (pc := 6) X 2 [] (ct_X1_hasValue bk5 h2) (shB bk5) rfl gg_X7_121 hd_X1_hasValue ⟨Nat.le_of_ble_eq_true rfl, Nat.le_of_ble_eq_true rfl⟩ rfl rfl (Nat.le_of_ble_eq_true rfl) dX7_without_6 ?_
  refine go_if_ne (pc := 9) X 14 dX7_without_9 rfl (fun c3 => ?_) (fun c3 => ?_)
  · rw [if_neg c3] at h
    refine go_aload_n (pc := 14) X 0 dX7_without_14 rfl rfl ?_
    obtain ⟨S4, h5, h⟩ := bind_some h
    refine go_callVv (pc := 15) X 0 [] (ct_X7_remember h5) sh7 rfl gg_X7_97 hd_X7_remember ⟨Nat.le_of_ble_eq_true rfl, Nat.le_of_ble_eq_true rfl⟩ rfl rfl (Nat.le_of_ble_eq_true rfl) dX7_without_15 ?_
    refine go_aload_n (pc := 18) X 0 dX7_without_18 rfl rfl ?_
    refine go_getr (pc := 19) X (fk := 3) sh7 rfl inT_X7 (by decide) fL_X7_32 rfl dX7_without_19 ?_
    refine go_iload_n (pc := 22) X 1 dX7_without_22 rfl rfl ?_
    refine go_iload_n (pc := 23) X 2 dX7_without_23 rfl rfl ?_
    obtain ⟨S6, h7, h⟩ := bind_some h
    refine go_callVv (pc := 24) X 2 [] (ct_X1_removeValue bk5 h7) (shB bk5) rfl gg_X7_125 hd_X1_removeValue ⟨Nat.le_of_ble_eq_true rfl, Nat.le_of_ble_eq_true rfl⟩ rfl rfl (Nat.le_of_ble_eq_true rfl) dX7_without_24 ?_
    refine go_aload_n (pc := 27) X 0 dX7_without_27 rfl rfl ?_
    refine go_getr (pc := 28) X (fk := 3) sh7 rfl inT_X7 (by decide) fL_X7_32 rfl dX7_without_28 ?_
    refine go_getr (pc := 31) X (fk := 3) (shB bk5) rfl inT_X1 (by decide) fL_X7_113 rfl dX7_without_31 ?_
    refine go_iload_n (pc := 34) X 1 dX7_without_34 rfl rfl ?_
    obtain ⟨g8, h⟩ := gd_some h
    refine go_iald (pc := 35) X (shB1 bk5) (Nat.le_of_ble_eq_true rfl) rfl g8 dX7_without_35 ?_
    exact go_iret (pc := 36) X h dX7_without_36
  · rw [if_pos c3] at h
    refine go_iconst (pc := 12) X dX7_without_12 ?_
    exact go_iret (pc := 13) X h dX7_without_13
set_option maxRecDepth 100000 in
set_option maxHeartbeats 4000000 in
theorem ct_X7_cap {l : Launch} {D : va_G} {cI cB : ClassId} {Z : (Nat → Nat) × (Nat → Nat)} {ad : Nat → Nat} {S : Mem} {a1 : Int} {a2 : Int} {r : Int} {S' : Mem} (h : f_X7_cap S a1 a2 = some (r, S')) : Ctr l D cI cB Z ad shsC yX7_cap cX7_cap 4 (some .int) 4 90 [.ref (ad 0), .int (i32 a1), .int (i32 a2)] S (some (.int (i32 r))) S' := by
  refine ctr_of (by decide +kernel) (Nat.le_of_ble_eq_true rfl) rfl ?_
  intro p e s m args below meth c A X
  unfold f_X7_cap at h
  refine go_aload_n (pc := 0) X 0 dX7_cap_0 rfl rfl ?_
  refine go_getr (pc := 1) X (fk := 3) sh7 rfl inT_X7 (by decide) fL_X7_32 rfl dX7_cap_1 ?_
  refine go_iload_n (pc := 4) X 1 dX7_cap_4 rfl rfl ?_
  obtain ⟨r1, h2, h⟩ := bind_some h
  refine go_callVi (pc := 5) X 1 [] (ct_X1_has bk5 h2) (shB bk5) rfl gg_X7_104 hd_X1_has ⟨Nat.le_of_ble_eq_true rfl, Nat.le_of_ble_eq_true rfl⟩ rfl rfl (Nat.le_of_ble_eq_true rfl) dX7_cap_5 ?_
  refine go_if_eq (pc := 8) X 34 dX7_cap_8 rfl (fun c3 => ?_) (fun c3 => ?_)
  · rw [if_pos c3] at h
    refine go_iconst (pc := 34) X dX7_cap_34 ?_
    exact go_iret (pc := 35) X h dX7_cap_35
  · rw [if_neg c3] at h
    refine go_iload_n (pc := 11) X 2 dX7_cap_11 rfl rfl ?_
    refine go_if_lt (pc := 12) X 34 dX7_cap_12 rfl (fun c4 => ?_) (fun c4 => ?_)
    · rw [if_pos c4] at h
      refine go_iconst (pc := 34) X dX7_cap_34 ?_
      exact go_iret (pc := 35) X h dX7_cap_35
    · rw [if_neg c4] at h
      refine go_iload_n (pc := 15) X 2 dX7_cap_15 rfl rfl ?_
      refine go_bipush (pc := 16) X dX7_cap_16 (by decide) (by decide) ?_
      refine go_icmp_gt (pc := 18) X 34 dX7_cap_18 rfl (fun c5 => ?_) (fun c5 => ?_)
      · rw [if_pos c5] at h
        refine go_iconst (pc := 34) X dX7_cap_34 ?_
        exact go_iret (pc := 35) X h dX7_cap_35
      · rw [if_neg c5] at h
        refine go_iload_n (pc := 21) X 2 dX7_cap_21 rfl rfl ?_
        refine go_aload_n (pc := 22) X 0 dX7_cap_22 rfl rfl ?_
        refine go_getr (pc := 23) X (fk := 3) sh7 rfl inT_X7 (by decide) fL_X7_32 rfl dX7_cap_23 ?_
        refine go_getr (pc := 26) X (fk := 4) (shB bk5) rfl inT_X1 (by decide) fL_X7_128 rfl dX7_cap_26 ?_
        refine go_iload_n (pc := 29) X 1 dX7_cap_29 rfl rfl ?_
        obtain ⟨g6, h⟩ := gd_some h
        refine go_iald (pc := 30) X (shB2 bk5) (Nat.le_of_ble_eq_true rfl) rfl g6 dX7_cap_30 ?_
        refine go_icmp_ne (pc := 31) X 36 dX7_cap_31 rfl (fun c7 => ?_) (fun c7 => ?_)
        · rw [if_neg c7] at h
          refine go_aload_n (pc := 36) X 0 dX7_cap_36 rfl rfl ?_
          obtain ⟨S8, h9, h⟩ := bind_some h
          refine go_callVv (pc := 37) X 0 [] (ct_X7_remember h9) sh7 rfl gg_X7_97 hd_X7_remember ⟨Nat.le_of_ble_eq_true rfl, Nat.le_of_ble_eq_true rfl⟩ rfl rfl (Nat.le_of_ble_eq_true rfl) dX7_cap_37 ?_
          refine go_aload_n (pc := 40) X 0 dX7_cap_40 rfl rfl ?_
          refine go_getr (pc := 41) X (fk := 3) sh7 rfl inT_X7 (by decide) fL_X7_32 rfl dX7_cap_41 ?_
          refine go_getr (pc := 44) X (fk := 4) (shB bk5) rfl inT_X1 (by decide) fL_X7_128 rfl dX7_cap_44 ?_
          refine go_iload_n (pc := 47) X 1 dX7_cap_47 rfl rfl ?_
          refine go_iald (pc := 48) X (shB2 bk5) (Nat.le_of_ble_eq_true rfl) rfl g6 dX7_cap_48 ?_
          refine go_istore_n (pc := 49) X [1, 2, 3, 0] (Ls' := [(0, .ref (ad 0)), (1, .int (i32 a1)), (2, .int (i32 a2)), (3, .int (i32 (S8 7 a1)))]) dX7_cap_49 rfl (by decide) rfl ?_
          refine go_aload_n (pc := 50) X 0 dX7_cap_50 rfl rfl ?_
          refine go_getr (pc := 51) X (fk := 3) sh7 rfl inT_X7 (by decide) fL_X7_32 rfl dX7_cap_51 ?_
          refine go_getr (pc := 54) X (fk := 4) (shB bk5) rfl inT_X1 (by decide) fL_X7_128 rfl dX7_cap_54 ?_
          refine go_iload_n (pc := 57) X 1 dX7_cap_57 rfl rfl ?_
          refine go_iload_n (pc := 58) X 2 dX7_cap_58 rfl rfl ?_
          obtain ⟨S10, e11, h⟩ := wrk_some h
          refine go_iastE (pc := 59) X e11 (shB2 bk5) (Nat.le_of_ble_eq_true rfl) rfl g6 dX7_cap_59 ?_
          refine go_iload_n (pc := 60) X 3 dX7_cap_60 rfl rfl ?_
          exact go_iret (pc := 61) X h dX7_cap_61
        · rw [if_pos c7] at h
          refine go_iconst (pc := 34) X dX7_cap_34 ?_
          exact go_iret (pc := 35) X h dX7_cap_35
set_option maxRecDepth 100000 in
set_option maxHeartbeats 4000000 in
theorem ct_X7_change {l : Launch} {D : va_G} {cI cB : ClassId} {Z : (Nat → Nat) × (Nat → Nat)} {ad : Nat → Nat} {S : Mem} {a1 : Int} {a2 : Int} {a3 : Int} {r : Int} {S' : Mem} (h : f_X7_change S a1 a2 a3 = some (r, S')) : Ctr l D cI cB Z ad shsC yX7_change cX7_change 5 (some .int) 4 90 [.ref (ad 0), .int (i32 a1), .int (i32 a2), .int (i32 a3)] S (some (.int (i32 r))) S' := by
  refine ctr_of (by decide +kernel) (Nat.le_of_ble_eq_true rfl) rfl ?_
  intro p e s m args below meth c A X
  unfold f_X7_change at h
  refine go_aload_n (pc := 0) X 0 dX7_change_0 rfl rfl ?_
  refine go_getr (pc := 1) X (fk := 3) sh7 rfl inT_X7 (by decide) fL_X7_32 rfl dX7_change_1 ?_
  refine go_iload_n (pc := 4) X 1 dX7_change_4 rfl rfl ?_
  refine go_iload_n (pc := 5) X 2 dX7_change_5 rfl rfl ?_
  obtain ⟨r1, h2, h⟩ := bind_some h
  refine go_callVi (pc := 6) X 2 [] (ct_X1_hasValue bk5 h2) (shB bk5) rfl gg_X7_121 hd_X1_hasValue ⟨Nat.le_of_ble_eq_true rfl, Nat.le_of_ble_eq_true rfl⟩ rfl rfl (Nat.le_of_ble_eq_true rfl) dX7_change_6 ?_
  refine go_if_eq (pc := 9) X 32 dX7_change_9 rfl (fun c3 => ?_) (fun c3 => ?_)
  · rw [if_pos c3] at h
    refine go_iconst (pc := 32) X dX7_change_32 ?_
    exact go_iret (pc := 33) X h dX7_change_33
  · rw [if_neg c3] at h
    refine go_iload_n (pc := 12) X 3 dX7_change_12 rfl rfl ?_
    obtain ⟨r4, h5, h⟩ := bind_some h
    refine go_callSi (pc := 13) X 1 [] (ct_X7_isPrice h5) gg_X7_110 hd_X7_isPrice ⟨Nat.le_of_ble_eq_true rfl, Nat.le_of_ble_eq_true rfl⟩ rfl rfl (Nat.le_of_ble_eq_true rfl) dX7_change_13 ?_
    refine go_if_eq (pc := 16) X 32 dX7_change_16 rfl (fun c6 => ?_) (fun c6 => ?_)
    · rw [if_pos c6] at h
      refine go_iconst (pc := 32) X dX7_change_32 ?_
      exact go_iret (pc := 33) X h dX7_change_33
    · rw [if_neg c6] at h
      refine go_iload_n (pc := 19) X 3 dX7_change_19 rfl rfl ?_
      refine go_aload_n (pc := 20) X 0 dX7_change_20 rfl rfl ?_
      refine go_getr (pc := 21) X (fk := 3) sh7 rfl inT_X7 (by decide) fL_X7_32 rfl dX7_change_21 ?_
      refine go_iload_n (pc := 24) X 1 dX7_change_24 rfl rfl ?_
      refine go_iload_n (pc := 25) X 2 dX7_change_25 rfl rfl ?_
      obtain ⟨r7, h8, h⟩ := bind_some h
      refine go_callVi (pc := 26) X 2 [.int (i32 a3)] (ct_X1_valueAt bk5 h8) (shB bk5) rfl gg_X7_131 hd_X1_valueAt ⟨Nat.le_of_ble_eq_true rfl, Nat.le_of_ble_eq_true rfl⟩ rfl rfl (Nat.le_of_ble_eq_true rfl) dX7_change_26 ?_
      refine go_icmp_ne (pc := 29) X 34 dX7_change_29 rfl (fun c9 => ?_) (fun c9 => ?_)
      · rw [if_neg c9] at h
        refine go_aload_n (pc := 34) X 0 dX7_change_34 rfl rfl ?_
        obtain ⟨S10, h11, h⟩ := bind_some h
        refine go_callVv (pc := 35) X 0 [] (ct_X7_remember h11) sh7 rfl gg_X7_97 hd_X7_remember ⟨Nat.le_of_ble_eq_true rfl, Nat.le_of_ble_eq_true rfl⟩ rfl rfl (Nat.le_of_ble_eq_true rfl) dX7_change_35 ?_
        refine go_aload_n (pc := 38) X 0 dX7_change_38 rfl rfl ?_
        refine go_getr (pc := 39) X (fk := 3) sh7 rfl inT_X7 (by decide) fL_X7_32 rfl dX7_change_39 ?_
        refine go_iload_n (pc := 42) X 1 dX7_change_42 rfl rfl ?_
        refine go_iload_n (pc := 43) X 2 dX7_change_43 rfl rfl ?_
        obtain ⟨r12, h13, h⟩ := bind_some h
        refine go_callVi (pc := 44) X 2 [] (ct_X1_valueAt bk5 h13) (shB bk5) rfl gg_X7_131 hd_X1_valueAt ⟨Nat.le_of_ble_eq_true rfl, Nat.le_of_ble_eq_true rfl⟩ rfl rfl (Nat.le_of_ble_eq_true rfl) dX7_change_44 ?_
        refine go_istore (pc := 47) X [1, 2, 3, 4, 0] (Ls' := [(0, .ref (ad 0)), (1, .int (i32 a1)), (2, .int (i32 a2)), (3, .int (i32 a3)), (4, .int (i32 r12))]) dX7_change_47 (by decide) rfl ?_
        refine go_aload_n (pc := 49) X 0 dX7_change_49 rfl rfl ?_
        refine go_getr (pc := 50) X (fk := 3) sh7 rfl inT_X7 (by decide) fL_X7_32 rfl dX7_change_50 ?_
        refine go_iload_n (pc := 53) X 1 dX7_change_53 rfl rfl ?_
        refine go_iload_n (pc := 54) X 2 dX7_change_54 rfl rfl ?_
        obtain ⟨S14, h15, h⟩ := bind_some h
        refine go_callVv (pc := 55) X 2 [] (ct_X1_removeValue bk5 h15) (shB bk5) rfl gg_X7_125 hd_X1_removeValue ⟨Nat.le_of_ble_eq_true rfl, Nat.le_of_ble_eq_true rfl⟩ rfl rfl (Nat.le_of_ble_eq_true rfl) dX7_change_55 ?_
        refine go_aload_n (pc := 58) X 0 dX7_change_58 rfl rfl ?_
        refine go_getr (pc := 59) X (fk := 3) sh7 rfl inT_X7 (by decide) fL_X7_32 rfl dX7_change_59 ?_
        refine go_iload_n (pc := 62) X 1 dX7_change_62 rfl rfl ?_
        refine go_iload_n (pc := 63) X 3 dX7_change_63 rfl rfl ?_
        obtain ⟨S16, h17, h⟩ := bind_some h
        refine go_callVv (pc := 64) X 2 [] (ct_X1_insertValue bk5 h17) (shB bk5) rfl gg_X7_117 hd_X1_insertValue ⟨Nat.le_of_ble_eq_true rfl, Nat.le_of_ble_eq_true rfl⟩ rfl rfl (Nat.le_of_ble_eq_true rfl) dX7_change_64 ?_
        refine go_iload (pc := 67) X 4 dX7_change_67 rfl ?_
        exact go_iret (pc := 69) X h dX7_change_69
      · rw [if_pos c9] at h
        refine go_iconst (pc := 32) X dX7_change_32 ?_
        exact go_iret (pc := 33) X h dX7_change_33
set_option maxRecDepth 100000 in
set_option maxHeartbeats 4000000 in
theorem ct_X7_split {l : Launch} {D : va_G} {cI cB : ClassId} {Z : (Nat → Nat) × (Nat → Nat)} {ad : Nat → Nat} {S : Mem} {a1 : Int} {a2 : Int} {r : Int} {S' : Mem} (h : f_X7_split S a1 a2 = some (r, S')) : Ctr l D cI cB Z ad shsC yX7_split cX7_split 3 (some .int) 4 90 [.ref (ad 0), .int (i32 a1), .int (i32 a2)] S (some (.int (i32 r))) S' := by
  refine ctr_of (by decide +kernel) (Nat.le_of_ble_eq_true rfl) rfl ?_
  intro p e s m args below meth c A X
  unfold f_X7_split at h
  refine go_aload_n (pc := 0) X 0 dX7_split_0 rfl rfl ?_
  refine go_getr (pc := 1) X (fk := 3) sh7 rfl inT_X7 (by decide) fL_X7_32 rfl dX7_split_1 ?_
  refine go_iload_n (pc := 4) X 1 dX7_split_4 rfl rfl ?_
  refine go_iload_n (pc := 5) X 2 dX7_split_5 rfl rfl ?_
  obtain ⟨r1, h2, h⟩ := bind_some h
  refine go_callVi (pc := 6) X 2 [] (ct_X1_canSplit bk5 h2) (shB bk5) rfl gg_X7_135 hd_X1_canSplit ⟨Nat.le_of_ble_eq_true rfl, Nat.le_of_ble_eq_true rfl⟩ rfl rfl (Nat.le_of_ble_eq_true rfl) dX7_split_6 ?_
  refine go_if_eq (pc := 9) X 24 dX7_split_9 rfl (fun c3 => ?_) (fun c3 => ?_)
  · rw [if_pos c3] at h
    refine go_iconst (pc := 24) X dX7_split_24 ?_
    exact go_iret (pc := 25) X h dX7_split_25
  · rw [if_neg c3] at h
    refine go_aload_n (pc := 12) X 0 dX7_split_12 rfl rfl ?_
    refine go_getr (pc := 13) X (fk := 3) sh7 rfl inT_X7 (by decide) fL_X7_32 rfl dX7_split_13 ?_
    refine go_get (pc := 16) X (fk := 2) (fi := 2) rfl (shB bk5) rfl inT_X1 (by decide) fL_X7_94 rfl dX7_split_16 ?_
    refine go_bipush (pc := 19) X dX7_split_19 (by decide) (by decide) ?_
    refine go_icmp_lt (pc := 21) X 26 dX7_split_21 rfl (fun c4 => ?_) (fun c4 => ?_)
    · rw [if_pos c4] at h
      refine go_aload_n (pc := 26) X 0 dX7_split_26 rfl rfl ?_
      obtain ⟨S5, h6, h⟩ := bind_some h
      refine go_callVv (pc := 27) X 0 [] (ct_X7_remember h6) sh7 rfl gg_X7_97 hd_X7_remember ⟨Nat.le_of_ble_eq_true rfl, Nat.le_of_ble_eq_true rfl⟩ rfl rfl (Nat.le_of_ble_eq_true rfl) dX7_split_27 ?_
      refine go_aload_n (pc := 30) X 0 dX7_split_30 rfl rfl ?_
      refine go_getr (pc := 31) X (fk := 3) sh7 rfl inT_X7 (by decide) fL_X7_32 rfl dX7_split_31 ?_
      refine go_iload_n (pc := 34) X 1 dX7_split_34 rfl rfl ?_
      refine go_iload_n (pc := 35) X 2 dX7_split_35 rfl rfl ?_
      obtain ⟨u7, h8, h⟩ := bind_some h
      refine go_callVi (pc := 36) X 2 [] (ct_X1_splitOff bk5 h8) (shB bk5) rfl gg_X7_138 hd_X1_splitOff ⟨Nat.le_of_ble_eq_true rfl, Nat.le_of_ble_eq_true rfl⟩ rfl rfl (Nat.le_of_ble_eq_true rfl) dX7_split_36 ?_
      exact go_iret (pc := 39) X h dX7_split_39
    · rw [if_neg c4] at h
      refine go_iconst (pc := 24) X dX7_split_24 ?_
      exact go_iret (pc := 25) X h dX7_split_25
set_option maxRecDepth 100000 in
set_option maxHeartbeats 4000000 in
theorem ct_X7_move {l : Launch} {D : va_G} {cI cB : ClassId} {Z : (Nat → Nat) × (Nat → Nat)} {ad : Nat → Nat} {S : Mem} {a1 : Int} {a2 : Int} {r : Int} {S' : Mem} (h : f_X7_move S a1 a2 = some (r, S')) : Ctr l D cI cB Z ad shsC yX7_move cX7_move 3 (some .boolean) 4 90 [.ref (ad 0), .int (i32 a1), .int (i32 a2)] S (some (.int (i32 r))) S' := by
  refine ctr_of (by decide +kernel) (Nat.le_of_ble_eq_true rfl) rfl ?_
  intro p e s m args below meth c A X
  unfold f_X7_move at h
  refine go_aload_n (pc := 0) X 0 dX7_move_0 rfl rfl ?_
  refine go_getr (pc := 1) X (fk := 3) sh7 rfl inT_X7 (by decide) fL_X7_32 rfl dX7_move_1 ?_
  refine go_iload_n (pc := 4) X 1 dX7_move_4 rfl rfl ?_
  refine go_iload_n (pc := 5) X 2 dX7_move_5 rfl rfl ?_
  obtain ⟨r1, h2, h⟩ := bind_some h
  refine go_callVi (pc := 6) X 2 [] (ct_X1_hasTwo bk5 h2) (shB bk5) rfl gg_X7_141 hd_X1_hasTwo ⟨Nat.le_of_ble_eq_true rfl, Nat.le_of_ble_eq_true rfl⟩ rfl rfl (Nat.le_of_ble_eq_true rfl) dX7_move_6 ?_
  refine go_if_ne (pc := 9) X 14 dX7_move_9 rfl (fun c3 => ?_) (fun c3 => ?_)
  · rw [if_neg c3] at h
    refine go_aload_n (pc := 14) X 0 dX7_move_14 rfl rfl ?_
    obtain ⟨S4, h5, h⟩ := bind_some h
    refine go_callVv (pc := 15) X 0 [] (ct_X7_remember h5) sh7 rfl gg_X7_97 hd_X7_remember ⟨Nat.le_of_ble_eq_true rfl, Nat.le_of_ble_eq_true rfl⟩ rfl rfl (Nat.le_of_ble_eq_true rfl) dX7_move_15 ?_
    refine go_aload_n (pc := 18) X 0 dX7_move_18 rfl rfl ?_
    refine go_getr (pc := 19) X (fk := 3) sh7 rfl inT_X7 (by decide) fL_X7_32 rfl dX7_move_19 ?_
    refine go_iload_n (pc := 22) X 1 dX7_move_22 rfl rfl ?_
    refine go_iload_n (pc := 23) X 2 dX7_move_23 rfl rfl ?_
    obtain ⟨S6, h7, h⟩ := bind_some h
    refine go_callVv (pc := 24) X 2 [] (ct_X1_moveBidder bk5 h7) (shB bk5) rfl gg_X7_144 hd_X1_moveBidder ⟨Nat.le_of_ble_eq_true rfl, Nat.le_of_ble_eq_true rfl⟩ rfl rfl (Nat.le_of_ble_eq_true rfl) dX7_move_24 ?_
    refine go_iconst (pc := 27) X dX7_move_27 ?_
    exact go_zret (pc := 28) X (Or.inr rfl) h dX7_move_28
  · rw [if_pos c3] at h
    refine go_iconst (pc := 12) X dX7_move_12 ?_
    exact go_zret (pc := 13) X (Or.inl rfl) h dX7_move_13
set_option maxRecDepth 100000 in
set_option maxHeartbeats 4000000 in
theorem ct_X7_copy {l : Launch} {D : va_G} {cI cB : ClassId} {Z : (Nat → Nat) × (Nat → Nat)} {ad : Nat → Nat} {S : Mem} {a1 : Int} {r : Int} {S' : Mem} (h : f_X7_copy S a1 = some (r, S')) : Ctr l D cI cB Z ad shsC yX7_copy cX7_copy 3 (some .int) 4 90 [.ref (ad 0), .int (i32 a1)] S (some (.int (i32 r))) S' := by
  refine ctr_of (by decide +kernel) (Nat.le_of_ble_eq_true rfl) rfl ?_
  intro p e s m args below meth c A X
  unfold f_X7_copy at h
  refine go_aload_n (pc := 0) X 0 dX7_copy_0 rfl rfl ?_
  refine go_getr (pc := 1) X (fk := 3) sh7 rfl inT_X7 (by decide) fL_X7_32 rfl dX7_copy_1 ?_
  refine go_iload_n (pc := 4) X 1 dX7_copy_4 rfl rfl ?_
  obtain ⟨r1, h2, h⟩ := bind_some h
  refine go_callVi (pc := 5) X 1 [] (ct_X1_has bk5 h2) (shB bk5) rfl gg_X7_104 hd_X1_has ⟨Nat.le_of_ble_eq_true rfl, Nat.le_of_ble_eq_true rfl⟩ rfl rfl (Nat.le_of_ble_eq_true rfl) dX7_copy_5 ?_
  refine go_if_eq (pc := 8) X 23 dX7_copy_8 rfl (fun c3 => ?_) (fun c3 => ?_)
  · rw [if_pos c3] at h
    refine go_iconst (pc := 23) X dX7_copy_23 ?_
    exact go_iret (pc := 24) X h dX7_copy_24
  · rw [if_neg c3] at h
    refine go_aload_n (pc := 11) X 0 dX7_copy_11 rfl rfl ?_
    refine go_getr (pc := 12) X (fk := 3) sh7 rfl inT_X7 (by decide) fL_X7_32 rfl dX7_copy_12 ?_
    refine go_get (pc := 15) X (fk := 2) (fi := 2) rfl (shB bk5) rfl inT_X1 (by decide) fL_X7_94 rfl dX7_copy_15 ?_
    refine go_bipush (pc := 18) X dX7_copy_18 (by decide) (by decide) ?_
    refine go_icmp_lt (pc := 20) X 25 dX7_copy_20 rfl (fun c4 => ?_) (fun c4 => ?_)
    · rw [if_pos c4] at h
      refine go_aload_n (pc := 25) X 0 dX7_copy_25 rfl rfl ?_
      obtain ⟨S5, h6, h⟩ := bind_some h
      refine go_callVv (pc := 26) X 0 [] (ct_X7_remember h6) sh7 rfl gg_X7_97 hd_X7_remember ⟨Nat.le_of_ble_eq_true rfl, Nat.le_of_ble_eq_true rfl⟩ rfl rfl (Nat.le_of_ble_eq_true rfl) dX7_copy_26 ?_
      refine go_aload_n (pc := 29) X 0 dX7_copy_29 rfl rfl ?_
      refine go_getr (pc := 30) X (fk := 3) sh7 rfl inT_X7 (by decide) fL_X7_32 rfl dX7_copy_30 ?_
      obtain ⟨u7, h8, h⟩ := bind_some h
      refine go_callVi (pc := 33) X 0 [] (ct_X1_addBidder bk5 h8) (shB bk5) rfl gg_X7_100 hd_X1_addBidder ⟨Nat.le_of_ble_eq_true rfl, Nat.le_of_ble_eq_true rfl⟩ rfl rfl (Nat.le_of_ble_eq_true rfl) dX7_copy_33 ?_
      refine go_istore_n (pc := 36) X [1, 2, 0] (Ls' := [(0, .ref (ad 0)), (1, .int (i32 a1)), (2, .int (i32 u7.1))]) dX7_copy_36 rfl (by decide) rfl ?_
      refine go_aload_n (pc := 37) X 0 dX7_copy_37 rfl rfl ?_
      refine go_getr (pc := 38) X (fk := 3) sh7 rfl inT_X7 (by decide) fL_X7_32 rfl dX7_copy_38 ?_
      refine go_iload_n (pc := 41) X 2 dX7_copy_41 rfl rfl ?_
      refine go_aload_n (pc := 42) X 0 dX7_copy_42 rfl rfl ?_
      refine go_getr (pc := 43) X (fk := 3) sh7 rfl inT_X7 (by decide) fL_X7_32 rfl dX7_copy_43 ?_
      refine go_iload_n (pc := 46) X 1 dX7_copy_46 rfl rfl ?_
      obtain ⟨S9, h10, h⟩ := bind_some h
      refine go_callVv (pc := 47) X 3 [] (ct_X1_setLike bk5 bk5 h10) (shB bk5) rfl gg_X7_147 hd_X1_setLike ⟨Nat.le_of_ble_eq_true rfl, Nat.le_of_ble_eq_true rfl⟩ rfl rfl (Nat.le_of_ble_eq_true rfl) dX7_copy_47 ?_
      refine go_iload_n (pc := 50) X 2 dX7_copy_50 rfl rfl ?_
      exact go_iret (pc := 51) X h dX7_copy_51
    · rw [if_neg c4] at h
      refine go_iconst (pc := 23) X dX7_copy_23 ?_
      exact go_iret (pc := 24) X h dX7_copy_24
set_option maxRecDepth 100000 in
set_option maxHeartbeats 4000000 in
theorem ct_X7_clear {l : Launch} {D : va_G} {cI cB : ClassId} {Z : (Nat → Nat) × (Nat → Nat)} {ad : Nat → Nat} {S : Mem} {a1 : Int} {r : Int} {S' : Mem} (h : f_X7_clear S a1 = some (r, S')) : Ctr l D cI cB Z ad shsC yX7_clear cX7_clear 3 (some .int) 4 90 [.ref (ad 0), .int (i32 a1)] S (some (.int (i32 r))) S' := by
  refine ctr_of (by decide +kernel) (Nat.le_of_ble_eq_true rfl) rfl ?_
  intro p e s m args below meth c A X
  unfold f_X7_clear at h
  refine go_aload_n (pc := 0) X 0 dX7_clear_0 rfl rfl ?_
  refine go_getr (pc := 1) X (fk := 3) sh7 rfl inT_X7 (by decide) fL_X7_32 rfl dX7_clear_1 ?_
  refine go_iload_n (pc := 4) X 1 dX7_clear_4 rfl rfl ?_
  obtain ⟨r1, h2, h⟩ := bind_some h
  refine go_callVi (pc := 5) X 1 [] (ct_X1_has bk5 h2) (shB bk5) rfl gg_X7_104 hd_X1_has ⟨Nat.le_of_ble_eq_true rfl, Nat.le_of_ble_eq_true rfl⟩ rfl rfl (Nat.le_of_ble_eq_true rfl) dX7_clear_5 ?_
  refine go_if_eq (pc := 8) X 23 dX7_clear_8 rfl (fun c3 => ?_) (fun c3 => ?_)
  · rw [if_pos c3] at h
    refine go_iconst (pc := 23) X dX7_clear_23 ?_
    exact go_iret (pc := 24) X h dX7_clear_24
  · rw [if_neg c3] at h
    refine go_aload_n (pc := 11) X 0 dX7_clear_11 rfl rfl ?_
    refine go_getr (pc := 12) X (fk := 3) sh7 rfl inT_X7 (by decide) fL_X7_32 rfl dX7_clear_12 ?_
    refine go_getr (pc := 15) X (fk := 3) (shB bk5) rfl inT_X1 (by decide) fL_X7_113 rfl dX7_clear_15 ?_
    refine go_iload_n (pc := 18) X 1 dX7_clear_18 rfl rfl ?_
    obtain ⟨g4, h⟩ := gd_some h
    refine go_iald (pc := 19) X (shB1 bk5) (Nat.le_of_ble_eq_true rfl) rfl g4 dX7_clear_19 ?_
    refine go_if_ne (pc := 20) X 25 dX7_clear_20 rfl (fun c5 => ?_) (fun c5 => ?_)
    · rw [if_neg c5] at h
      refine go_aload_n (pc := 25) X 0 dX7_clear_25 rfl rfl ?_
      obtain ⟨S6, h7, h⟩ := bind_some h
      refine go_callVv (pc := 26) X 0 [] (ct_X7_remember h7) sh7 rfl gg_X7_97 hd_X7_remember ⟨Nat.le_of_ble_eq_true rfl, Nat.le_of_ble_eq_true rfl⟩ rfl rfl (Nat.le_of_ble_eq_true rfl) dX7_clear_26 ?_
      refine go_aload_n (pc := 29) X 0 dX7_clear_29 rfl rfl ?_
      refine go_getr (pc := 30) X (fk := 3) sh7 rfl inT_X7 (by decide) fL_X7_32 rfl dX7_clear_30 ?_
      refine go_getr (pc := 33) X (fk := 3) (shB bk5) rfl inT_X1 (by decide) fL_X7_113 rfl dX7_clear_33 ?_
      refine go_iload_n (pc := 36) X 1 dX7_clear_36 rfl rfl ?_
      refine go_iald (pc := 37) X (shB1 bk5) (Nat.le_of_ble_eq_true rfl) rfl g4 dX7_clear_37 ?_
      refine go_istore_n (pc := 38) X [1, 2, 0] (Ls' := [(0, .ref (ad 0)), (1, .int (i32 a1)), (2, .int (i32 (S6 6 a1)))]) dX7_clear_38 rfl (by decide) rfl ?_
      refine go_aload_n (pc := 39) X 0 dX7_clear_39 rfl rfl ?_
      refine go_getr (pc := 40) X (fk := 3) sh7 rfl inT_X7 (by decide) fL_X7_32 rfl dX7_clear_40 ?_
      refine go_getr (pc := 43) X (fk := 3) (shB bk5) rfl inT_X1 (by decide) fL_X7_113 rfl dX7_clear_43 ?_
      refine go_iload_n (pc := 46) X 1 dX7_clear_46 rfl rfl ?_
      refine go_iconst (pc := 47) X dX7_clear_47 ?_
      obtain ⟨S8, e9, h⟩ := wrk_some h
      refine go_iastE (pc := 48) X e9 (shB1 bk5) (Nat.le_of_ble_eq_true rfl) rfl g4 dX7_clear_48 ?_
      refine go_iload_n (pc := 49) X 2 dX7_clear_49 rfl rfl ?_
      exact go_iret (pc := 50) X h dX7_clear_50
    · rw [if_pos c5] at h
      refine go_iconst (pc := 23) X dX7_clear_23 ?_
      exact go_iret (pc := 24) X h dX7_clear_24
set_option maxRecDepth 100000 in
set_option maxHeartbeats 4000000 in
theorem ct_X7_isKind {l : Launch} {D : va_G} {cI cB : ClassId} {Z : (Nat → Nat) × (Nat → Nat)} {ad : Nat → Nat} {S : Mem} {a0 : Int} {r : Int} (h : f_X7_isKind S a0 = some r) : Ctr l D cI cB Z ad shsC yX7_isKind cX7_isKind 1 (some .boolean) 0 0 [.int (i32 a0)] S (some (.int (i32 r))) S := by
  refine ctr_of (by decide +kernel) (Nat.le_of_ble_eq_true rfl) rfl ?_
  intro p e s m args below meth c A X
  unfold f_X7_isKind at h
  refine go_iload_n (pc := 0) X 0 dX7_isKind_0 rfl rfl ?_
  refine go_if_lt (pc := 1) X 13 dX7_isKind_1 rfl (fun c1 => ?_) (fun c1 => ?_)
  · rw [if_pos c1] at h
    refine go_iconst (pc := 13) X dX7_isKind_13 ?_
    exact go_zretP (pc := 14) X (Or.inl rfl) h dX7_isKind_14
  · rw [if_neg c1] at h
    refine go_iload_n (pc := 4) X 0 dX7_isKind_4 rfl rfl ?_
    refine go_iconst (pc := 5) X dX7_isKind_5 ?_
    refine go_icmp_gt (pc := 6) X 13 dX7_isKind_6 rfl (fun c2 => ?_) (fun c2 => ?_)
    · rw [if_pos c2] at h
      refine go_iconst (pc := 13) X dX7_isKind_13 ?_
      exact go_zretP (pc := 14) X (Or.inl rfl) h dX7_isKind_14
    · rw [if_neg c2] at h
      refine go_iconst (pc := 9) X dX7_isKind_9 ?_
      refine go_goto (pc := 10) X 14 dX7_isKind_10 rfl ?_
      exact go_zretP (pc := 14) X (Or.inr rfl) h dX7_isKind_14
set_option maxRecDepth 100000 in
set_option maxHeartbeats 4000000 in
theorem ct_X7_now {l : Launch} {D : va_G} {cI cB : ClassId} {Z : (Nat → Nat) × (Nat → Nat)} {ad : Nat → Nat} {S : Mem} {S' : Mem} (h : f_X7_now S = some S') : Ctr l D cI cB Z ad shsC yX7_now cX7_now 1 (some (.object "ClinchClock$Auction")) 5 112 [.ref (ad 0)] S (some (.ref (ad 4))) S' := by
  refine ctr_of (by decide +kernel) (Nat.le_of_ble_eq_true rfl) rfl ?_
  intro p e s m args below meth c A X
  unfold f_X7_now at h
  refine go_aload_n (pc := 0) X 0 dX7_now_0 rfl rfl ?_
  refine go_get (pc := 1) X (fk := 9) (fi := 9) rfl sh7 rfl inT_X7 (by decide) fL_X7_60 rfl dX7_now_1 ?_
  obtain ⟨j1, h2, h⟩ := bind_some h
  have k3 : Go p l e { frames := 5, cells := 0, slots := 0, locals := 112 } s m args below meth c 1 D cI cB ad shsC A (MQ below (cQ D cI cB ad shsC (some (.ref (ad 4))) S' A) args s 0 0 A) 19 [(0, .ref (ad 0))] [] j1 := by
    refine go_aload_n (pc := 19) X 0 dX7_now_19 rfl rfl ?_
    refine go_getr (pc := 20) X (fk := 2) sh7 rfl inT_X7 (by decide) fL_X7_24 rfl dX7_now_20 ?_
    exact go_aret (pc := 23) X h dX7_now_23
  refine go_if_eq (pc := 4) X 19 dX7_now_4 rfl (fun c4 => ?_) (fun c4 => ?_)
  · rw [if_pos c4] at h2
    cases h2
    exact k3
  · rw [if_neg c4] at h2
    refine go_aload_n (pc := 7) X 0 dX7_now_7 rfl rfl ?_
    refine go_getr (pc := 8) X (fk := 2) sh7 rfl inT_X7 (by decide) fL_X7_24 rfl dX7_now_8 ?_
    obtain ⟨S5, h6, h2⟩ := bind_some h2
    refine go_callVv (pc := 11) X 0 [] (ct_X0_run au4 h6) (shA au4) rfl gg_X7_294 hd_X0_run ⟨Nat.le_of_ble_eq_true rfl, Nat.le_of_ble_eq_true rfl⟩ rfl rfl (Nat.le_of_ble_eq_true rfl) dX7_now_11 ?_
    refine go_aload_n (pc := 14) X 0 dX7_now_14 rfl rfl ?_
    refine go_iconst (pc := 15) X dX7_now_15 ?_
    obtain ⟨S7, e8, h2⟩ := wrk_some h2
    refine go_putE (pc := 16) X (fk := 9) (fi := 9) rfl e8 sh7 rfl inT_X7 tyX7_ok nmX7 (by decide) fL_X7_60 rfl rfl rfl rfl rfl dX7_now_16 ?_
    cases h2
    exact k3
set_option maxRecDepth 100000 in
set_option maxHeartbeats 4000000 in
theorem ct_X7_hold {l : Launch} {D : va_G} {cI cB : ClassId} {Z : (Nat → Nat) × (Nat → Nat)} {ad : Nat → Nat} {S : Mem} {a1 : Int} {r : Int} {S' : Mem} (h : f_X7_hold S a1 = some (r, S')) : Ctr l D cI cB Z ad shsC yX7_hold cX7_hold 3 (some .int) 6 139 [.ref (ad 0), .int (i32 a1)] S (some (.int (i32 r))) S' := by
  refine ctr_of (by decide +kernel) (Nat.le_of_ble_eq_true rfl) rfl ?_
  intro p e s m args below meth c A X
  unfold f_X7_hold at h
  refine go_iload_n (pc := 0) X 1 dX7_hold_0 rfl rfl ?_
  obtain ⟨r1, h2, h⟩ := bind_some h
  refine go_callSi (pc := 1) X 1 [] (ct_X7_isKind h2) gg_X7_151 hd_X7_isKind ⟨Nat.le_of_ble_eq_true rfl, Nat.le_of_ble_eq_true rfl⟩ rfl rfl (Nat.le_of_ble_eq_true rfl) dX7_hold_1 ?_
  refine go_if_ne (pc := 4) X 9 dX7_hold_4 rfl (fun c3 => ?_) (fun c3 => ?_)
  · rw [if_neg c3] at h
    refine go_aload_n (pc := 9) X 0 dX7_hold_9 rfl rfl ?_
    obtain ⟨S4, h5, h⟩ := bind_some h
    refine go_callVr (pc := 10) X 0 [] (ct_X7_now h5) sh7 rfl gg_X7_154 hd_X7_now ⟨Nat.le_of_ble_eq_true rfl, Nat.le_of_ble_eq_true rfl⟩ rfl rfl (Nat.le_of_ble_eq_true rfl) dX7_hold_10 ?_
    refine go_astore_n (pc := 13) X [1, 2, 0] (Ls' := [(0, .ref (ad 0)), (1, .int (i32 a1)), (2, .ref (ad 4))]) dX7_hold_13 rfl (by decide) rfl ?_
    refine go_aload_n (pc := 14) X 0 dX7_hold_14 rfl rfl ?_
    obtain ⟨S6, h7, h⟩ := bind_some h
    refine go_callVv (pc := 15) X 0 [] (ct_X7_remember h7) sh7 rfl gg_X7_97 hd_X7_remember ⟨Nat.le_of_ble_eq_true rfl, Nat.le_of_ble_eq_true rfl⟩ rfl rfl (Nat.le_of_ble_eq_true rfl) dX7_hold_15 ?_
    refine go_aload_n (pc := 18) X 0 dX7_hold_18 rfl rfl ?_
    refine go_getr (pc := 19) X (fk := 4) sh7 rfl inT_X7 (by decide) fL_X7_36 rfl dX7_hold_19 ?_
    refine go_aload_n (pc := 22) X 2 dX7_hold_22 rfl rfl ?_
    refine go_get (pc := 23) X (fk := 1) (fi := 1) rfl (shA au4) rfl inT_X0 (by decide) fL_X7_158 rfl dX7_hold_23 ?_
    refine go_aload_n (pc := 26) X 2 dX7_hold_26 rfl rfl ?_
    refine go_get (pc := 27) X (fk := 2) (fi := 2) rfl (shA au4) rfl inT_X0 (by decide) fL_X7_161 rfl dX7_hold_27 ?_
    refine go_aload_n (pc := 30) X 2 dX7_hold_30 rfl rfl ?_
    refine go_iload_n (pc := 31) X 1 dX7_hold_31 rfl rfl ?_
    obtain ⟨u8, h9, h⟩ := bind_some h
    refine go_callVi (pc := 32) X 1 [.int (i32 (S6 4 2)), .int (i32 (S6 4 1)), .ref (ad 32)] (ct_X0_paidByAll au4 h9) (shA au4) rfl gg_X7_164 hd_X0_paidByAll ⟨Nat.le_of_ble_eq_true rfl, Nat.le_of_ble_eq_true rfl⟩ rfl rfl (Nat.le_of_ble_eq_true rfl) dX7_hold_32 ?_
    refine go_iload_n (pc := 35) X 1 dX7_hold_35 rfl rfl ?_
    obtain ⟨S10, h11, h⟩ := bind_some h
    refine go_callVv (pc := 36) X 4 [] (ct_X3_write h11) sh3 rfl gg_X7_168 hd_X3_write ⟨Nat.le_of_ble_eq_true rfl, Nat.le_of_ble_eq_true rfl⟩ rfl rfl (Nat.le_of_ble_eq_true rfl) dX7_hold_36 ?_
    refine go_aload_n (pc := 39) X 0 dX7_hold_39 rfl rfl ?_
    refine go_getr (pc := 40) X (fk := 3) sh7 rfl inT_X7 (by decide) fL_X7_32 rfl dX7_hold_40 ?_
    refine go_aload_n (pc := 43) X 2 dX7_hold_43 rfl rfl ?_
    refine go_getr (pc := 44) X (fk := 4) (shA au4) rfl inT_X0 (by decide) fL_X7_172 rfl dX7_hold_44 ?_
    obtain ⟨S12, h13, h⟩ := bind_some h
    refine go_callVv (pc := 47) X 1 [] (ct_X1_handOver bk5 un11 h13) (shB bk5) rfl gg_X7_175 hd_X1_handOver ⟨Nat.le_of_ble_eq_true rfl, Nat.le_of_ble_eq_true rfl⟩ rfl rfl (Nat.le_of_ble_eq_true rfl) dX7_hold_47 ?_
    refine go_aload_n (pc := 50) X 2 dX7_hold_50 rfl rfl ?_
    refine go_get (pc := 51) X (fk := 2) (fi := 2) rfl (shA au4) rfl inT_X0 (by decide) fL_X7_161 rfl dX7_hold_51 ?_
    exact go_iret (pc := 54) X h dX7_hold_54
  · rw [if_pos c3] at h
    refine go_iconst (pc := 7) X dX7_hold_7 ?_
    exact go_iret (pc := 8) X h dX7_hold_8
set_option maxRecDepth 100000 in
set_option maxHeartbeats 4000000 in
theorem ct_X7_shade {l : Launch} {D : va_G} {cI cB : ClassId} {Z : (Nat → Nat) × (Nat → Nat)} {ad : Nat → Nat} {S : Mem} {a1 : Int} {a2 : Int} {r : Int} {S' : Mem} (h : f_X7_shade S a1 a2 = some (r, S')) : Ctr l D cI cB Z ad shsC yX7_shade cX7_shade 4 (some .int) 4 90 [.ref (ad 0), .int (i32 a1), .int (i32 a2)] S (some (.int (i32 r))) S' := by
  refine ctr_of (by decide +kernel) (Nat.le_of_ble_eq_true rfl) rfl ?_
  intro p e s m args below meth c A X
  unfold f_X7_shade at h
  refine go_aload_n (pc := 0) X 0 dX7_shade_0 rfl rfl ?_
  refine go_getr (pc := 1) X (fk := 3) sh7 rfl inT_X7 (by decide) fL_X7_32 rfl dX7_shade_1 ?_
  refine go_iload_n (pc := 4) X 1 dX7_shade_4 rfl rfl ?_
  obtain ⟨r1, h2, h⟩ := bind_some h
  refine go_callVi (pc := 5) X 1 [] (ct_X1_has bk5 h2) (shB bk5) rfl gg_X7_104 hd_X1_has ⟨Nat.le_of_ble_eq_true rfl, Nat.le_of_ble_eq_true rfl⟩ rfl rfl (Nat.le_of_ble_eq_true rfl) dX7_shade_5 ?_
  refine go_if_eq (pc := 8) X 23 dX7_shade_8 rfl (fun c3 => ?_) (fun c3 => ?_)
  · rw [if_pos c3] at h
    refine go_iconst (pc := 23) X dX7_shade_23 ?_
    exact go_iret (pc := 24) X h dX7_shade_24
  · rw [if_neg c3] at h
    refine go_iload_n (pc := 11) X 2 dX7_shade_11 rfl rfl ?_
    refine go_bipush (pc := 12) X dX7_shade_12 (by decide) (by decide) ?_
    refine go_icmp_gt (pc := 14) X 23 dX7_shade_14 rfl (fun c4 => ?_) (fun c4 => ?_)
    · rw [if_pos c4] at h
      refine go_iconst (pc := 23) X dX7_shade_23 ?_
      exact go_iret (pc := 24) X h dX7_shade_24
    · rw [if_neg c4] at h
      refine go_iload_n (pc := 17) X 2 dX7_shade_17 rfl rfl ?_
      refine go_bipush (pc := 18) X dX7_shade_18 (by decide) (by decide) ?_
      refine go_icmp_ge (pc := 20) X 25 dX7_shade_20 rfl (fun c5 => ?_) (fun c5 => ?_)
      · rw [if_neg c5] at h
        refine go_aload_n (pc := 25) X 0 dX7_shade_25 rfl rfl ?_
        refine go_getr (pc := 26) X (fk := 3) sh7 rfl inT_X7 (by decide) fL_X7_32 rfl dX7_shade_26 ?_
        refine go_iload_n (pc := 29) X 1 dX7_shade_29 rfl rfl ?_
        refine go_iload_n (pc := 30) X 2 dX7_shade_30 rfl rfl ?_
        obtain ⟨r6, h7, h⟩ := bind_some h
        refine go_callVi (pc := 31) X 2 [] (ct_X1_changedBy bk5 h7) (shB bk5) rfl gg_X7_179 hd_X1_changedBy ⟨Nat.le_of_ble_eq_true rfl, Nat.le_of_ble_eq_true rfl⟩ rfl rfl (Nat.le_of_ble_eq_true rfl) dX7_shade_31 ?_
        refine go_istore_n (pc := 34) X [1, 2, 3, 0] (Ls' := [(0, .ref (ad 0)), (1, .int (i32 a1)), (2, .int (i32 a2)), (3, .int (i32 r6))]) dX7_shade_34 rfl (by decide) rfl ?_
        refine go_iload_n (pc := 35) X 3 dX7_shade_35 rfl rfl ?_
        refine go_if_ne (pc := 36) X 41 dX7_shade_36 rfl (fun c8 => ?_) (fun c8 => ?_)
        · rw [if_neg c8] at h
          refine go_aload_n (pc := 41) X 0 dX7_shade_41 rfl rfl ?_
          obtain ⟨S9, h10, h⟩ := bind_some h
          refine go_callVv (pc := 42) X 0 [] (ct_X7_remember h10) sh7 rfl gg_X7_97 hd_X7_remember ⟨Nat.le_of_ble_eq_true rfl, Nat.le_of_ble_eq_true rfl⟩ rfl rfl (Nat.le_of_ble_eq_true rfl) dX7_shade_42 ?_
          refine go_aload_n (pc := 45) X 0 dX7_shade_45 rfl rfl ?_
          refine go_getr (pc := 46) X (fk := 3) sh7 rfl inT_X7 (by decide) fL_X7_32 rfl dX7_shade_46 ?_
          refine go_iload_n (pc := 49) X 1 dX7_shade_49 rfl rfl ?_
          refine go_iload_n (pc := 50) X 2 dX7_shade_50 rfl rfl ?_
          obtain ⟨S11, h12, h⟩ := bind_some h
          refine go_callVv (pc := 51) X 2 [] (ct_X1_shift bk5 h12) (shB bk5) rfl gg_X7_182 hd_X1_shift ⟨Nat.le_of_ble_eq_true rfl, Nat.le_of_ble_eq_true rfl⟩ rfl rfl (Nat.le_of_ble_eq_true rfl) dX7_shade_51 ?_
          refine go_iload_n (pc := 54) X 3 dX7_shade_54 rfl rfl ?_
          exact go_iret (pc := 55) X h dX7_shade_55
        · rw [if_pos c8] at h
          refine go_iconst (pc := 39) X dX7_shade_39 ?_
          exact go_iret (pc := 40) X h dX7_shade_40
      · rw [if_pos c5] at h
        refine go_iconst (pc := 23) X dX7_shade_23 ?_
        exact go_iret (pc := 24) X h dX7_shade_24
set_option maxRecDepth 100000 in
set_option maxHeartbeats 4000000 in
theorem ct_X7_swap {l : Launch} {D : va_G} {cI cB : ClassId} {Z : (Nat → Nat) × (Nat → Nat)} {ad : Nat → Nat} {S : Mem} {a1 : Int} {a2 : Int} {r : Int} {S' : Mem} (h : f_X7_swap S a1 a2 = some (r, S')) : Ctr l D cI cB Z ad shsC yX7_swap cX7_swap 3 (some .boolean) 4 90 [.ref (ad 0), .int (i32 a1), .int (i32 a2)] S (some (.int (i32 r))) S' := by
  refine ctr_of (by decide +kernel) (Nat.le_of_ble_eq_true rfl) rfl ?_
  intro p e s m args below meth c A X
  unfold f_X7_swap at h
  refine go_aload_n (pc := 0) X 0 dX7_swap_0 rfl rfl ?_
  refine go_getr (pc := 1) X (fk := 3) sh7 rfl inT_X7 (by decide) fL_X7_32 rfl dX7_swap_1 ?_
  refine go_iload_n (pc := 4) X 1 dX7_swap_4 rfl rfl ?_
  refine go_iload_n (pc := 5) X 2 dX7_swap_5 rfl rfl ?_
  obtain ⟨r1, h2, h⟩ := bind_some h
  refine go_callVi (pc := 6) X 2 [] (ct_X1_hasTwo bk5 h2) (shB bk5) rfl gg_X7_141 hd_X1_hasTwo ⟨Nat.le_of_ble_eq_true rfl, Nat.le_of_ble_eq_true rfl⟩ rfl rfl (Nat.le_of_ble_eq_true rfl) dX7_swap_6 ?_
  refine go_if_ne (pc := 9) X 14 dX7_swap_9 rfl (fun c3 => ?_) (fun c3 => ?_)
  · rw [if_neg c3] at h
    refine go_aload_n (pc := 14) X 0 dX7_swap_14 rfl rfl ?_
    obtain ⟨S4, h5, h⟩ := bind_some h
    refine go_callVv (pc := 15) X 0 [] (ct_X7_remember h5) sh7 rfl gg_X7_97 hd_X7_remember ⟨Nat.le_of_ble_eq_true rfl, Nat.le_of_ble_eq_true rfl⟩ rfl rfl (Nat.le_of_ble_eq_true rfl) dX7_swap_15 ?_
    refine go_aload_n (pc := 18) X 0 dX7_swap_18 rfl rfl ?_
    refine go_getr (pc := 19) X (fk := 3) sh7 rfl inT_X7 (by decide) fL_X7_32 rfl dX7_swap_19 ?_
    refine go_iload_n (pc := 22) X 1 dX7_swap_22 rfl rfl ?_
    refine go_iload_n (pc := 23) X 2 dX7_swap_23 rfl rfl ?_
    obtain ⟨S6, h7, h⟩ := bind_some h
    refine go_callVv (pc := 24) X 2 [] (ct_X1_exchange bk5 h7) (shB bk5) rfl gg_X7_185 hd_X1_exchange ⟨Nat.le_of_ble_eq_true rfl, Nat.le_of_ble_eq_true rfl⟩ rfl rfl (Nat.le_of_ble_eq_true rfl) dX7_swap_24 ?_
    refine go_iconst (pc := 27) X dX7_swap_27 ?_
    exact go_zret (pc := 28) X (Or.inr rfl) h dX7_swap_28
  · rw [if_pos c3] at h
    refine go_iconst (pc := 12) X dX7_swap_12 ?_
    exact go_zret (pc := 13) X (Or.inl rfl) h dX7_swap_13
set_option maxRecDepth 100000 in
set_option maxHeartbeats 4000000 in
theorem ct_X7_isSupply {l : Launch} {D : va_G} {cI cB : ClassId} {Z : (Nat → Nat) × (Nat → Nat)} {ad : Nat → Nat} {S : Mem} {a0 : Int} {r : Int} (h : f_X7_isSupply S a0 = some r) : Ctr l D cI cB Z ad shsC yX7_isSupply cX7_isSupply 1 (some .boolean) 0 0 [.int (i32 a0)] S (some (.int (i32 r))) S := by
  refine ctr_of (by decide +kernel) (Nat.le_of_ble_eq_true rfl) rfl ?_
  intro p e s m args below meth c A X
  unfold f_X7_isSupply at h
  refine go_iload_n (pc := 0) X 0 dX7_isSupply_0 rfl rfl ?_
  refine go_iconst (pc := 1) X dX7_isSupply_1 ?_
  refine go_icmp_lt (pc := 2) X 15 dX7_isSupply_2 rfl (fun c1 => ?_) (fun c1 => ?_)
  · rw [if_pos c1] at h
    refine go_iconst (pc := 15) X dX7_isSupply_15 ?_
    exact go_zretP (pc := 16) X (Or.inl rfl) h dX7_isSupply_16
  · rw [if_neg c1] at h
    refine go_iload_n (pc := 5) X 0 dX7_isSupply_5 rfl rfl ?_
    refine go_bipush (pc := 6) X dX7_isSupply_6 (by decide) (by decide) ?_
    refine go_icmp_gt (pc := 8) X 15 dX7_isSupply_8 rfl (fun c2 => ?_) (fun c2 => ?_)
    · rw [if_pos c2] at h
      refine go_iconst (pc := 15) X dX7_isSupply_15 ?_
      exact go_zretP (pc := 16) X (Or.inl rfl) h dX7_isSupply_16
    · rw [if_neg c2] at h
      refine go_iconst (pc := 11) X dX7_isSupply_11 ?_
      refine go_goto (pc := 12) X 16 dX7_isSupply_12 rfl ?_
      exact go_zretP (pc := 16) X (Or.inr rfl) h dX7_isSupply_16
set_option maxRecDepth 100000 in
set_option maxHeartbeats 4000000 in
theorem ct_X7_supply {l : Launch} {D : va_G} {cI cB : ClassId} {Z : (Nat → Nat) × (Nat → Nat)} {ad : Nat → Nat} {S : Mem} {a1 : Int} {r : Int} {S' : Mem} (h : f_X7_supply S a1 = some (r, S')) : Ctr l D cI cB Z ad shsC yX7_supply cX7_supply 3 (some .int) 4 90 [.ref (ad 0), .int (i32 a1)] S (some (.int (i32 r))) S' := by
  refine ctr_of (by decide +kernel) (Nat.le_of_ble_eq_true rfl) rfl ?_
  intro p e s m args below meth c A X
  unfold f_X7_supply at h
  refine go_iload_n (pc := 0) X 1 dX7_supply_0 rfl rfl ?_
  obtain ⟨r1, h2, h⟩ := bind_some h
  refine go_callSi (pc := 1) X 1 [] (ct_X7_isSupply h2) gg_X7_188 hd_X7_isSupply ⟨Nat.le_of_ble_eq_true rfl, Nat.le_of_ble_eq_true rfl⟩ rfl rfl (Nat.le_of_ble_eq_true rfl) dX7_supply_1 ?_
  refine go_if_eq (pc := 4) X 18 dX7_supply_4 rfl (fun c3 => ?_) (fun c3 => ?_)
  · rw [if_pos c3] at h
    refine go_iconst (pc := 18) X dX7_supply_18 ?_
    exact go_iret (pc := 19) X h dX7_supply_19
  · rw [if_neg c3] at h
    refine go_iload_n (pc := 7) X 1 dX7_supply_7 rfl rfl ?_
    refine go_aload_n (pc := 8) X 0 dX7_supply_8 rfl rfl ?_
    refine go_getr (pc := 9) X (fk := 3) sh7 rfl inT_X7 (by decide) fL_X7_32 rfl dX7_supply_9 ?_
    refine go_get (pc := 12) X (fk := 0) (fi := 0) rfl (shB bk5) rfl inT_X1 (by decide) fL_X7_191 rfl dX7_supply_12 ?_
    refine go_icmp_ne (pc := 15) X 20 dX7_supply_15 rfl (fun c4 => ?_) (fun c4 => ?_)
    · rw [if_neg c4] at h
      refine go_aload_n (pc := 20) X 0 dX7_supply_20 rfl rfl ?_
      obtain ⟨S5, h6, h⟩ := bind_some h
      refine go_callVv (pc := 21) X 0 [] (ct_X7_remember h6) sh7 rfl gg_X7_97 hd_X7_remember ⟨Nat.le_of_ble_eq_true rfl, Nat.le_of_ble_eq_true rfl⟩ rfl rfl (Nat.le_of_ble_eq_true rfl) dX7_supply_21 ?_
      refine go_aload_n (pc := 24) X 0 dX7_supply_24 rfl rfl ?_
      refine go_getr (pc := 25) X (fk := 3) sh7 rfl inT_X7 (by decide) fL_X7_32 rfl dX7_supply_25 ?_
      refine go_get (pc := 28) X (fk := 0) (fi := 0) rfl (shB bk5) rfl inT_X1 (by decide) fL_X7_191 rfl dX7_supply_28 ?_
      refine go_istore_n (pc := 31) X [1, 2, 0] (Ls' := [(0, .ref (ad 0)), (1, .int (i32 a1)), (2, .int (i32 (S5 5 0)))]) dX7_supply_31 rfl (by decide) rfl ?_
      refine go_aload_n (pc := 32) X 0 dX7_supply_32 rfl rfl ?_
      refine go_getr (pc := 33) X (fk := 3) sh7 rfl inT_X7 (by decide) fL_X7_32 rfl dX7_supply_33 ?_
      refine go_iload_n (pc := 36) X 1 dX7_supply_36 rfl rfl ?_
      obtain ⟨S7, e8, h⟩ := wrk_some h
      refine go_putE (pc := 37) X (fk := 0) (fi := 0) rfl e8 (shB bk5) rfl inT_X1 tyX1_ok nmX1 (by decide) fL_X7_191 rfl rfl rfl rfl rfl dX7_supply_37 ?_
      refine go_iload_n (pc := 40) X 2 dX7_supply_40 rfl rfl ?_
      exact go_iret (pc := 41) X h dX7_supply_41
    · rw [if_pos c4] at h
      refine go_iconst (pc := 18) X dX7_supply_18 ?_
      exact go_iret (pc := 19) X h dX7_supply_19
set_option maxRecDepth 100000 in
set_option maxHeartbeats 4000000 in
theorem ct_X7_reserve {l : Launch} {D : va_G} {cI cB : ClassId} {Z : (Nat → Nat) × (Nat → Nat)} {ad : Nat → Nat} {S : Mem} {a1 : Int} {r : Int} {S' : Mem} (h : f_X7_reserve S a1 = some (r, S')) : Ctr l D cI cB Z ad shsC yX7_reserve cX7_reserve 3 (some .int) 4 90 [.ref (ad 0), .int (i32 a1)] S (some (.int (i32 r))) S' := by
  refine ctr_of (by decide +kernel) (Nat.le_of_ble_eq_true rfl) rfl ?_
  intro p e s m args below meth c A X
  unfold f_X7_reserve at h
  refine go_iload_n (pc := 0) X 1 dX7_reserve_0 rfl rfl ?_
  obtain ⟨r1, h2, h⟩ := bind_some h
  refine go_callSi (pc := 1) X 1 [] (ct_X7_isPrice h2) gg_X7_110 hd_X7_isPrice ⟨Nat.le_of_ble_eq_true rfl, Nat.le_of_ble_eq_true rfl⟩ rfl rfl (Nat.le_of_ble_eq_true rfl) dX7_reserve_1 ?_
  refine go_if_eq (pc := 4) X 18 dX7_reserve_4 rfl (fun c3 => ?_) (fun c3 => ?_)
  · rw [if_pos c3] at h
    refine go_iconst (pc := 18) X dX7_reserve_18 ?_
    exact go_iret (pc := 19) X h dX7_reserve_19
  · rw [if_neg c3] at h
    refine go_iload_n (pc := 7) X 1 dX7_reserve_7 rfl rfl ?_
    refine go_aload_n (pc := 8) X 0 dX7_reserve_8 rfl rfl ?_
    refine go_getr (pc := 9) X (fk := 3) sh7 rfl inT_X7 (by decide) fL_X7_32 rfl dX7_reserve_9 ?_
    refine go_get (pc := 12) X (fk := 1) (fi := 1) rfl (shB bk5) rfl inT_X1 (by decide) fL_X7_194 rfl dX7_reserve_12 ?_
    refine go_icmp_ne (pc := 15) X 20 dX7_reserve_15 rfl (fun c4 => ?_) (fun c4 => ?_)
    · rw [if_neg c4] at h
      refine go_aload_n (pc := 20) X 0 dX7_reserve_20 rfl rfl ?_
      obtain ⟨S5, h6, h⟩ := bind_some h
      refine go_callVv (pc := 21) X 0 [] (ct_X7_remember h6) sh7 rfl gg_X7_97 hd_X7_remember ⟨Nat.le_of_ble_eq_true rfl, Nat.le_of_ble_eq_true rfl⟩ rfl rfl (Nat.le_of_ble_eq_true rfl) dX7_reserve_21 ?_
      refine go_aload_n (pc := 24) X 0 dX7_reserve_24 rfl rfl ?_
      refine go_getr (pc := 25) X (fk := 3) sh7 rfl inT_X7 (by decide) fL_X7_32 rfl dX7_reserve_25 ?_
      refine go_get (pc := 28) X (fk := 1) (fi := 1) rfl (shB bk5) rfl inT_X1 (by decide) fL_X7_194 rfl dX7_reserve_28 ?_
      refine go_istore_n (pc := 31) X [1, 2, 0] (Ls' := [(0, .ref (ad 0)), (1, .int (i32 a1)), (2, .int (i32 (S5 5 1)))]) dX7_reserve_31 rfl (by decide) rfl ?_
      refine go_aload_n (pc := 32) X 0 dX7_reserve_32 rfl rfl ?_
      refine go_getr (pc := 33) X (fk := 3) sh7 rfl inT_X7 (by decide) fL_X7_32 rfl dX7_reserve_33 ?_
      refine go_iload_n (pc := 36) X 1 dX7_reserve_36 rfl rfl ?_
      obtain ⟨S7, e8, h⟩ := wrk_some h
      refine go_putE (pc := 37) X (fk := 1) (fi := 1) rfl e8 (shB bk5) rfl inT_X1 tyX1_ok nmX1 (by decide) fL_X7_194 rfl rfl rfl rfl rfl dX7_reserve_37 ?_
      refine go_iload_n (pc := 40) X 2 dX7_reserve_40 rfl rfl ?_
      exact go_iret (pc := 41) X h dX7_reserve_41
    · rw [if_pos c4] at h
      refine go_iconst (pc := 18) X dX7_reserve_18 ?_
      exact go_iret (pc := 19) X h dX7_reserve_19
set_option maxRecDepth 100000 in
set_option maxHeartbeats 4000000 in
theorem ct_X7_undo {l : Launch} {D : va_G} {cI cB : ClassId} {Z : (Nat → Nat) × (Nat → Nat)} {ad : Nat → Nat} {S : Mem} {r : Int} {S' : Mem} (h : f_X7_undo S = some (r, S')) : Ctr l D cI cB Z ad shsC yX7_undo cX7_undo 1 (some .int) 3 70 [.ref (ad 0)] S (some (.int (i32 r))) S' := by
  refine ctr_of (by decide +kernel) (Nat.le_of_ble_eq_true rfl) rfl ?_
  intro p e s m args below meth c A X
  unfold f_X7_undo at h
  refine go_aload_n (pc := 0) X 0 dX7_undo_0 rfl rfl ?_
  refine go_getr (pc := 1) X (fk := 5) sh7 rfl inT_X7 (by decide) fL_X7_43 rfl dX7_undo_1 ?_
  refine go_get (pc := 4) X (fk := 0) (fi := 0) rfl sh2 rfl inT_X2 (by decide) fL_X7_91 rfl dX7_undo_4 ?_
  refine go_if_ne (pc := 7) X 12 dX7_undo_7 rfl (fun c1 => ?_) (fun c1 => ?_)
  · rw [if_neg c1] at h
    refine go_aload_n (pc := 12) X 0 dX7_undo_12 rfl rfl ?_
    refine go_getr (pc := 13) X (fk := 5) sh7 rfl inT_X7 (by decide) fL_X7_43 rfl dX7_undo_13 ?_
    refine go_aload_n (pc := 16) X 0 dX7_undo_16 rfl rfl ?_
    refine go_getr (pc := 17) X (fk := 3) sh7 rfl inT_X7 (by decide) fL_X7_32 rfl dX7_undo_17 ?_
    refine go_aload_n (pc := 20) X 0 dX7_undo_20 rfl rfl ?_
    refine go_getr (pc := 21) X (fk := 4) sh7 rfl inT_X7 (by decide) fL_X7_36 rfl dX7_undo_21 ?_
    obtain ⟨S2, h3, h⟩ := bind_some h
    refine go_callVv (pc := 24) X 2 [] (ct_X2_pop h3) sh2 rfl gg_X7_197 hd_X2_pop ⟨Nat.le_of_ble_eq_true rfl, Nat.le_of_ble_eq_true rfl⟩ rfl rfl (Nat.le_of_ble_eq_true rfl) dX7_undo_24 ?_
    refine go_aload_n (pc := 27) X 0 dX7_undo_27 rfl rfl ?_
    refine go_iconst (pc := 28) X dX7_undo_28 ?_
    obtain ⟨S4, e5, h⟩ := wrk_some h
    refine go_putE (pc := 29) X (fk := 9) (fi := 9) rfl e5 sh7 rfl inT_X7 tyX7_ok nmX7 (by decide) fL_X7_60 rfl rfl rfl rfl rfl dX7_undo_29 ?_
    refine go_aload_n (pc := 32) X 0 dX7_undo_32 rfl rfl ?_
    refine go_getr (pc := 33) X (fk := 5) sh7 rfl inT_X7 (by decide) fL_X7_43 rfl dX7_undo_33 ?_
    refine go_get (pc := 36) X (fk := 0) (fi := 0) rfl sh2 rfl inT_X2 (by decide) fL_X7_91 rfl dX7_undo_36 ?_
    exact go_iret (pc := 39) X h dX7_undo_39
  · rw [if_pos c1] at h
    refine go_iconst (pc := 10) X dX7_undo_10 ?_
    exact go_iret (pc := 11) X h dX7_undo_11
set_option maxRecDepth 100000 in
set_option maxHeartbeats 4000000 in
theorem ct_X7_of {l : Launch} {D : va_G} {cI cB : ClassId} {Z : (Nat → Nat) × (Nat → Nat)} {ad : Nat → Nat} {S : Mem} {a1 : Int} {a2 : Int} {r : Int} {S' : Mem} (h : f_X7_of S a1 a2 = some (r, S')) : Ctr l D cI cB Z ad shsC yX7_of cX7_of 4 (some .int) 6 132 [.ref (ad 0), .int (i32 a1), .int (i32 a2)] S (some (.int (i32 r))) S' := by
  refine ctr_of (by decide +kernel) (Nat.le_of_ble_eq_true rfl) rfl ?_
  intro p e s m args below meth c A X
  unfold f_X7_of at h
  refine go_aload_n (pc := 0) X 0 dX7_of_0 rfl rfl ?_
  refine go_getr (pc := 1) X (fk := 3) sh7 rfl inT_X7 (by decide) fL_X7_32 rfl dX7_of_1 ?_
  refine go_iload_n (pc := 4) X 1 dX7_of_4 rfl rfl ?_
  obtain ⟨r1, h2, h⟩ := bind_some h
  refine go_callVi (pc := 5) X 1 [] (ct_X1_has bk5 h2) (shB bk5) rfl gg_X7_104 hd_X1_has ⟨Nat.le_of_ble_eq_true rfl, Nat.le_of_ble_eq_true rfl⟩ rfl rfl (Nat.le_of_ble_eq_true rfl) dX7_of_5 ?_
  refine go_if_ne (pc := 8) X 13 dX7_of_8 rfl (fun c3 => ?_) (fun c3 => ?_)
  · rw [if_neg c3] at h
    refine go_aload_n (pc := 13) X 0 dX7_of_13 rfl rfl ?_
    obtain ⟨S4, h5, h⟩ := bind_some h
    refine go_callVr (pc := 14) X 0 [] (ct_X7_now h5) sh7 rfl gg_X7_154 hd_X7_now ⟨Nat.le_of_ble_eq_true rfl, Nat.le_of_ble_eq_true rfl⟩ rfl rfl (Nat.le_of_ble_eq_true rfl) dX7_of_14 ?_
    refine go_astore_n (pc := 17) X [1, 2, 3, 0] (Ls' := [(0, .ref (ad 0)), (1, .int (i32 a1)), (2, .int (i32 a2)), (3, .ref (ad 4))]) dX7_of_17 rfl (by decide) rfl ?_
    refine go_iload_n (pc := 18) X 2 dX7_of_18 rfl rfl ?_
    by_cases c6 : eqb a2 0 = true
    · rw [if_pos c6] at h
      refine go_tab (pc := 19) X 56 dX7_of_19 c6 ⟨by decide, by decide⟩ ⟨by decide, by decide⟩ rfl rfl ?_
      refine go_aload_n (pc := 56) X 0 dX7_of_56 rfl rfl ?_
      refine go_getr (pc := 57) X (fk := 3) sh7 rfl inT_X7 (by decide) fL_X7_32 rfl dX7_of_57 ?_
      refine go_getr (pc := 60) X (fk := 3) (shB bk5) rfl inT_X1 (by decide) fL_X7_113 rfl dX7_of_60 ?_
      refine go_iload_n (pc := 63) X 1 dX7_of_63 rfl rfl ?_
      obtain ⟨g7, h⟩ := gd_some h
      refine go_iald (pc := 64) X (shB1 bk5) (Nat.le_of_ble_eq_true rfl) rfl g7 dX7_of_64 ?_
      exact go_iret (pc := 65) X h dX7_of_65
    · rw [if_neg c6] at h
      by_cases c8 : eqb a2 1 = true
      · rw [if_pos c8] at h
        refine go_tab (pc := 19) X 66 dX7_of_19 c8 ⟨by decide, by decide⟩ ⟨by decide, by decide⟩ rfl rfl ?_
        refine go_aload_n (pc := 66) X 0 dX7_of_66 rfl rfl ?_
        refine go_getr (pc := 67) X (fk := 3) sh7 rfl inT_X7 (by decide) fL_X7_32 rfl dX7_of_67 ?_
        refine go_getr (pc := 70) X (fk := 4) (shB bk5) rfl inT_X1 (by decide) fL_X7_128 rfl dX7_of_70 ?_
        refine go_iload_n (pc := 73) X 1 dX7_of_73 rfl rfl ?_
        obtain ⟨g9, h⟩ := gd_some h
        refine go_iald (pc := 74) X (shB2 bk5) (Nat.le_of_ble_eq_true rfl) rfl g9 dX7_of_74 ?_
        exact go_iret (pc := 75) X h dX7_of_75
      · rw [if_neg c8] at h
        by_cases c10 : eqb a2 2 = true
        · rw [if_pos c10] at h
          refine go_tab (pc := 19) X 76 dX7_of_19 c10 ⟨by decide, by decide⟩ ⟨by decide, by decide⟩ rfl rfl ?_
          refine go_aload_n (pc := 76) X 3 dX7_of_76 rfl rfl ?_
          refine go_getr (pc := 77) X (fk := 4) (shA au4) rfl inT_X0 (by decide) fL_X7_172 rfl dX7_of_77 ?_
          refine go_iload_n (pc := 80) X 1 dX7_of_80 rfl rfl ?_
          obtain ⟨g11, h⟩ := gd_some h
          refine go_iald (pc := 81) X (shA7 au4) (Nat.le_of_ble_eq_true rfl) rfl g11 dX7_of_81 ?_
          exact go_iret (pc := 82) X h dX7_of_82
        · rw [if_neg c10] at h
          by_cases c12 : eqb a2 3 = true
          · rw [if_pos c12] at h
            refine go_tab (pc := 19) X 83 dX7_of_19 c12 ⟨by decide, by decide⟩ ⟨by decide, by decide⟩ rfl rfl ?_
            refine go_aload_n (pc := 83) X 3 dX7_of_83 rfl rfl ?_
            refine go_iload_n (pc := 84) X 1 dX7_of_84 rfl rfl ?_
            obtain ⟨r13, h14, h⟩ := bind_some h
            refine go_callVi (pc := 85) X 1 [] (ct_X0_valueOfUnits au4 h14) (shA au4) rfl gg_X7_201 hd_X0_valueOfUnits ⟨Nat.le_of_ble_eq_true rfl, Nat.le_of_ble_eq_true rfl⟩ rfl rfl (Nat.le_of_ble_eq_true rfl) dX7_of_85 ?_
            exact go_iret (pc := 88) X h dX7_of_88
          · rw [if_neg c12] at h
            by_cases c15 : eqb a2 4 = true
            · rw [if_pos c15] at h
              refine go_tab (pc := 19) X 89 dX7_of_19 c15 ⟨by decide, by decide⟩ ⟨by decide, by decide⟩ rfl rfl ?_
              refine go_aload_n (pc := 89) X 3 dX7_of_89 rfl rfl ?_
              refine go_getr (pc := 90) X (fk := 4) (shA au4) rfl inT_X0 (by decide) fL_X7_172 rfl dX7_of_90 ?_
              refine go_iload_n (pc := 93) X 1 dX7_of_93 rfl rfl ?_
              obtain ⟨g16, h⟩ := gd_some h
              refine go_iald (pc := 94) X (shA7 au4) (Nat.le_of_ble_eq_true rfl) rfl g16 dX7_of_94 ?_
              refine go_aload_n (pc := 95) X 3 dX7_of_95 rfl rfl ?_
              refine go_getr (pc := 96) X (fk := 5) (shA au4) rfl inT_X0 (by decide) fL_X7_204 rfl dX7_of_96 ?_
              refine go_iload_n (pc := 99) X 1 dX7_of_99 rfl rfl ?_
              refine go_iald (pc := 100) X (shA8 au4) (Nat.le_of_ble_eq_true rfl) rfl g16 dX7_of_100 ?_
              refine go_isub (pc := 101) X dX7_of_101 ?_
              exact go_iret (pc := 102) X h dX7_of_102
            · rw [if_neg c15] at h
              by_cases c17 : eqb a2 5 = true
              · rw [if_pos c17] at h
                refine go_tab (pc := 19) X 103 dX7_of_19 c17 ⟨by decide, by decide⟩ ⟨by decide, by decide⟩ rfl rfl ?_
                refine go_aload_n (pc := 103) X 3 dX7_of_103 rfl rfl ?_
                refine go_getr (pc := 104) X (fk := 5) (shA au4) rfl inT_X0 (by decide) fL_X7_204 rfl dX7_of_104 ?_
                refine go_iload_n (pc := 107) X 1 dX7_of_107 rfl rfl ?_
                obtain ⟨g18, h⟩ := gd_some h
                refine go_iald (pc := 108) X (shA8 au4) (Nat.le_of_ble_eq_true rfl) rfl g18 dX7_of_108 ?_
                refine go_if_ne (pc := 109) X 117 dX7_of_109 rfl (fun c19 => ?_) (fun c19 => ?_)
                · rw [if_neg c19] at h
                  refine go_aload_n (pc := 117) X 3 dX7_of_117 rfl rfl ?_
                  refine go_iload_n (pc := 118) X 1 dX7_of_118 rfl rfl ?_
                  refine go_iconst (pc := 119) X dX7_of_119 ?_
                  obtain ⟨r20, h21, h⟩ := bind_some h
                  refine go_callVi (pc := 120) X 2 [] (ct_X0_unitPrice au4 h21) (shA au4) rfl gg_X7_207 hd_X0_unitPrice ⟨Nat.le_of_ble_eq_true rfl, Nat.le_of_ble_eq_true rfl⟩ rfl rfl (Nat.le_of_ble_eq_true rfl) dX7_of_120 ?_
                  exact go_iret (pc := 123) X h dX7_of_123
                · rw [if_pos c19] at h
                  refine go_bipush (pc := 112) X dX7_of_112 (by decide) (by decide) ?_
                  refine go_goto (pc := 114) X 123 dX7_of_114 rfl ?_
                  exact go_iret (pc := 123) X h dX7_of_123
              · rw [if_neg c17] at h
                have nc6 : ¬ (0 : Int) = (i32 a2).toInt := fun z => c6 ((eqb_toInt (by decide) (by decide)).mpr z.symm)
                have nc8 : ¬ (1 : Int) = (i32 a2).toInt := fun z => c8 ((eqb_toInt (by decide) (by decide)).mpr z.symm)
                have nc10 : ¬ (2 : Int) = (i32 a2).toInt := fun z => c10 ((eqb_toInt (by decide) (by decide)).mpr z.symm)
                have nc12 : ¬ (3 : Int) = (i32 a2).toInt := fun z => c12 ((eqb_toInt (by decide) (by decide)).mpr z.symm)
                have nc15 : ¬ (4 : Int) = (i32 a2).toInt := fun z => c15 ((eqb_toInt (by decide) (by decide)).mpr z.symm)
                have nc17 : ¬ (5 : Int) = (i32 a2).toInt := fun z => c17 ((eqb_toInt (by decide) (by decide)).mpr z.symm)
                refine go_tabx (pc := 19) X 124 dX7_of_19 (by omega) rfl ?_
                refine go_iconst (pc := 124) X dX7_of_124 ?_
                exact go_iret (pc := 125) X h dX7_of_125
  · rw [if_pos c3] at h
    refine go_iconst (pc := 11) X dX7_of_11 ?_
    exact go_iret (pc := 12) X h dX7_of_12
set_option maxRecDepth 100000 in
set_option maxHeartbeats 4000000 in
theorem ct_X7_valueOf {l : Launch} {D : va_G} {cI cB : ClassId} {Z : (Nat → Nat) × (Nat → Nat)} {ad : Nat → Nat} {S : Mem} {a1 : Int} {a2 : Int} {r : Int} (h : f_X7_valueOf S a1 a2 = some r) : Ctr l D cI cB Z ad shsC yX7_valueOf cX7_valueOf 3 (some .int) 2 43 [.ref (ad 0), .int (i32 a1), .int (i32 a2)] S (some (.int (i32 r))) S := by
  refine ctr_of (by decide +kernel) (Nat.le_of_ble_eq_true rfl) rfl ?_
  intro p e s m args below meth c A X
  unfold f_X7_valueOf at h
  refine go_aload_n (pc := 0) X 0 dX7_valueOf_0 rfl rfl ?_
  refine go_getr (pc := 1) X (fk := 3) sh7 rfl inT_X7 (by decide) fL_X7_32 rfl dX7_valueOf_1 ?_
  refine go_iload_n (pc := 4) X 1 dX7_valueOf_4 rfl rfl ?_
  refine go_iload_n (pc := 5) X 2 dX7_valueOf_5 rfl rfl ?_
  obtain ⟨r1, h2, h⟩ := bind_some h
  refine go_callVi (pc := 6) X 2 [] (ct_X1_hasValue bk5 h2) (shB bk5) rfl gg_X7_121 hd_X1_hasValue ⟨Nat.le_of_ble_eq_true rfl, Nat.le_of_ble_eq_true rfl⟩ rfl rfl (Nat.le_of_ble_eq_true rfl) dX7_valueOf_6 ?_
  refine go_if_eq (pc := 9) X 24 dX7_valueOf_9 rfl (fun c3 => ?_) (fun c3 => ?_)
  · rw [if_pos c3] at h
    refine go_iconst (pc := 24) X dX7_valueOf_24 ?_
    exact go_iretP (pc := 25) X h dX7_valueOf_25
  · rw [if_neg c3] at h
    refine go_aload_n (pc := 12) X 0 dX7_valueOf_12 rfl rfl ?_
    refine go_getr (pc := 13) X (fk := 3) sh7 rfl inT_X7 (by decide) fL_X7_32 rfl dX7_valueOf_13 ?_
    refine go_iload_n (pc := 16) X 1 dX7_valueOf_16 rfl rfl ?_
    refine go_iload_n (pc := 17) X 2 dX7_valueOf_17 rfl rfl ?_
    obtain ⟨r4, h5, h⟩ := bind_some h
    refine go_callVi (pc := 18) X 2 [] (ct_X1_valueAt bk5 h5) (shB bk5) rfl gg_X7_131 hd_X1_valueAt ⟨Nat.le_of_ble_eq_true rfl, Nat.le_of_ble_eq_true rfl⟩ rfl rfl (Nat.le_of_ble_eq_true rfl) dX7_valueOf_18 ?_
    refine go_goto (pc := 21) X 25 dX7_valueOf_21 rfl ?_
    exact go_iretP (pc := 25) X h dX7_valueOf_25
set_option maxRecDepth 100000 in
set_option maxHeartbeats 4000000 in
theorem ct_X7_unit {l : Launch} {D : va_G} {cI cB : ClassId} {Z : (Nat → Nat) × (Nat → Nat)} {ad : Nat → Nat} {S : Mem} {a1 : Int} {a2 : Int} {r : Int} {S' : Mem} (h : f_X7_unit S a1 a2 = some (r, S')) : Ctr l D cI cB Z ad shsC yX7_unit cX7_unit 4 (some .int) 6 132 [.ref (ad 0), .int (i32 a1), .int (i32 a2)] S (some (.int (i32 r))) S' := by
  refine ctr_of (by decide +kernel) (Nat.le_of_ble_eq_true rfl) rfl ?_
  intro p e s m args below meth c A X
  unfold f_X7_unit at h
  refine go_aload_n (pc := 0) X 0 dX7_unit_0 rfl rfl ?_
  refine go_getr (pc := 1) X (fk := 3) sh7 rfl inT_X7 (by decide) fL_X7_32 rfl dX7_unit_1 ?_
  refine go_iload_n (pc := 4) X 1 dX7_unit_4 rfl rfl ?_
  obtain ⟨r1, h2, h⟩ := bind_some h
  refine go_callVi (pc := 5) X 1 [] (ct_X1_has bk5 h2) (shB bk5) rfl gg_X7_104 hd_X1_has ⟨Nat.le_of_ble_eq_true rfl, Nat.le_of_ble_eq_true rfl⟩ rfl rfl (Nat.le_of_ble_eq_true rfl) dX7_unit_5 ?_
  refine go_if_eq (pc := 8) X 15 dX7_unit_8 rfl (fun c3 => ?_) (fun c3 => ?_)
  · rw [if_pos c3] at h
    refine go_iconst (pc := 15) X dX7_unit_15 ?_
    exact go_iret (pc := 16) X h dX7_unit_16
  · rw [if_neg c3] at h
    refine go_iload_n (pc := 11) X 2 dX7_unit_11 rfl rfl ?_
    refine go_if_ge (pc := 12) X 17 dX7_unit_12 rfl (fun c4 => ?_) (fun c4 => ?_)
    · rw [if_neg c4] at h
      refine go_aload_n (pc := 17) X 0 dX7_unit_17 rfl rfl ?_
      obtain ⟨S5, h6, h⟩ := bind_some h
      refine go_callVr (pc := 18) X 0 [] (ct_X7_now h6) sh7 rfl gg_X7_154 hd_X7_now ⟨Nat.le_of_ble_eq_true rfl, Nat.le_of_ble_eq_true rfl⟩ rfl rfl (Nat.le_of_ble_eq_true rfl) dX7_unit_18 ?_
      refine go_astore_n (pc := 21) X [1, 2, 3, 0] (Ls' := [(0, .ref (ad 0)), (1, .int (i32 a1)), (2, .int (i32 a2)), (3, .ref (ad 4))]) dX7_unit_21 rfl (by decide) rfl ?_
      refine go_iload_n (pc := 22) X 2 dX7_unit_22 rfl rfl ?_
      refine go_aload_n (pc := 23) X 3 dX7_unit_23 rfl rfl ?_
      refine go_getr (pc := 24) X (fk := 4) (shA au4) rfl inT_X0 (by decide) fL_X7_172 rfl dX7_unit_24 ?_
      refine go_iload_n (pc := 27) X 1 dX7_unit_27 rfl rfl ?_
      obtain ⟨g7, h⟩ := gd_some h
      refine go_iald (pc := 28) X (shA7 au4) (Nat.le_of_ble_eq_true rfl) rfl g7 dX7_unit_28 ?_
      refine go_icmp_ge (pc := 29) X 41 dX7_unit_29 rfl (fun c8 => ?_) (fun c8 => ?_)
      · rw [if_neg c8] at h
        refine go_bipush (pc := 41) X dX7_unit_41 (by decide) (by decide) ?_
        exact go_iret (pc := 43) X h dX7_unit_43
      · rw [if_pos c8] at h
        refine go_aload_n (pc := 32) X 3 dX7_unit_32 rfl rfl ?_
        refine go_iload_n (pc := 33) X 1 dX7_unit_33 rfl rfl ?_
        refine go_iload_n (pc := 34) X 2 dX7_unit_34 rfl rfl ?_
        obtain ⟨r9, h10, h⟩ := bind_some h
        refine go_callVi (pc := 35) X 2 [] (ct_X0_unitPrice au4 h10) (shA au4) rfl gg_X7_207 hd_X0_unitPrice ⟨Nat.le_of_ble_eq_true rfl, Nat.le_of_ble_eq_true rfl⟩ rfl rfl (Nat.le_of_ble_eq_true rfl) dX7_unit_35 ?_
        refine go_goto (pc := 38) X 43 dX7_unit_38 rfl ?_
        exact go_iret (pc := 43) X h dX7_unit_43
    · rw [if_pos c4] at h
      refine go_iconst (pc := 15) X dX7_unit_15 ?_
      exact go_iret (pc := 16) X h dX7_unit_16
set_option maxRecDepth 100000 in
set_option maxHeartbeats 4000000 in
theorem ct_X7_pays {l : Launch} {D : va_G} {cI cB : ClassId} {Z : (Nat → Nat) × (Nat → Nat)} {ad : Nat → Nat} {S : Mem} {a1 : Int} {a2 : Int} {r : Int} {S' : Mem} (h : f_X7_pays S a1 a2 = some (r, S')) : Ctr l D cI cB Z ad shsC yX7_pays cX7_pays 3 (some .int) 6 132 [.ref (ad 0), .int (i32 a1), .int (i32 a2)] S (some (.int (i32 r))) S' := by
  refine ctr_of (by decide +kernel) (Nat.le_of_ble_eq_true rfl) rfl ?_
  intro p e s m args below meth c A X
  unfold f_X7_pays at h
  refine go_aload_n (pc := 0) X 0 dX7_pays_0 rfl rfl ?_
  refine go_getr (pc := 1) X (fk := 3) sh7 rfl inT_X7 (by decide) fL_X7_32 rfl dX7_pays_1 ?_
  refine go_iload_n (pc := 4) X 1 dX7_pays_4 rfl rfl ?_
  obtain ⟨r1, h2, h⟩ := bind_some h
  refine go_callVi (pc := 5) X 1 [] (ct_X1_has bk5 h2) (shB bk5) rfl gg_X7_104 hd_X1_has ⟨Nat.le_of_ble_eq_true rfl, Nat.le_of_ble_eq_true rfl⟩ rfl rfl (Nat.le_of_ble_eq_true rfl) dX7_pays_5 ?_
  refine go_if_eq (pc := 8) X 30 dX7_pays_8 rfl (fun c3 => ?_) (fun c3 => ?_)
  · rw [if_pos c3] at h
    refine go_iconst (pc := 30) X dX7_pays_30 ?_
    exact go_iret (pc := 31) X h dX7_pays_31
  · rw [if_neg c3] at h
    refine go_iload_n (pc := 11) X 2 dX7_pays_11 rfl rfl ?_
    obtain ⟨r4, h5, h⟩ := bind_some h
    refine go_callSi (pc := 12) X 1 [] (ct_X7_isKind h5) gg_X7_151 hd_X7_isKind ⟨Nat.le_of_ble_eq_true rfl, Nat.le_of_ble_eq_true rfl⟩ rfl rfl (Nat.le_of_ble_eq_true rfl) dX7_pays_12 ?_
    refine go_if_eq (pc := 15) X 30 dX7_pays_15 rfl (fun c6 => ?_) (fun c6 => ?_)
    · rw [if_pos c6] at h
      refine go_iconst (pc := 30) X dX7_pays_30 ?_
      exact go_iret (pc := 31) X h dX7_pays_31
    · rw [if_neg c6] at h
      refine go_aload_n (pc := 18) X 0 dX7_pays_18 rfl rfl ?_
      obtain ⟨S7, h8, h⟩ := bind_some h
      refine go_callVr (pc := 19) X 0 [] (ct_X7_now h8) sh7 rfl gg_X7_154 hd_X7_now ⟨Nat.le_of_ble_eq_true rfl, Nat.le_of_ble_eq_true rfl⟩ rfl rfl (Nat.le_of_ble_eq_true rfl) dX7_pays_19 ?_
      refine go_iload_n (pc := 22) X 1 dX7_pays_22 rfl rfl ?_
      refine go_iload_n (pc := 23) X 2 dX7_pays_23 rfl rfl ?_
      obtain ⟨u9, h10, h⟩ := bind_some h
      refine go_callVi (pc := 24) X 2 [] (ct_X0_payment au4 h10) (shA au4) rfl gg_X7_210 hd_X0_payment ⟨Nat.le_of_ble_eq_true rfl, Nat.le_of_ble_eq_true rfl⟩ rfl rfl (Nat.le_of_ble_eq_true rfl) dX7_pays_24 ?_
      refine go_goto (pc := 27) X 31 dX7_pays_27 rfl ?_
      exact go_iret (pc := 31) X h dX7_pays_31
set_option maxRecDepth 100000 in
set_option maxHeartbeats 4000000 in
theorem ct_X7_gain {l : Launch} {D : va_G} {cI cB : ClassId} {Z : (Nat → Nat) × (Nat → Nat)} {ad : Nat → Nat} {S : Mem} {a1 : Int} {a2 : Int} {r : Int} {S' : Mem} (h : f_X7_gain S a1 a2 = some (r, S')) : Ctr l D cI cB Z ad shsC yX7_gain cX7_gain 3 (some .int) 6 138 [.ref (ad 0), .int (i32 a1), .int (i32 a2)] S (some (.int (i32 r))) S' := by
  refine ctr_of (by decide +kernel) (Nat.le_of_ble_eq_true rfl) rfl ?_
  intro p e s m args below meth c A X
  unfold f_X7_gain at h
  refine go_aload_n (pc := 0) X 0 dX7_gain_0 rfl rfl ?_
  refine go_getr (pc := 1) X (fk := 3) sh7 rfl inT_X7 (by decide) fL_X7_32 rfl dX7_gain_1 ?_
  refine go_iload_n (pc := 4) X 1 dX7_gain_4 rfl rfl ?_
  obtain ⟨r1, h2, h⟩ := bind_some h
  refine go_callVi (pc := 5) X 1 [] (ct_X1_has bk5 h2) (shB bk5) rfl gg_X7_104 hd_X1_has ⟨Nat.le_of_ble_eq_true rfl, Nat.le_of_ble_eq_true rfl⟩ rfl rfl (Nat.le_of_ble_eq_true rfl) dX7_gain_5 ?_
  refine go_if_eq (pc := 8) X 30 dX7_gain_8 rfl (fun c3 => ?_) (fun c3 => ?_)
  · rw [if_pos c3] at h
    refine go_ldc (pc := 30) X (-100000) cn_X7_216 rfl dX7_gain_30 ?_
    exact go_iret (pc := 32) X h dX7_gain_32
  · rw [if_neg c3] at h
    refine go_iload_n (pc := 11) X 2 dX7_gain_11 rfl rfl ?_
    obtain ⟨r4, h5, h⟩ := bind_some h
    refine go_callSi (pc := 12) X 1 [] (ct_X7_isKind h5) gg_X7_151 hd_X7_isKind ⟨Nat.le_of_ble_eq_true rfl, Nat.le_of_ble_eq_true rfl⟩ rfl rfl (Nat.le_of_ble_eq_true rfl) dX7_gain_12 ?_
    refine go_if_eq (pc := 15) X 30 dX7_gain_15 rfl (fun c6 => ?_) (fun c6 => ?_)
    · rw [if_pos c6] at h
      refine go_ldc (pc := 30) X (-100000) cn_X7_216 rfl dX7_gain_30 ?_
      exact go_iret (pc := 32) X h dX7_gain_32
    · rw [if_neg c6] at h
      refine go_aload_n (pc := 18) X 0 dX7_gain_18 rfl rfl ?_
      obtain ⟨S7, h8, h⟩ := bind_some h
      refine go_callVr (pc := 19) X 0 [] (ct_X7_now h8) sh7 rfl gg_X7_154 hd_X7_now ⟨Nat.le_of_ble_eq_true rfl, Nat.le_of_ble_eq_true rfl⟩ rfl rfl (Nat.le_of_ble_eq_true rfl) dX7_gain_19 ?_
      refine go_iload_n (pc := 22) X 1 dX7_gain_22 rfl rfl ?_
      refine go_iload_n (pc := 23) X 2 dX7_gain_23 rfl rfl ?_
      obtain ⟨u9, h10, h⟩ := bind_some h
      refine go_callVi (pc := 24) X 2 [] (ct_X0_gainOf au4 h10) (shA au4) rfl gg_X7_213 hd_X0_gainOf ⟨Nat.le_of_ble_eq_true rfl, Nat.le_of_ble_eq_true rfl⟩ rfl rfl (Nat.le_of_ble_eq_true rfl) dX7_gain_24 ?_
      refine go_goto (pc := 27) X 32 dX7_gain_27 rfl ?_
      exact go_iret (pc := 32) X h dX7_gain_32
set_option maxRecDepth 100000 in
set_option maxHeartbeats 4000000 in
theorem ct_X7_at {l : Launch} {D : va_G} {cI cB : ClassId} {Z : (Nat → Nat) × (Nat → Nat)} {ad : Nat → Nat} {S : Mem} {a1 : Int} {a2 : Int} {a3 : Int} {r : Int} {S' : Mem} (h : f_X7_at S a1 a2 a3 = some (r, S')) : Ctr l D cI cB Z ad shsC yX7_at cX7_at 4 (some .int) 6 132 [.ref (ad 0), .int (i32 a1), .int (i32 a2), .int (i32 a3)] S (some (.int (i32 r))) S' := by
  refine ctr_of (by decide +kernel) (Nat.le_of_ble_eq_true rfl) rfl ?_
  intro p e s m args below meth c A X
  unfold f_X7_at at h
  refine go_aload_n (pc := 0) X 0 dX7_at_0 rfl rfl ?_
  refine go_getr (pc := 1) X (fk := 3) sh7 rfl inT_X7 (by decide) fL_X7_32 rfl dX7_at_1 ?_
  refine go_iload_n (pc := 4) X 1 dX7_at_4 rfl rfl ?_
  obtain ⟨r1, h2, h⟩ := bind_some h
  refine go_callVi (pc := 5) X 1 [] (ct_X1_has bk5 h2) (shB bk5) rfl gg_X7_104 hd_X1_has ⟨Nat.le_of_ble_eq_true rfl, Nat.le_of_ble_eq_true rfl⟩ rfl rfl (Nat.le_of_ble_eq_true rfl) dX7_at_5 ?_
  refine go_if_eq (pc := 8) X 18 dX7_at_8 rfl (fun c3 => ?_) (fun c3 => ?_)
  · rw [if_pos c3] at h
    refine go_iconst (pc := 18) X dX7_at_18 ?_
    exact go_iret (pc := 19) X h dX7_at_19
  · rw [if_neg c3] at h
    refine go_iload_n (pc := 11) X 2 dX7_at_11 rfl rfl ?_
    obtain ⟨r4, h5, h⟩ := bind_some h
    refine go_callSi (pc := 12) X 1 [] (ct_X7_isPrice h5) gg_X7_110 hd_X7_isPrice ⟨Nat.le_of_ble_eq_true rfl, Nat.le_of_ble_eq_true rfl⟩ rfl rfl (Nat.le_of_ble_eq_true rfl) dX7_at_12 ?_
    refine go_if_ne (pc := 15) X 20 dX7_at_15 rfl (fun c6 => ?_) (fun c6 => ?_)
    · rw [if_neg c6] at h
      refine go_iload_n (pc := 20) X 3 dX7_at_20 rfl rfl ?_
      by_cases c7 : eqb a3 0 = true
      · rw [if_pos c7] at h
        refine go_tab (pc := 21) X 52 dX7_at_21 c7 ⟨by decide, by decide⟩ ⟨by decide, by decide⟩ rfl rfl ?_
        refine go_aload_n (pc := 52) X 0 dX7_at_52 rfl rfl ?_
        refine go_getr (pc := 53) X (fk := 3) sh7 rfl inT_X7 (by decide) fL_X7_32 rfl dX7_at_53 ?_
        refine go_iload_n (pc := 56) X 1 dX7_at_56 rfl rfl ?_
        refine go_iload_n (pc := 57) X 2 dX7_at_57 rfl rfl ?_
        obtain ⟨r8, h9, h⟩ := bind_some h
        refine go_callVi (pc := 58) X 2 [] (ct_X1_wantsOf bk5 h9) (shB bk5) rfl gg_X7_217 hd_X1_wantsOf ⟨Nat.le_of_ble_eq_true rfl, Nat.le_of_ble_eq_true rfl⟩ rfl rfl (Nat.le_of_ble_eq_true rfl) dX7_at_58 ?_
        exact go_iret (pc := 61) X h dX7_at_61
      · rw [if_neg c7] at h
        by_cases c10 : eqb a3 1 = true
        · rw [if_pos c10] at h
          refine go_tab (pc := 21) X 62 dX7_at_21 c10 ⟨by decide, by decide⟩ ⟨by decide, by decide⟩ rfl rfl ?_
          refine go_aload_n (pc := 62) X 0 dX7_at_62 rfl rfl ?_
          refine go_getr (pc := 63) X (fk := 3) sh7 rfl inT_X7 (by decide) fL_X7_32 rfl dX7_at_63 ?_
          refine go_iload_n (pc := 66) X 1 dX7_at_66 rfl rfl ?_
          refine go_iload_n (pc := 67) X 2 dX7_at_67 rfl rfl ?_
          obtain ⟨r11, h12, h⟩ := bind_some h
          refine go_callVi (pc := 68) X 2 [] (ct_X1_takesOf bk5 h12) (shB bk5) rfl gg_X7_220 hd_X1_takesOf ⟨Nat.le_of_ble_eq_true rfl, Nat.le_of_ble_eq_true rfl⟩ rfl rfl (Nat.le_of_ble_eq_true rfl) dX7_at_68 ?_
          exact go_iret (pc := 71) X h dX7_at_71
        · rw [if_neg c10] at h
          by_cases c13 : eqb a3 2 = true
          · rw [if_pos c13] at h
            refine go_tab (pc := 21) X 72 dX7_at_21 c13 ⟨by decide, by decide⟩ ⟨by decide, by decide⟩ rfl rfl ?_
            refine go_aload_n (pc := 72) X 0 dX7_at_72 rfl rfl ?_
            refine go_getr (pc := 73) X (fk := 3) sh7 rfl inT_X7 (by decide) fL_X7_32 rfl dX7_at_73 ?_
            refine go_iload_n (pc := 76) X 1 dX7_at_76 rfl rfl ?_
            refine go_iload_n (pc := 77) X 2 dX7_at_77 rfl rfl ?_
            obtain ⟨r14, h15, h⟩ := bind_some h
            refine go_callVi (pc := 78) X 2 [] (ct_X1_freeFor bk5 h15) (shB bk5) rfl gg_X7_223 hd_X1_freeFor ⟨Nat.le_of_ble_eq_true rfl, Nat.le_of_ble_eq_true rfl⟩ rfl rfl (Nat.le_of_ble_eq_true rfl) dX7_at_78 ?_
            exact go_iret (pc := 81) X h dX7_at_81
          · rw [if_neg c13] at h
            by_cases c16 : eqb a3 3 = true
            · rw [if_pos c16] at h
              refine go_tab (pc := 21) X 82 dX7_at_21 c16 ⟨by decide, by decide⟩ ⟨by decide, by decide⟩ rfl rfl ?_
              refine go_aload_n (pc := 82) X 0 dX7_at_82 rfl rfl ?_
              obtain ⟨S17, h18, h⟩ := bind_some h
              refine go_callVr (pc := 83) X 0 [] (ct_X7_now h18) sh7 rfl gg_X7_154 hd_X7_now ⟨Nat.le_of_ble_eq_true rfl, Nat.le_of_ble_eq_true rfl⟩ rfl rfl (Nat.le_of_ble_eq_true rfl) dX7_at_83 ?_
              refine go_iload_n (pc := 86) X 1 dX7_at_86 rfl rfl ?_
              refine go_iload_n (pc := 87) X 2 dX7_at_87 rfl rfl ?_
              obtain ⟨r19, h20, h⟩ := bind_some h
              refine go_callVi (pc := 88) X 2 [] (ct_X0_clinchedBy au4 h20) (shA au4) rfl gg_X7_226 hd_X0_clinchedBy ⟨Nat.le_of_ble_eq_true rfl, Nat.le_of_ble_eq_true rfl⟩ rfl rfl (Nat.le_of_ble_eq_true rfl) dX7_at_88 ?_
              exact go_iret (pc := 91) X h dX7_at_91
            · rw [if_neg c16] at h
              have nc7 : ¬ (0 : Int) = (i32 a3).toInt := fun z => c7 ((eqb_toInt (by decide) (by decide)).mpr z.symm)
              have nc10 : ¬ (1 : Int) = (i32 a3).toInt := fun z => c10 ((eqb_toInt (by decide) (by decide)).mpr z.symm)
              have nc13 : ¬ (2 : Int) = (i32 a3).toInt := fun z => c13 ((eqb_toInt (by decide) (by decide)).mpr z.symm)
              have nc16 : ¬ (3 : Int) = (i32 a3).toInt := fun z => c16 ((eqb_toInt (by decide) (by decide)).mpr z.symm)
              refine go_tabx (pc := 21) X 92 dX7_at_21 (by omega) rfl ?_
              refine go_iconst (pc := 92) X dX7_at_92 ?_
              exact go_iret (pc := 93) X h dX7_at_93
    · rw [if_pos c6] at h
      refine go_iconst (pc := 18) X dX7_at_18 ?_
      exact go_iret (pc := 19) X h dX7_at_19
set_option maxRecDepth 100000 in
set_option maxHeartbeats 4000000 in
theorem ct_X7_result {l : Launch} {D : va_G} {cI cB : ClassId} {Z : (Nat → Nat) × (Nat → Nat)} {ad : Nat → Nat} {S : Mem} {a1 : Int} {r : Int} {S' : Mem} (h : f_X7_result S a1 = some (r, S')) : Ctr l D cI cB Z ad shsC yX7_result cX7_result 2 (some .int) 6 132 [.ref (ad 0), .int (i32 a1)] S (some (.int (i32 r))) S' := by
  refine ctr_of (by decide +kernel) (Nat.le_of_ble_eq_true rfl) rfl ?_
  intro p e s m args below meth c A X
  unfold f_X7_result at h
  refine go_aload_n (pc := 0) X 0 dX7_result_0 rfl rfl ?_
  obtain ⟨S1, h2, h⟩ := bind_some h
  refine go_callVr (pc := 1) X 0 [] (ct_X7_now h2) sh7 rfl gg_X7_154 hd_X7_now ⟨Nat.le_of_ble_eq_true rfl, Nat.le_of_ble_eq_true rfl⟩ rfl rfl (Nat.le_of_ble_eq_true rfl) dX7_result_1 ?_
  refine go_iload_n (pc := 4) X 1 dX7_result_4 rfl rfl ?_
  obtain ⟨u3, h4, h⟩ := bind_some h
  refine go_callVi (pc := 5) X 1 [] (ct_X0_tell au4 h4) (shA au4) rfl gg_X7_229 hd_X0_tell ⟨Nat.le_of_ble_eq_true rfl, Nat.le_of_ble_eq_true rfl⟩ rfl rfl (Nat.le_of_ble_eq_true rfl) dX7_result_5 ?_
  exact go_iret (pc := 8) X h dX7_result_8
set_option maxRecDepth 100000 in
set_option maxHeartbeats 4000000 in
theorem ct_X7_paid {l : Launch} {D : va_G} {cI cB : ClassId} {Z : (Nat → Nat) × (Nat → Nat)} {ad : Nat → Nat} {S : Mem} {a1 : Int} {r : Int} {S' : Mem} (h : f_X7_paid S a1 = some (r, S')) : Ctr l D cI cB Z ad shsC yX7_paid cX7_paid 2 (some .int) 6 139 [.ref (ad 0), .int (i32 a1)] S (some (.int (i32 r))) S' := by
  refine ctr_of (by decide +kernel) (Nat.le_of_ble_eq_true rfl) rfl ?_
  intro p e s m args below meth c A X
  unfold f_X7_paid at h
  refine go_iload_n (pc := 0) X 1 dX7_paid_0 rfl rfl ?_
  obtain ⟨r1, h2, h⟩ := bind_some h
  refine go_callSi (pc := 1) X 1 [] (ct_X7_isKind h2) gg_X7_151 hd_X7_isKind ⟨Nat.le_of_ble_eq_true rfl, Nat.le_of_ble_eq_true rfl⟩ rfl rfl (Nat.le_of_ble_eq_true rfl) dX7_paid_1 ?_
  refine go_if_eq (pc := 4) X 18 dX7_paid_4 rfl (fun c3 => ?_) (fun c3 => ?_)
  · rw [if_pos c3] at h
    refine go_iconst (pc := 18) X dX7_paid_18 ?_
    exact go_iret (pc := 19) X h dX7_paid_19
  · rw [if_neg c3] at h
    refine go_aload_n (pc := 7) X 0 dX7_paid_7 rfl rfl ?_
    obtain ⟨S4, h5, h⟩ := bind_some h
    refine go_callVr (pc := 8) X 0 [] (ct_X7_now h5) sh7 rfl gg_X7_154 hd_X7_now ⟨Nat.le_of_ble_eq_true rfl, Nat.le_of_ble_eq_true rfl⟩ rfl rfl (Nat.le_of_ble_eq_true rfl) dX7_paid_8 ?_
    refine go_iload_n (pc := 11) X 1 dX7_paid_11 rfl rfl ?_
    obtain ⟨u6, h7, h⟩ := bind_some h
    refine go_callVi (pc := 12) X 1 [] (ct_X0_paidByAll au4 h7) (shA au4) rfl gg_X7_164 hd_X0_paidByAll ⟨Nat.le_of_ble_eq_true rfl, Nat.le_of_ble_eq_true rfl⟩ rfl rfl (Nat.le_of_ble_eq_true rfl) dX7_paid_12 ?_
    refine go_goto (pc := 15) X 19 dX7_paid_15 rfl ?_
    exact go_iret (pc := 19) X h dX7_paid_19
set_option maxRecDepth 100000 in
set_option maxHeartbeats 4000000 in
theorem ct_X7_wanted {l : Launch} {D : va_G} {cI cB : ClassId} {Z : (Nat → Nat) × (Nat → Nat)} {ad : Nat → Nat} {S : Mem} {a1 : Int} {r : Int} (h : f_X7_wanted S a1 = some r) : Ctr l D cI cB Z ad shsC yX7_wanted cX7_wanted 2 (some .int) 4 90 [.ref (ad 0), .int (i32 a1)] S (some (.int (i32 r))) S := by
  refine ctr_of (by decide +kernel) (Nat.le_of_ble_eq_true rfl) rfl ?_
  intro p e s m args below meth c A X
  unfold f_X7_wanted at h
  refine go_iload_n (pc := 0) X 1 dX7_wanted_0 rfl rfl ?_
  obtain ⟨r1, h2, h⟩ := bind_some h
  refine go_callSi (pc := 1) X 1 [] (ct_X7_isPrice h2) gg_X7_110 hd_X7_isPrice ⟨Nat.le_of_ble_eq_true rfl, Nat.le_of_ble_eq_true rfl⟩ rfl rfl (Nat.le_of_ble_eq_true rfl) dX7_wanted_1 ?_
  refine go_if_eq (pc := 4) X 18 dX7_wanted_4 rfl (fun c3 => ?_) (fun c3 => ?_)
  · rw [if_pos c3] at h
    refine go_iconst (pc := 18) X dX7_wanted_18 ?_
    exact go_iretP (pc := 19) X h dX7_wanted_19
  · rw [if_neg c3] at h
    refine go_aload_n (pc := 7) X 0 dX7_wanted_7 rfl rfl ?_
    refine go_getr (pc := 8) X (fk := 3) sh7 rfl inT_X7 (by decide) fL_X7_32 rfl dX7_wanted_8 ?_
    refine go_iload_n (pc := 11) X 1 dX7_wanted_11 rfl rfl ?_
    obtain ⟨r4, h5, h⟩ := bind_some h
    refine go_callVi (pc := 12) X 1 [] (ct_X1_wantsOfAll bk5 h5) (shB bk5) rfl gg_X7_232 hd_X1_wantsOfAll ⟨Nat.le_of_ble_eq_true rfl, Nat.le_of_ble_eq_true rfl⟩ rfl rfl (Nat.le_of_ble_eq_true rfl) dX7_wanted_12 ?_
    refine go_goto (pc := 15) X 19 dX7_wanted_15 rfl ?_
    exact go_iretP (pc := 19) X h dX7_wanted_19
set_option maxRecDepth 100000 in
set_option maxHeartbeats 4000000 in
theorem ct_X7_sold {l : Launch} {D : va_G} {cI cB : ClassId} {Z : (Nat → Nat) × (Nat → Nat)} {ad : Nat → Nat} {S : Mem} {a1 : Int} {a2 : Int} {r : Int} {S' : Mem} (h : f_X7_sold S a1 a2 = some (r, S')) : Ctr l D cI cB Z ad shsC yX7_sold cX7_sold 4 (some .int) 6 132 [.ref (ad 0), .int (i32 a1), .int (i32 a2)] S (some (.int (i32 r))) S' := by
  refine ctr_of (by decide +kernel) (Nat.le_of_ble_eq_true rfl) rfl ?_
  intro p e s m args below meth c A X
  unfold f_X7_sold at h
  refine go_aload_n (pc := 0) X 0 dX7_sold_0 rfl rfl ?_
  obtain ⟨S1, h2, h⟩ := bind_some h
  refine go_callVr (pc := 1) X 0 [] (ct_X7_now h2) sh7 rfl gg_X7_154 hd_X7_now ⟨Nat.le_of_ble_eq_true rfl, Nat.le_of_ble_eq_true rfl⟩ rfl rfl (Nat.le_of_ble_eq_true rfl) dX7_sold_1 ?_
  refine go_astore_n (pc := 4) X [1, 2, 3, 0] (Ls' := [(0, .ref (ad 0)), (1, .int (i32 a1)), (2, .int (i32 a2)), (3, .ref (ad 4))]) dX7_sold_4 rfl (by decide) rfl ?_
  refine go_iload_n (pc := 5) X 1 dX7_sold_5 rfl rfl ?_
  refine go_if_lt (pc := 6) X 17 dX7_sold_6 rfl (fun c3 => ?_) (fun c3 => ?_)
  · rw [if_pos c3] at h
    refine go_iconst (pc := 17) X dX7_sold_17 ?_
    exact go_iret (pc := 18) X h dX7_sold_18
  · rw [if_neg c3] at h
    refine go_iload_n (pc := 9) X 1 dX7_sold_9 rfl rfl ?_
    refine go_aload_n (pc := 10) X 3 dX7_sold_10 rfl rfl ?_
    refine go_get (pc := 11) X (fk := 2) (fi := 2) rfl (shA au4) rfl inT_X0 (by decide) fL_X7_161 rfl dX7_sold_11 ?_
    refine go_icmp_lt (pc := 14) X 19 dX7_sold_14 rfl (fun c4 => ?_) (fun c4 => ?_)
    · rw [if_pos c4] at h
      refine go_iload_n (pc := 19) X 2 dX7_sold_19 rfl rfl ?_
      by_cases c5 : eqb a2 0 = true
      · rw [if_pos c5] at h
        refine go_look (pc := 20) X 48 dX7_sold_20 rfl (by rw [(eqb_toInt (by decide) (by decide)).mp c5]) rfl ?_
        refine go_aload_n (pc := 48) X 3 dX7_sold_48 rfl rfl ?_
        refine go_getr (pc := 49) X (fk := 7) (shA au4) rfl inT_X0 (by decide) fL_X7_235 rfl dX7_sold_49 ?_
        refine go_iload_n (pc := 52) X 1 dX7_sold_52 rfl rfl ?_
        obtain ⟨g6, h⟩ := gd_some h
        refine go_iald (pc := 53) X (shA10 au4) (Nat.le_of_ble_eq_true rfl) rfl g6 dX7_sold_53 ?_
        exact go_iret (pc := 54) X h dX7_sold_54
      · rw [if_neg c5] at h
        by_cases c7 : eqb a2 1 = true
        · rw [if_pos c7] at h
          refine go_look (pc := 20) X 55 dX7_sold_20 rfl (by rw [(eqb_toInt (by decide) (by decide)).mp c7]) rfl ?_
          refine go_aload_n (pc := 55) X 3 dX7_sold_55 rfl rfl ?_
          refine go_getr (pc := 56) X (fk := 8) (shA au4) rfl inT_X0 (by decide) fL_X7_238 rfl dX7_sold_56 ?_
          refine go_iload_n (pc := 59) X 1 dX7_sold_59 rfl rfl ?_
          obtain ⟨g8, h⟩ := gd_some h
          refine go_iald (pc := 60) X (shA11 au4) (Nat.le_of_ble_eq_true rfl) rfl g8 dX7_sold_60 ?_
          exact go_iret (pc := 61) X h dX7_sold_61
        · rw [if_neg c7] at h
          have nc5 : ¬ (0 : Int) = (i32 a2).toInt := fun z => c5 ((eqb_toInt (by decide) (by decide)).mpr z.symm)
          have nc7 : ¬ (1 : Int) = (i32 a2).toInt := fun z => c7 ((eqb_toInt (by decide) (by decide)).mpr z.symm)
          refine go_look (pc := 20) X 62 dX7_sold_20 rfl (by simp only [Op.lookupswitch.offset, if_neg nc5, if_neg nc7]; rfl) rfl ?_
          refine go_iconst (pc := 62) X dX7_sold_62 ?_
          exact go_iret (pc := 63) X h dX7_sold_63
    · rw [if_neg c4] at h
      refine go_iconst (pc := 17) X dX7_sold_17 ?_
      exact go_iret (pc := 18) X h dX7_sold_18
set_option maxRecDepth 100000 in
set_option maxHeartbeats 4000000 in
theorem ct_X7_worth {l : Launch} {D : va_G} {cI cB : ClassId} {Z : (Nat → Nat) × (Nat → Nat)} {ad : Nat → Nat} {S : Mem} {a1 : Int} {a2 : Int} {r : Int} {S' : Mem} (h : f_X7_worth S a1 a2 = some (r, S')) : Ctr l D cI cB Z ad shsC yX7_worth cX7_worth 3 (some .int) 3 71 [.ref (ad 0), .int (i32 a1), .int (i32 a2)] S (some (.int (i32 r))) S' := by
  refine ctr_of (by decide +kernel) (Nat.le_of_ble_eq_true rfl) rfl ?_
  intro p e s m args below meth c A X
  unfold f_X7_worth at h
  refine go_iload_n (pc := 0) X 1 dX7_worth_0 rfl rfl ?_
  refine go_if_lt (pc := 1) X 25 dX7_worth_1 rfl (fun c1 => ?_) (fun c1 => ?_)
  · rw [if_pos c1] at h
    refine go_iconst (pc := 25) X dX7_worth_25 ?_
    exact go_iret (pc := 26) X h dX7_worth_26
  · rw [if_neg c1] at h
    refine go_iload_n (pc := 4) X 1 dX7_worth_4 rfl rfl ?_
    refine go_aload_n (pc := 5) X 0 dX7_worth_5 rfl rfl ?_
    refine go_getr (pc := 6) X (fk := 3) sh7 rfl inT_X7 (by decide) fL_X7_32 rfl dX7_worth_6 ?_
    obtain ⟨r2, h3, h⟩ := bind_some h
    refine go_callVi (pc := 9) X 0 [.int (i32 a1)] (ct_X1_everyone bk5 h3) (shB bk5) rfl gg_X7_241 hd_X1_everyone ⟨Nat.le_of_ble_eq_true rfl, Nat.le_of_ble_eq_true rfl⟩ rfl rfl (Nat.le_of_ble_eq_true rfl) dX7_worth_9 ?_
    refine go_icmp_gt (pc := 12) X 25 dX7_worth_12 rfl (fun c4 => ?_) (fun c4 => ?_)
    · rw [if_pos c4] at h
      refine go_iconst (pc := 25) X dX7_worth_25 ?_
      exact go_iret (pc := 26) X h dX7_worth_26
    · rw [if_neg c4] at h
      refine go_iload_n (pc := 15) X 2 dX7_worth_15 rfl rfl ?_
      refine go_if_lt (pc := 16) X 25 dX7_worth_16 rfl (fun c5 => ?_) (fun c5 => ?_)
      · rw [if_pos c5] at h
        refine go_iconst (pc := 25) X dX7_worth_25 ?_
        exact go_iret (pc := 26) X h dX7_worth_26
      · rw [if_neg c5] at h
        refine go_iload_n (pc := 19) X 2 dX7_worth_19 rfl rfl ?_
        refine go_bipush (pc := 20) X dX7_worth_20 (by decide) (by decide) ?_
        refine go_icmp_le (pc := 22) X 27 dX7_worth_22 rfl (fun c6 => ?_) (fun c6 => ?_)
        · rw [if_neg c6] at h
          refine go_aload_n (pc := 27) X 0 dX7_worth_27 rfl rfl ?_
          refine go_getr (pc := 28) X (fk := 3) sh7 rfl inT_X7 (by decide) fL_X7_32 rfl dX7_worth_28 ?_
          refine go_iload_n (pc := 31) X 1 dX7_worth_31 rfl rfl ?_
          refine go_iload_n (pc := 32) X 2 dX7_worth_32 rfl rfl ?_
          obtain ⟨u7, h8, h⟩ := bind_some h
          refine go_callVi (pc := 33) X 2 [] (ct_X1_worthTo bk5 h8) (shB bk5) rfl gg_X7_244 hd_X1_worthTo ⟨Nat.le_of_ble_eq_true rfl, Nat.le_of_ble_eq_true rfl⟩ rfl rfl (Nat.le_of_ble_eq_true rfl) dX7_worth_33 ?_
          exact go_iret (pc := 36) X h dX7_worth_36
        · rw [if_pos c6] at h
          refine go_iconst (pc := 25) X dX7_worth_25 ?_
          exact go_iret (pc := 26) X h dX7_worth_26
set_option maxRecDepth 100000 in
set_option maxHeartbeats 4000000 in
theorem ct_X7_clinch {l : Launch} {D : va_G} {cI cB : ClassId} {Z : (Nat → Nat) × (Nat → Nat)} {ad : Nat → Nat} {S : Mem} {a1 : Int} {a2 : Int} {a3 : Int} {r : Int} {S' : Mem} (h : f_X7_clinch S a1 a2 a3 = some (r, S')) : Ctr l D cI cB Z ad shsC yX7_clinch cX7_clinch 4 (some .int) 6 132 [.ref (ad 0), .int (i32 a1), .int (i32 a2), .int (i32 a3)] S (some (.int (i32 r))) S' := by
  refine ctr_of (by decide +kernel) (Nat.le_of_ble_eq_true rfl) rfl ?_
  intro p e s m args below meth c A X
  unfold f_X7_clinch at h
  refine go_aload_n (pc := 0) X 0 dX7_clinch_0 rfl rfl ?_
  refine go_getr (pc := 1) X (fk := 3) sh7 rfl inT_X7 (by decide) fL_X7_32 rfl dX7_clinch_1 ?_
  refine go_iload_n (pc := 4) X 1 dX7_clinch_4 rfl rfl ?_
  obtain ⟨r1, h2, h⟩ := bind_some h
  refine go_callVi (pc := 5) X 1 [] (ct_X1_has bk5 h2) (shB bk5) rfl gg_X7_104 hd_X1_has ⟨Nat.le_of_ble_eq_true rfl, Nat.le_of_ble_eq_true rfl⟩ rfl rfl (Nat.le_of_ble_eq_true rfl) dX7_clinch_5 ?_
  refine go_if_eq (pc := 8) X 15 dX7_clinch_8 rfl (fun c3 => ?_) (fun c3 => ?_)
  · rw [if_pos c3] at h
    refine go_iconst (pc := 15) X dX7_clinch_15 ?_
    exact go_iret (pc := 16) X h dX7_clinch_16
  · rw [if_neg c3] at h
    refine go_iload_n (pc := 11) X 2 dX7_clinch_11 rfl rfl ?_
    refine go_if_ge (pc := 12) X 17 dX7_clinch_12 rfl (fun c4 => ?_) (fun c4 => ?_)
    · rw [if_neg c4] at h
      refine go_iload_n (pc := 17) X 3 dX7_clinch_17 rfl rfl ?_
      by_cases c5 : eqb a3 0 = true
      · rw [if_pos c5] at h
        refine go_look (pc := 18) X 44 dX7_clinch_18 rfl (by rw [(eqb_toInt (by decide) (by decide)).mp c5]) rfl ?_
        refine go_aload_n (pc := 44) X 0 dX7_clinch_44 rfl rfl ?_
        obtain ⟨S6, h7, h⟩ := bind_some h
        refine go_callVr (pc := 45) X 0 [] (ct_X7_now h7) sh7 rfl gg_X7_154 hd_X7_now ⟨Nat.le_of_ble_eq_true rfl, Nat.le_of_ble_eq_true rfl⟩ rfl rfl (Nat.le_of_ble_eq_true rfl) dX7_clinch_45 ?_
        refine go_iload_n (pc := 48) X 1 dX7_clinch_48 rfl rfl ?_
        refine go_iload_n (pc := 49) X 2 dX7_clinch_49 rfl rfl ?_
        obtain ⟨r8, h9, h⟩ := bind_some h
        refine go_callVi (pc := 50) X 2 [] (ct_X0_clinchPrice au4 h9) (shA au4) rfl gg_X7_247 hd_X0_clinchPrice ⟨Nat.le_of_ble_eq_true rfl, Nat.le_of_ble_eq_true rfl⟩ rfl rfl (Nat.le_of_ble_eq_true rfl) dX7_clinch_50 ?_
        exact go_iret (pc := 53) X h dX7_clinch_53
      · rw [if_neg c5] at h
        by_cases c10 : eqb a3 1 = true
        · rw [if_pos c10] at h
          refine go_look (pc := 18) X 54 dX7_clinch_18 rfl (by rw [(eqb_toInt (by decide) (by decide)).mp c10]) rfl ?_
          refine go_aload_n (pc := 54) X 0 dX7_clinch_54 rfl rfl ?_
          obtain ⟨S11, h12, h⟩ := bind_some h
          refine go_callVr (pc := 55) X 0 [] (ct_X7_now h12) sh7 rfl gg_X7_154 hd_X7_now ⟨Nat.le_of_ble_eq_true rfl, Nat.le_of_ble_eq_true rfl⟩ rfl rfl (Nat.le_of_ble_eq_true rfl) dX7_clinch_55 ?_
          refine go_iload_n (pc := 58) X 1 dX7_clinch_58 rfl rfl ?_
          refine go_iload_n (pc := 59) X 2 dX7_clinch_59 rfl rfl ?_
          obtain ⟨r13, h14, h⟩ := bind_some h
          refine go_callVi (pc := 60) X 2 [] (ct_X0_clinchSize au4 h14) (shA au4) rfl gg_X7_250 hd_X0_clinchSize ⟨Nat.le_of_ble_eq_true rfl, Nat.le_of_ble_eq_true rfl⟩ rfl rfl (Nat.le_of_ble_eq_true rfl) dX7_clinch_60 ?_
          exact go_iret (pc := 63) X h dX7_clinch_63
        · rw [if_neg c10] at h
          have nc5 : ¬ (0 : Int) = (i32 a3).toInt := fun z => c5 ((eqb_toInt (by decide) (by decide)).mpr z.symm)
          have nc10 : ¬ (1 : Int) = (i32 a3).toInt := fun z => c10 ((eqb_toInt (by decide) (by decide)).mpr z.symm)
          refine go_look (pc := 18) X 64 dX7_clinch_18 rfl (by simp only [Op.lookupswitch.offset, if_neg nc5, if_neg nc10]; rfl) rfl ?_
          refine go_iconst (pc := 64) X dX7_clinch_64 ?_
          exact go_iret (pc := 65) X h dX7_clinch_65
    · rw [if_pos c4] at h
      refine go_iconst (pc := 15) X dX7_clinch_15 ?_
      exact go_iret (pc := 16) X h dX7_clinch_16
set_option maxRecDepth 100000 in
set_option maxHeartbeats 4000000 in
theorem ct_X7_dearest {l : Launch} {D : va_G} {cI cB : ClassId} {Z : (Nat → Nat) × (Nat → Nat)} {ad : Nat → Nat} {S : Mem} {a1 : Int} {r : Int} {S' : Mem} (h : f_X7_dearest S a1 = some (r, S')) : Ctr l D cI cB Z ad shsC yX7_dearest cX7_dearest 7 (some .int) 6 132 [.ref (ad 0), .int (i32 a1)] S (some (.int (i32 r))) S' := by
  refine ctr_of (by decide +kernel) (Nat.le_of_ble_eq_true rfl) rfl ?_
  intro p e s m args below meth c A X
  unfold f_X7_dearest at h
  refine go_iload_n (pc := 0) X 1 dX7_dearest_0 rfl rfl ?_
  obtain ⟨r1, h2, h⟩ := bind_some h
  refine go_callSi (pc := 1) X 1 [] (ct_X7_isKind h2) gg_X7_151 hd_X7_isKind ⟨Nat.le_of_ble_eq_true rfl, Nat.le_of_ble_eq_true rfl⟩ rfl rfl (Nat.le_of_ble_eq_true rfl) dX7_dearest_1 ?_
  refine go_if_ne (pc := 4) X 9 dX7_dearest_4 rfl (fun c3 => ?_) (fun c3 => ?_)
  · rw [if_neg c3] at h
    refine go_aload_n (pc := 9) X 0 dX7_dearest_9 rfl rfl ?_
    obtain ⟨S4, h5, h⟩ := bind_some h
    refine go_callVr (pc := 10) X 0 [] (ct_X7_now h5) sh7 rfl gg_X7_154 hd_X7_now ⟨Nat.le_of_ble_eq_true rfl, Nat.le_of_ble_eq_true rfl⟩ rfl rfl (Nat.le_of_ble_eq_true rfl) dX7_dearest_10 ?_
    refine go_astore_n (pc := 13) X [1, 2, 0] (Ls' := [(0, .ref (ad 0)), (1, .int (i32 a1)), (2, .ref (ad 4))]) dX7_dearest_13 rfl (by decide) rfl ?_
    refine go_bipush (pc := 14) X dX7_dearest_14 (by decide) (by decide) ?_
    refine go_istore_n (pc := 16) X [1, 2, 3, 0] (Ls' := [(0, .ref (ad 0)), (1, .int (i32 a1)), (2, .ref (ad 4)), (3, .int (i32 (-2)))]) dX7_dearest_16 rfl (by decide) rfl ?_
    refine go_ldc (pc := 17) X (-1000000) cn_X7_253 rfl dX7_dearest_17 ?_
    refine go_istore (pc := 19) X [1, 2, 3, 4, 0] (Ls' := [(0, .ref (ad 0)), (1, .int (i32 a1)), (2, .ref (ad 4)), (3, .int (i32 (-2))), (4, .int (i32 (-1000000)))]) dX7_dearest_19 (by decide) rfl ?_
    refine go_iconst (pc := 21) X dX7_dearest_21 ?_
    refine go_istore (pc := 22) X [1, 2, 3, 4, 5, 0] (Ls' := [(0, .ref (ad 0)), (1, .int (i32 a1)), (2, .ref (ad 4)), (3, .int (i32 (-2))), (4, .int (i32 (-1000000))), (5, .int (i32 0))]) dX7_dearest_22 (by decide) rfl ?_
    obtain ⟨r13, h14, h⟩ := bind_some h
    have H15 : ∀ (n : Nat) (t16 : Int × Int × Int × Mem) (z17 : Int × Mem), lp (f_X7_dearest_l24 a1) n t16 = some z17 → Go p l e { frames := 6, cells := 0, slots := 0, locals := 132 } s m args below meth c 7 D cI cB ad shsC A (MQ below (cQ D cI cB ad shsC (some (.int (i32 r))) S' A) args s 0 0 A) 65 [(3, .int (i32 z17.1))] [] z17.2 → Go p l e { frames := 6, cells := 0, slots := 0, locals := 132 } s m args below meth c 7 D cI cB ad shsC A (MQ below (cQ D cI cB ad shsC (some (.int (i32 r))) S' A) args s 0 0 A) 24 [(0, .ref (ad 0)), (1, .int (i32 a1)), (2, .ref (ad 4)), (3, .int (i32 t16.1)), (4, .int (i32 t16.2.1)), (5, .int (i32 t16.2.2.1))] [] t16.2.2.2 := by
      refine lp_go (fun t16 : Int × Int × Int × Mem => Go p l e { frames := 6, cells := 0, slots := 0, locals := 132 } s m args below meth c 7 D cI cB ad shsC A (MQ below (cQ D cI cB ad shsC (some (.int (i32 r))) S' A) args s 0 0 A) 24 [(0, .ref (ad 0)), (1, .int (i32 a1)), (2, .ref (ad 4)), (3, .int (i32 t16.1)), (4, .int (i32 t16.2.1)), (5, .int (i32 t16.2.2.1))] [] t16.2.2.2) (fun z17 : Int × Mem => Go p l e { frames := 6, cells := 0, slots := 0, locals := 132 } s m args below meth c 7 D cI cB ad shsC A (MQ below (cQ D cI cB ad shsC (some (.int (i32 r))) S' A) args s 0 0 A) 65 [(3, .int (i32 z17.1))] [] z17.2) ?_
      intro t16 x18 h hx19
      unfold f_X7_dearest_l24 at h
      refine go_iload (pc := 24) X 5 dX7_dearest_24 rfl ?_
      refine go_aload_n (pc := 26) X 0 dX7_dearest_26 rfl rfl ?_
      refine go_getr (pc := 27) X (fk := 3) sh7 rfl inT_X7 (by decide) fL_X7_32 rfl dX7_dearest_27 ?_
      refine go_get (pc := 30) X (fk := 2) (fi := 2) rfl (shB bk5) rfl inT_X1 (by decide) fL_X7_94 rfl dX7_dearest_30 ?_
      refine go_icmp_ge (pc := 33) X 65 dX7_dearest_33 rfl (fun c21 => ?_) (fun c21 => ?_)
      · rw [if_neg c21] at h
        refine go_pick [3] (Ls' := [(3, .int (i32 t16.1))]) rfl ?_
        exact lp_back h hx19
      · rw [if_pos c21] at h
        refine go_aload_n (pc := 36) X 2 dX7_dearest_36 rfl rfl ?_
        refine go_iload (pc := 37) X 5 dX7_dearest_37 rfl ?_
        refine go_iload_n (pc := 39) X 1 dX7_dearest_39 rfl rfl ?_
        obtain ⟨u22, h23, h⟩ := bind_some h
        refine go_callVi (pc := 40) X 2 [] (ct_X0_payment au4 h23) (shA au4) rfl gg_X7_210 hd_X0_payment ⟨Nat.le_of_ble_eq_true rfl, Nat.le_of_ble_eq_true rfl⟩ rfl rfl (Nat.le_of_ble_eq_true rfl) dX7_dearest_40 ?_
        refine go_istore (pc := 43) X [1, 2, 3, 4, 5, 6, 0] (Ls' := [(0, .ref (ad 0)), (1, .int (i32 a1)), (2, .ref (ad 4)), (3, .int (i32 t16.1)), (4, .int (i32 t16.2.1)), (5, .int (i32 t16.2.2.1)), (6, .int (i32 u22.1))]) dX7_dearest_43 (by decide) rfl ?_
        refine go_iload (pc := 45) X 6 dX7_dearest_45 rfl ?_
        refine go_iload (pc := 47) X 4 dX7_dearest_47 rfl ?_
        obtain ⟨j24, h25, h⟩ := bind_some h
        have k26 : Go p l e { frames := 6, cells := 0, slots := 0, locals := 132 } s m args below meth c 7 D cI cB ad shsC A (MQ below (cQ D cI cB ad shsC (some (.int (i32 r))) S' A) args s 0 0 A) 59 [(0, .ref (ad 0)), (1, .int (i32 a1)), (2, .ref (ad 4)), (3, .int (i32 j24.1)), (4, .int (i32 j24.2)), (5, .int (i32 t16.2.2.1))] [] u22.2 := by
          refine go_iinc (pc := 59) X [1, 2, 3, 4, 5, 0] 5 (Ls' := [(0, .ref (ad 0)), (1, .int (i32 a1)), (2, .ref (ad 4)), (3, .int (i32 j24.1)), (4, .int (i32 j24.2)), (5, .int (i32 (t16.2.2.1 + 1)))]) dX7_dearest_59 rfl (by decide) rfl ?_
          refine go_goto (pc := 62) X 24 dX7_dearest_62 rfl ?_
          exact lp_back h hx19
        refine go_icmp_le (pc := 49) X 59 dX7_dearest_49 rfl (fun c27 => ?_) (fun c27 => ?_)
        · rw [if_neg c27] at h25
          cases h25
          refine go_pick [0, 1, 2, 3, 4, 5] (Ls' := [(0, .ref (ad 0)), (1, .int (i32 a1)), (2, .ref (ad 4)), (3, .int (i32 t16.1)), (4, .int (i32 t16.2.1)), (5, .int (i32 t16.2.2.1))]) rfl ?_
          exact k26
        · rw [if_pos c27] at h25
          refine go_iload (pc := 52) X 6 dX7_dearest_52 rfl ?_
          refine go_istore (pc := 54) X [1, 2, 3, 4, 0, 5, 6] (Ls' := [(0, .ref (ad 0)), (1, .int (i32 a1)), (2, .ref (ad 4)), (3, .int (i32 t16.1)), (4, .int (i32 u22.1)), (5, .int (i32 t16.2.2.1)), (6, .int (i32 u22.1))]) dX7_dearest_54 (by decide) rfl ?_
          refine go_iload (pc := 56) X 5 dX7_dearest_56 rfl ?_
          refine go_istore_n (pc := 58) X [1, 2, 3, 0, 4, 5, 6] (Ls' := [(0, .ref (ad 0)), (1, .int (i32 a1)), (2, .ref (ad 4)), (3, .int (i32 t16.2.2.1)), (4, .int (i32 u22.1)), (5, .int (i32 t16.2.2.1)), (6, .int (i32 u22.1))]) dX7_dearest_58 rfl (by decide) rfl ?_
          cases h25
          refine go_pick [0, 1, 2, 3, 4, 5] (Ls' := [(0, .ref (ad 0)), (1, .int (i32 a1)), (2, .ref (ad 4)), (3, .int (i32 t16.2.2.1)), (4, .int (i32 u22.1)), (5, .int (i32 t16.2.2.1))]) rfl ?_
          exact k26
    refine H15 FU ((-2), (-1000000), 0, S4) r13 h14 ?_
    refine go_iload_n (pc := 65) X 0 dX7_dearest_65 rfl rfl ?_
    exact go_iret (pc := 66) X h dX7_dearest_66
  · rw [if_pos c3] at h
    refine go_iconst (pc := 7) X dX7_dearest_7 ?_
    exact go_iret (pc := 8) X h dX7_dearest_8
set_option maxRecDepth 100000 in
set_option maxHeartbeats 4000000 in
theorem ct_X7_perUnit {l : Launch} {D : va_G} {cI cB : ClassId} {Z : (Nat → Nat) × (Nat → Nat)} {ad : Nat → Nat} {S : Mem} {a1 : Int} {a2 : Int} {r : Int} {S' : Mem} (h : f_X7_perUnit S a1 a2 = some (r, S')) : Ctr l D cI cB Z ad shsC yX7_perUnit cX7_perUnit 5 (some .int) 6 132 [.ref (ad 0), .int (i32 a1), .int (i32 a2)] S (some (.int (i32 r))) S' := by
  refine ctr_of (by decide +kernel) (Nat.le_of_ble_eq_true rfl) rfl ?_
  intro p e s m args below meth c A X
  unfold f_X7_perUnit at h
  refine go_aload_n (pc := 0) X 0 dX7_perUnit_0 rfl rfl ?_
  refine go_getr (pc := 1) X (fk := 3) sh7 rfl inT_X7 (by decide) fL_X7_32 rfl dX7_perUnit_1 ?_
  refine go_iload_n (pc := 4) X 1 dX7_perUnit_4 rfl rfl ?_
  obtain ⟨r1, h2, h⟩ := bind_some h
  refine go_callVi (pc := 5) X 1 [] (ct_X1_has bk5 h2) (shB bk5) rfl gg_X7_104 hd_X1_has ⟨Nat.le_of_ble_eq_true rfl, Nat.le_of_ble_eq_true rfl⟩ rfl rfl (Nat.le_of_ble_eq_true rfl) dX7_perUnit_5 ?_
  refine go_if_eq (pc := 8) X 18 dX7_perUnit_8 rfl (fun c3 => ?_) (fun c3 => ?_)
  · rw [if_pos c3] at h
    refine go_iconst (pc := 18) X dX7_perUnit_18 ?_
    exact go_iret (pc := 19) X h dX7_perUnit_19
  · rw [if_neg c3] at h
    refine go_iload_n (pc := 11) X 2 dX7_perUnit_11 rfl rfl ?_
    obtain ⟨r4, h5, h⟩ := bind_some h
    refine go_callSi (pc := 12) X 1 [] (ct_X7_isKind h5) gg_X7_151 hd_X7_isKind ⟨Nat.le_of_ble_eq_true rfl, Nat.le_of_ble_eq_true rfl⟩ rfl rfl (Nat.le_of_ble_eq_true rfl) dX7_perUnit_12 ?_
    refine go_if_ne (pc := 15) X 20 dX7_perUnit_15 rfl (fun c6 => ?_) (fun c6 => ?_)
    · rw [if_neg c6] at h
      refine go_aload_n (pc := 20) X 0 dX7_perUnit_20 rfl rfl ?_
      obtain ⟨S7, h8, h⟩ := bind_some h
      refine go_callVr (pc := 21) X 0 [] (ct_X7_now h8) sh7 rfl gg_X7_154 hd_X7_now ⟨Nat.le_of_ble_eq_true rfl, Nat.le_of_ble_eq_true rfl⟩ rfl rfl (Nat.le_of_ble_eq_true rfl) dX7_perUnit_21 ?_
      refine go_astore_n (pc := 24) X [1, 2, 3, 0] (Ls' := [(0, .ref (ad 0)), (1, .int (i32 a1)), (2, .int (i32 a2)), (3, .ref (ad 4))]) dX7_perUnit_24 rfl (by decide) rfl ?_
      refine go_aload_n (pc := 25) X 3 dX7_perUnit_25 rfl rfl ?_
      refine go_getr (pc := 26) X (fk := 4) (shA au4) rfl inT_X0 (by decide) fL_X7_172 rfl dX7_perUnit_26 ?_
      refine go_iload_n (pc := 29) X 1 dX7_perUnit_29 rfl rfl ?_
      obtain ⟨g9, h⟩ := gd_some h
      refine go_iald (pc := 30) X (shA7 au4) (Nat.le_of_ble_eq_true rfl) rfl g9 dX7_perUnit_30 ?_
      refine go_istore (pc := 31) X [1, 2, 3, 4, 0] (Ls' := [(0, .ref (ad 0)), (1, .int (i32 a1)), (2, .int (i32 a2)), (3, .ref (ad 4)), (4, .int (i32 (S7 11 a1)))]) dX7_perUnit_31 (by decide) rfl ?_
      refine go_iload (pc := 33) X 4 dX7_perUnit_33 rfl ?_
      refine go_if_gt (pc := 35) X 43 dX7_perUnit_35 rfl (fun c10 => ?_) (fun c10 => ?_)
      · rw [if_pos c10] at h
        refine go_aload_n (pc := 43) X 3 dX7_perUnit_43 rfl rfl ?_
        refine go_iload_n (pc := 44) X 1 dX7_perUnit_44 rfl rfl ?_
        refine go_iload_n (pc := 45) X 2 dX7_perUnit_45 rfl rfl ?_
        obtain ⟨u11, h12, h⟩ := bind_some h
        refine go_callVi (pc := 46) X 2 [] (ct_X0_payment au4 h12) (shA au4) rfl gg_X7_210 hd_X0_payment ⟨Nat.le_of_ble_eq_true rfl, Nat.le_of_ble_eq_true rfl⟩ rfl rfl (Nat.le_of_ble_eq_true rfl) dX7_perUnit_46 ?_
        refine go_iload (pc := 49) X 4 dX7_perUnit_49 rfl ?_
        obtain ⟨g13, h⟩ := gd_some h
        refine go_idiv (pc := 51) X dX7_perUnit_51 g13 ?_
        exact go_iret (pc := 52) X h dX7_perUnit_52
      · rw [if_neg c10] at h
        refine go_bipush (pc := 38) X dX7_perUnit_38 (by decide) (by decide) ?_
        refine go_goto (pc := 40) X 52 dX7_perUnit_40 rfl ?_
        exact go_iret (pc := 52) X h dX7_perUnit_52
    · rw [if_pos c6] at h
      refine go_iconst (pc := 18) X dX7_perUnit_18 ?_
      exact go_iret (pc := 19) X h dX7_perUnit_19
set_option maxRecDepth 100000 in
set_option maxHeartbeats 4000000 in
theorem ct_X7_alike {l : Launch} {D : va_G} {cI cB : ClassId} {Z : (Nat → Nat) × (Nat → Nat)} {ad : Nat → Nat} {S : Mem} {a1 : Int} {a2 : Int} {r : Int} (h : f_X7_alike S a1 a2 = some r) : Ctr l D cI cB Z ad shsC yX7_alike cX7_alike 3 (some .int) 2 45 [.ref (ad 0), .int (i32 a1), .int (i32 a2)] S (some (.int (i32 r))) S := by
  refine ctr_of (by decide +kernel) (Nat.le_of_ble_eq_true rfl) rfl ?_
  intro p e s m args below meth c A X
  unfold f_X7_alike at h
  refine go_aload_n (pc := 0) X 0 dX7_alike_0 rfl rfl ?_
  refine go_getr (pc := 1) X (fk := 3) sh7 rfl inT_X7 (by decide) fL_X7_32 rfl dX7_alike_1 ?_
  refine go_iload_n (pc := 4) X 1 dX7_alike_4 rfl rfl ?_
  obtain ⟨r1, h2, h⟩ := bind_some h
  refine go_callVi (pc := 5) X 1 [] (ct_X1_has bk5 h2) (shB bk5) rfl gg_X7_104 hd_X1_has ⟨Nat.le_of_ble_eq_true rfl, Nat.le_of_ble_eq_true rfl⟩ rfl rfl (Nat.le_of_ble_eq_true rfl) dX7_alike_5 ?_
  refine go_if_eq (pc := 8) X 22 dX7_alike_8 rfl (fun c3 => ?_) (fun c3 => ?_)
  · rw [if_pos c3] at h
    refine go_iconst (pc := 22) X dX7_alike_22 ?_
    exact go_iretP (pc := 23) X h dX7_alike_23
  · rw [if_neg c3] at h
    refine go_aload_n (pc := 11) X 0 dX7_alike_11 rfl rfl ?_
    refine go_getr (pc := 12) X (fk := 3) sh7 rfl inT_X7 (by decide) fL_X7_32 rfl dX7_alike_12 ?_
    refine go_iload_n (pc := 15) X 2 dX7_alike_15 rfl rfl ?_
    obtain ⟨r4, h5, h⟩ := bind_some h
    refine go_callVi (pc := 16) X 1 [] (ct_X1_has bk5 h5) (shB bk5) rfl gg_X7_104 hd_X1_has ⟨Nat.le_of_ble_eq_true rfl, Nat.le_of_ble_eq_true rfl⟩ rfl rfl (Nat.le_of_ble_eq_true rfl) dX7_alike_16 ?_
    refine go_if_ne (pc := 19) X 24 dX7_alike_19 rfl (fun c6 => ?_) (fun c6 => ?_)
    · rw [if_neg c6] at h
      refine go_aload_n (pc := 24) X 0 dX7_alike_24 rfl rfl ?_
      refine go_getr (pc := 25) X (fk := 3) sh7 rfl inT_X7 (by decide) fL_X7_32 rfl dX7_alike_25 ?_
      refine go_iload_n (pc := 28) X 1 dX7_alike_28 rfl rfl ?_
      refine go_iload_n (pc := 29) X 2 dX7_alike_29 rfl rfl ?_
      obtain ⟨r7, h8, h⟩ := bind_some h
      refine go_callVi (pc := 30) X 2 [] (ct_X1_areAlike bk5 h8) (shB bk5) rfl gg_X7_254 hd_X1_areAlike ⟨Nat.le_of_ble_eq_true rfl, Nat.le_of_ble_eq_true rfl⟩ rfl rfl (Nat.le_of_ble_eq_true rfl) dX7_alike_30 ?_
      refine go_if_eq (pc := 33) X 40 dX7_alike_33 rfl (fun c9 => ?_) (fun c9 => ?_)
      · rw [if_pos c9] at h
        refine go_iconst (pc := 40) X dX7_alike_40 ?_
        exact go_iretP (pc := 41) X h dX7_alike_41
      · rw [if_neg c9] at h
        refine go_iconst (pc := 36) X dX7_alike_36 ?_
        refine go_goto (pc := 37) X 41 dX7_alike_37 rfl ?_
        exact go_iretP (pc := 41) X h dX7_alike_41
    · rw [if_pos c6] at h
      refine go_iconst (pc := 22) X dX7_alike_22 ?_
      exact go_iretP (pc := 23) X h dX7_alike_23
set_option maxRecDepth 100000 in
set_option maxHeartbeats 4000000 in
theorem ct_X7_ranked {l : Launch} {D : va_G} {cI cB : ClassId} {Z : (Nat → Nat) × (Nat → Nat)} {ad : Nat → Nat} {S : Mem} {a1 : Int} {a2 : Int} {r : Int} {S' : Mem} (h : f_X7_ranked S a1 a2 = some (r, S')) : Ctr l D cI cB Z ad shsC yX7_ranked cX7_ranked 3 (some .int) 4 91 [.ref (ad 0), .int (i32 a1), .int (i32 a2)] S (some (.int (i32 r))) S' := by
  refine ctr_of (by decide +kernel) (Nat.le_of_ble_eq_true rfl) rfl ?_
  intro p e s m args below meth c A X
  unfold f_X7_ranked at h
  refine go_iload_n (pc := 0) X 1 dX7_ranked_0 rfl rfl ?_
  refine go_if_lt (pc := 1) X 15 dX7_ranked_1 rfl (fun c1 => ?_) (fun c1 => ?_)
  · rw [if_pos c1] at h
    refine go_iconst (pc := 15) X dX7_ranked_15 ?_
    exact go_iret (pc := 16) X h dX7_ranked_16
  · rw [if_neg c1] at h
    refine go_iload_n (pc := 4) X 1 dX7_ranked_4 rfl rfl ?_
    refine go_aload_n (pc := 5) X 0 dX7_ranked_5 rfl rfl ?_
    refine go_getr (pc := 6) X (fk := 3) sh7 rfl inT_X7 (by decide) fL_X7_32 rfl dX7_ranked_6 ?_
    obtain ⟨r2, h3, h⟩ := bind_some h
    refine go_callVi (pc := 9) X 0 [.int (i32 a1)] (ct_X1_valuesOfAll bk5 h3) (shB bk5) rfl gg_X7_257 hd_X1_valuesOfAll ⟨Nat.le_of_ble_eq_true rfl, Nat.le_of_ble_eq_true rfl⟩ rfl rfl (Nat.le_of_ble_eq_true rfl) dX7_ranked_9 ?_
    refine go_icmp_lt (pc := 12) X 17 dX7_ranked_12 rfl (fun c4 => ?_) (fun c4 => ?_)
    · rw [if_pos c4] at h
      refine go_iload_n (pc := 17) X 2 dX7_ranked_17 rfl rfl ?_
      by_cases c5 : eqb a2 0 = true
      · rw [if_pos c5] at h
        refine go_look (pc := 18) X 44 dX7_ranked_18 rfl (by rw [(eqb_toInt (by decide) (by decide)).mp c5]) rfl ?_
        refine go_aload_n (pc := 44) X 0 dX7_ranked_44 rfl rfl ?_
        refine go_getr (pc := 45) X (fk := 3) sh7 rfl inT_X7 (by decide) fL_X7_32 rfl dX7_ranked_45 ?_
        refine go_iload_n (pc := 48) X 1 dX7_ranked_48 rfl rfl ?_
        obtain ⟨u6, h7, h⟩ := bind_some h
        refine go_callVi (pc := 49) X 1 [] (ct_X1_rankedOwner bk5 h7) (shB bk5) rfl gg_X7_260 hd_X1_rankedOwner ⟨Nat.le_of_ble_eq_true rfl, Nat.le_of_ble_eq_true rfl⟩ rfl rfl (Nat.le_of_ble_eq_true rfl) dX7_ranked_49 ?_
        exact go_iret (pc := 52) X h dX7_ranked_52
      · rw [if_neg c5] at h
        by_cases c8 : eqb a2 1 = true
        · rw [if_pos c8] at h
          refine go_look (pc := 18) X 53 dX7_ranked_18 rfl (by rw [(eqb_toInt (by decide) (by decide)).mp c8]) rfl ?_
          refine go_aload_n (pc := 53) X 0 dX7_ranked_53 rfl rfl ?_
          refine go_getr (pc := 54) X (fk := 3) sh7 rfl inT_X7 (by decide) fL_X7_32 rfl dX7_ranked_54 ?_
          refine go_iload_n (pc := 57) X 1 dX7_ranked_57 rfl rfl ?_
          obtain ⟨u9, h10, h⟩ := bind_some h
          refine go_callVi (pc := 58) X 1 [] (ct_X1_rankedValue bk5 h10) (shB bk5) rfl gg_X7_263 hd_X1_rankedValue ⟨Nat.le_of_ble_eq_true rfl, Nat.le_of_ble_eq_true rfl⟩ rfl rfl (Nat.le_of_ble_eq_true rfl) dX7_ranked_58 ?_
          exact go_iret (pc := 61) X h dX7_ranked_61
        · rw [if_neg c8] at h
          have nc5 : ¬ (0 : Int) = (i32 a2).toInt := fun z => c5 ((eqb_toInt (by decide) (by decide)).mpr z.symm)
          have nc8 : ¬ (1 : Int) = (i32 a2).toInt := fun z => c8 ((eqb_toInt (by decide) (by decide)).mpr z.symm)
          refine go_look (pc := 18) X 62 dX7_ranked_18 rfl (by simp only [Op.lookupswitch.offset, if_neg nc5, if_neg nc8]; rfl) rfl ?_
          refine go_iconst (pc := 62) X dX7_ranked_62 ?_
          exact go_iret (pc := 63) X h dX7_ranked_63
    · rw [if_neg c4] at h
      refine go_iconst (pc := 15) X dX7_ranked_15 ?_
      exact go_iret (pc := 16) X h dX7_ranked_16
set_option maxRecDepth 100000 in
set_option maxHeartbeats 4000000 in
theorem ct_X7_priceFor {l : Launch} {D : va_G} {cI cB : ClassId} {Z : (Nat → Nat) × (Nat → Nat)} {ad : Nat → Nat} {S : Mem} {a1 : Int} {r : Int} (h : f_X7_priceFor S a1 = some r) : Ctr l D cI cB Z ad shsC yX7_priceFor cX7_priceFor 3 (some .int) 4 90 [.ref (ad 0), .int (i32 a1)] S (some (.int (i32 r))) S := by
  refine ctr_of (by decide +kernel) (Nat.le_of_ble_eq_true rfl) rfl ?_
  intro p e s m args below meth c A X
  unfold f_X7_priceFor at h
  refine go_iload_n (pc := 0) X 1 dX7_priceFor_0 rfl rfl ?_
  refine go_if_ge (pc := 1) X 6 dX7_priceFor_1 rfl (fun c1 => ?_) (fun c1 => ?_)
  · rw [if_neg c1] at h
    refine go_iconst (pc := 6) X dX7_priceFor_6 ?_
    refine go_istore_n (pc := 7) X [1, 2, 0] (Ls' := [(0, .ref (ad 0)), (1, .int (i32 a1)), (2, .int (i32 0))]) dX7_priceFor_7 rfl (by decide) rfl ?_
    obtain ⟨r6, h7, h⟩ := bind_some h
    have H8 : ∀ (n : Nat) (t9 : Int) (z10 : (Unit) ⊕ (Int)), lp (f_X7_priceFor_l8 S a1) n t9 = some z10 → lpG (fun z13 : Unit => Go p l e { frames := 4, cells := 0, slots := 0, locals := 90 } s m args below meth c 3 D cI cB ad shsC A (MQ below (cQ D cI cB ad shsC (some (.int (i32 r))) S A) args s 0 0 A) 34 [] [] S) (fun u : Int => some u = some r) z10 → Go p l e { frames := 4, cells := 0, slots := 0, locals := 90 } s m args below meth c 3 D cI cB ad shsC A (MQ below (cQ D cI cB ad shsC (some (.int (i32 r))) S A) args s 0 0 A) 8 [(0, .ref (ad 0)), (1, .int (i32 a1)), (2, .int (i32 t9))] [] S := by
      refine lp_go (fun t9 : Int => Go p l e { frames := 4, cells := 0, slots := 0, locals := 90 } s m args below meth c 3 D cI cB ad shsC A (MQ below (cQ D cI cB ad shsC (some (.int (i32 r))) S A) args s 0 0 A) 8 [(0, .ref (ad 0)), (1, .int (i32 a1)), (2, .int (i32 t9))] [] S) (fun z10 : (Unit) ⊕ (Int) => lpG (fun z13 : Unit => Go p l e { frames := 4, cells := 0, slots := 0, locals := 90 } s m args below meth c 3 D cI cB ad shsC A (MQ below (cQ D cI cB ad shsC (some (.int (i32 r))) S A) args s 0 0 A) 34 [] [] S) (fun u : Int => some u = some r) z10) ?_
      intro t9 x11 h hx12
      unfold f_X7_priceFor_l8 at h
      refine go_iload_n (pc := 8) X 2 dX7_priceFor_8 rfl rfl ?_
      refine go_bipush (pc := 9) X dX7_priceFor_9 (by decide) (by decide) ?_
      refine go_icmp_ge (pc := 11) X 34 dX7_priceFor_11 rfl (fun c14 => ?_) (fun c14 => ?_)
      · rw [if_neg c14] at h
        refine go_pick [] (Ls' := []) rfl ?_
        exact lp_back h hx12
      · rw [if_pos c14] at h
        refine go_aload_n (pc := 14) X 0 dX7_priceFor_14 rfl rfl ?_
        refine go_getr (pc := 15) X (fk := 3) sh7 rfl inT_X7 (by decide) fL_X7_32 rfl dX7_priceFor_15 ?_
        refine go_iload_n (pc := 18) X 2 dX7_priceFor_18 rfl rfl ?_
        obtain ⟨r15, h16, h⟩ := bind_some h
        refine go_callVi (pc := 19) X 1 [] (ct_X1_wantsOfAll bk5 h16) (shB bk5) rfl gg_X7_232 hd_X1_wantsOfAll ⟨Nat.le_of_ble_eq_true rfl, Nat.le_of_ble_eq_true rfl⟩ rfl rfl (Nat.le_of_ble_eq_true rfl) dX7_priceFor_19 ?_
        refine go_iload_n (pc := 22) X 1 dX7_priceFor_22 rfl rfl ?_
        refine go_icmp_gt (pc := 23) X 28 dX7_priceFor_23 rfl (fun c17 => ?_) (fun c17 => ?_)
        · rw [if_pos c17] at h
          refine go_iinc (pc := 28) X [1, 2, 0] 2 (Ls' := [(0, .ref (ad 0)), (1, .int (i32 a1)), (2, .int (i32 (t9 + 1)))]) dX7_priceFor_28 rfl (by decide) rfl ?_
          refine go_goto (pc := 31) X 8 dX7_priceFor_31 rfl ?_
          exact lp_back h hx12
        · rw [if_neg c17] at h
          refine go_iload_n (pc := 26) X 2 dX7_priceFor_26 rfl rfl ?_
          exact go_iretP (pc := 27) X (lp_back h hx12) dX7_priceFor_27
    refine H8 FU 0 r6 h7 ?_
    cases r6 with
    | inl r18 =>
      have h := lct_l h
      refine lpG_l ?_
      refine go_bipush (pc := 34) X dX7_priceFor_34 (by decide) (by decide) ?_
      exact go_iretP (pc := 36) X h dX7_priceFor_36
    | inr u19 =>
      have h := lct_r h
      refine lpG_r ?_
      exact h
  · rw [if_pos c1] at h
    refine go_iconst (pc := 4) X dX7_priceFor_4 ?_
    exact go_iretP (pc := 5) X h dX7_priceFor_5
set_option maxRecDepth 100000 in
set_option maxHeartbeats 4000000 in
theorem ct_X7_step {l : Launch} {D : va_G} {cI cB : ClassId} {Z : (Nat → Nat) × (Nat → Nat)} {ad : Nat → Nat} {S : Mem} {a1 : Int} {a2 : Int} {r : Int} (h : f_X7_step S a1 a2 = some r) : Ctr l D cI cB Z ad shsC yX7_step cX7_step 4 (some .int) 5 115 [.ref (ad 0), .int (i32 a1), .int (i32 a2)] S (some (.int (i32 r))) S := by
  refine ctr_of (by decide +kernel) (Nat.le_of_ble_eq_true rfl) rfl ?_
  intro p e s m args below meth c A X
  unfold f_X7_step at h
  refine go_iload_n (pc := 0) X 1 dX7_step_0 rfl rfl ?_
  obtain ⟨j1, h2, h⟩ := bind_some h
  have k3 : Go p l e { frames := 5, cells := 0, slots := 0, locals := 115 } s m args below meth c 4 D cI cB ad shsC A (MQ below (cQ D cI cB ad shsC (some (.int (i32 r))) S A) args s 0 0 A) 16 [(0, .ref (ad 0)), (2, .int (i32 a2))] [.int (i32 j1)] S := by
    refine go_istore_n (pc := 16) X [1, 2, 0] (Ls' := [(0, .ref (ad 0)), (2, .int (i32 a2)), (3, .int (i32 j1))]) dX7_step_16 rfl (by decide) rfl ?_
    refine go_iload_n (pc := 17) X 2 dX7_step_17 rfl rfl ?_
    refine go_iconst (pc := 18) X dX7_step_18 ?_
    refine go_icmp_ne (pc := 19) X 24 dX7_step_19 rfl (fun c4 => ?_) (fun c4 => ?_)
    · rw [if_neg c4] at h
      refine go_iload_n (pc := 24) X 1 dX7_step_24 rfl rfl ?_
      by_cases c5 : eqb a2 0 = true
      · rw [if_pos c5] at h
        refine go_tab (pc := 25) X 52 dX7_step_25 c5 ⟨by decide, by decide⟩ ⟨by decide, by decide⟩ rfl rfl ?_
        refine go_iload_n (pc := 52) X 2 dX7_step_52 rfl rfl ?_
        exact go_iretP (pc := 53) X h dX7_step_53
      · rw [if_neg c5] at h
        by_cases c6 : eqb a2 1 = true
        · rw [if_pos c6] at h
          refine go_tab (pc := 25) X 54 dX7_step_25 c6 ⟨by decide, by decide⟩ ⟨by decide, by decide⟩ rfl rfl ?_
          refine go_aload_n (pc := 54) X 0 dX7_step_54 rfl rfl ?_
          refine go_getr (pc := 55) X (fk := 3) sh7 rfl inT_X7 (by decide) fL_X7_32 rfl dX7_step_55 ?_
          refine go_iload_n (pc := 58) X 2 dX7_step_58 rfl rfl ?_
          obtain ⟨r7, h8, h⟩ := bind_some h
          refine go_callVi (pc := 59) X 1 [] (ct_X1_wantsOfAll bk5 h8) (shB bk5) rfl gg_X7_232 hd_X1_wantsOfAll ⟨Nat.le_of_ble_eq_true rfl, Nat.le_of_ble_eq_true rfl⟩ rfl rfl (Nat.le_of_ble_eq_true rfl) dX7_step_59 ?_
          exact go_iretP (pc := 62) X h dX7_step_62
        · rw [if_neg c6] at h
          by_cases c9 : eqb a2 2 = true
          · rw [if_pos c9] at h
            refine go_tab (pc := 25) X 63 dX7_step_25 c9 ⟨by decide, by decide⟩ ⟨by decide, by decide⟩ rfl rfl ?_
            refine go_aload_n (pc := 63) X 0 dX7_step_63 rfl rfl ?_
            refine go_getr (pc := 64) X (fk := 3) sh7 rfl inT_X7 (by decide) fL_X7_32 rfl dX7_step_64 ?_
            refine go_iload_n (pc := 67) X 2 dX7_step_67 rfl rfl ?_
            obtain ⟨r10, h11, h⟩ := bind_some h
            refine go_callVi (pc := 68) X 1 [] (ct_X1_wantingAt bk5 h11) (shB bk5) rfl gg_X7_269 hd_X1_wantingAt ⟨Nat.le_of_ble_eq_true rfl, Nat.le_of_ble_eq_true rfl⟩ rfl rfl (Nat.le_of_ble_eq_true rfl) dX7_step_68 ?_
            exact go_iretP (pc := 71) X h dX7_step_71
          · rw [if_neg c9] at h
            have nc5 : ¬ (0 : Int) = (i32 a2).toInt := fun z => c5 ((eqb_toInt (by decide) (by decide)).mpr z.symm)
            have nc6 : ¬ (1 : Int) = (i32 a2).toInt := fun z => c6 ((eqb_toInt (by decide) (by decide)).mpr z.symm)
            have nc9 : ¬ (2 : Int) = (i32 a2).toInt := fun z => c9 ((eqb_toInt (by decide) (by decide)).mpr z.symm)
            refine go_tabx (pc := 25) X 72 dX7_step_25 (by omega) rfl ?_
            refine go_iconst (pc := 72) X dX7_step_72 ?_
            exact go_iretP (pc := 73) X h dX7_step_73
    · rw [if_pos c4] at h
      refine go_iconst (pc := 22) X dX7_step_22 ?_
      exact go_iretP (pc := 23) X h dX7_step_23
  refine go_if_ge (pc := 1) X 8 dX7_step_1 rfl (fun c12 => ?_) (fun c12 => ?_)
  · rw [if_neg c12] at h2
    refine go_aload_n (pc := 8) X 0 dX7_step_8 rfl rfl ?_
    refine go_getr (pc := 9) X (fk := 3) sh7 rfl inT_X7 (by decide) fL_X7_32 rfl dX7_step_9 ?_
    refine go_iload_n (pc := 12) X 1 dX7_step_12 rfl rfl ?_
    obtain ⟨r13, h14, h2⟩ := bind_some h2
    refine go_callVi (pc := 13) X 1 [] (ct_X1_stepPrice bk5 h14) (shB bk5) rfl gg_X7_266 hd_X1_stepPrice ⟨Nat.le_of_ble_eq_true rfl, Nat.le_of_ble_eq_true rfl⟩ rfl rfl (Nat.le_of_ble_eq_true rfl) dX7_step_13 ?_
    cases h2
    refine go_pick [0, 2] (Ls' := [(0, .ref (ad 0)), (2, .int (i32 a2))]) rfl ?_
    exact k3
  · rw [if_pos c12] at h2
    refine go_iconst (pc := 4) X dX7_step_4 ?_
    refine go_goto (pc := 5) X 16 dX7_step_5 rfl ?_
    cases h2
    refine go_pick [0, 2] (Ls' := [(0, .ref (ad 0)), (2, .int (i32 a2))]) rfl ?_
    exact k3
set_option maxRecDepth 100000 in
set_option maxHeartbeats 4000000 in
theorem ct_X7_envies {l : Launch} {D : va_G} {cI cB : ClassId} {Z : (Nat → Nat) × (Nat → Nat)} {ad : Nat → Nat} {S : Mem} {a1 : Int} {a2 : Int} {r : Int} {S' : Mem} (h : f_X7_envies S a1 a2 = some (r, S')) : Ctr l D cI cB Z ad shsC yX7_envies cX7_envies 7 (some .int) 6 138 [.ref (ad 0), .int (i32 a1), .int (i32 a2)] S (some (.int (i32 r))) S' := by
  refine ctr_of (by decide +kernel) (Nat.le_of_ble_eq_true rfl) rfl ?_
  intro p e s m args below meth c A X
  unfold f_X7_envies at h
  refine go_aload_n (pc := 0) X 0 dX7_envies_0 rfl rfl ?_
  refine go_getr (pc := 1) X (fk := 3) sh7 rfl inT_X7 (by decide) fL_X7_32 rfl dX7_envies_1 ?_
  refine go_iload_n (pc := 4) X 1 dX7_envies_4 rfl rfl ?_
  obtain ⟨r1, h2, h⟩ := bind_some h
  refine go_callVi (pc := 5) X 1 [] (ct_X1_has bk5 h2) (shB bk5) rfl gg_X7_104 hd_X1_has ⟨Nat.le_of_ble_eq_true rfl, Nat.le_of_ble_eq_true rfl⟩ rfl rfl (Nat.le_of_ble_eq_true rfl) dX7_envies_5 ?_
  refine go_if_eq (pc := 8) X 18 dX7_envies_8 rfl (fun c3 => ?_) (fun c3 => ?_)
  · rw [if_pos c3] at h
    refine go_iconst (pc := 18) X dX7_envies_18 ?_
    exact go_iret (pc := 19) X h dX7_envies_19
  · rw [if_neg c3] at h
    refine go_iload_n (pc := 11) X 2 dX7_envies_11 rfl rfl ?_
    obtain ⟨r4, h5, h⟩ := bind_some h
    refine go_callSi (pc := 12) X 1 [] (ct_X7_isKind h5) gg_X7_151 hd_X7_isKind ⟨Nat.le_of_ble_eq_true rfl, Nat.le_of_ble_eq_true rfl⟩ rfl rfl (Nat.le_of_ble_eq_true rfl) dX7_envies_12 ?_
    refine go_if_ne (pc := 15) X 20 dX7_envies_15 rfl (fun c6 => ?_) (fun c6 => ?_)
    · rw [if_neg c6] at h
      refine go_aload_n (pc := 20) X 0 dX7_envies_20 rfl rfl ?_
      obtain ⟨S7, h8, h⟩ := bind_some h
      refine go_callVr (pc := 21) X 0 [] (ct_X7_now h8) sh7 rfl gg_X7_154 hd_X7_now ⟨Nat.le_of_ble_eq_true rfl, Nat.le_of_ble_eq_true rfl⟩ rfl rfl (Nat.le_of_ble_eq_true rfl) dX7_envies_21 ?_
      refine go_astore_n (pc := 24) X [1, 2, 3, 0] (Ls' := [(0, .ref (ad 0)), (1, .int (i32 a1)), (2, .int (i32 a2)), (3, .ref (ad 4))]) dX7_envies_24 rfl (by decide) rfl ?_
      refine go_aload_n (pc := 25) X 3 dX7_envies_25 rfl rfl ?_
      refine go_iload_n (pc := 26) X 1 dX7_envies_26 rfl rfl ?_
      refine go_iload_n (pc := 27) X 2 dX7_envies_27 rfl rfl ?_
      obtain ⟨u9, h10, h⟩ := bind_some h
      refine go_callVi (pc := 28) X 2 [] (ct_X0_gainOf au4 h10) (shA au4) rfl gg_X7_213 hd_X0_gainOf ⟨Nat.le_of_ble_eq_true rfl, Nat.le_of_ble_eq_true rfl⟩ rfl rfl (Nat.le_of_ble_eq_true rfl) dX7_envies_28 ?_
      refine go_istore (pc := 31) X [1, 2, 3, 4, 0] (Ls' := [(0, .ref (ad 0)), (1, .int (i32 a1)), (2, .int (i32 a2)), (3, .ref (ad 4)), (4, .int (i32 u9.1))]) dX7_envies_31 (by decide) rfl ?_
      refine go_iconst (pc := 33) X dX7_envies_33 ?_
      refine go_istore (pc := 34) X [1, 2, 3, 4, 5, 0] (Ls' := [(0, .ref (ad 0)), (1, .int (i32 a1)), (2, .int (i32 a2)), (3, .ref (ad 4)), (4, .int (i32 u9.1)), (5, .int (i32 0))]) dX7_envies_34 (by decide) rfl ?_
      obtain ⟨r20, h21, h⟩ := bind_some h
      have H22 : ∀ (n : Nat) (t23 : Int × Mem) (z24 : (Mem) ⊕ (Int × Mem)), lp (f_X7_envies_l36 a1 a2 u9.1) n t23 = some z24 → lpG (fun z27 : Mem => Go p l e { frames := 6, cells := 0, slots := 0, locals := 138 } s m args below meth c 7 D cI cB ad shsC A (MQ below (cQ D cI cB ad shsC (some (.int (i32 r))) S' A) args s 0 0 A) 100 [] [] z27) (fun u : Int × Mem => some u = some (r, S')) z24 → Go p l e { frames := 6, cells := 0, slots := 0, locals := 138 } s m args below meth c 7 D cI cB ad shsC A (MQ below (cQ D cI cB ad shsC (some (.int (i32 r))) S' A) args s 0 0 A) 36 [(0, .ref (ad 0)), (1, .int (i32 a1)), (2, .int (i32 a2)), (3, .ref (ad 4)), (4, .int (i32 u9.1)), (5, .int (i32 t23.1))] [] t23.2 := by
        refine lp_go (fun t23 : Int × Mem => Go p l e { frames := 6, cells := 0, slots := 0, locals := 138 } s m args below meth c 7 D cI cB ad shsC A (MQ below (cQ D cI cB ad shsC (some (.int (i32 r))) S' A) args s 0 0 A) 36 [(0, .ref (ad 0)), (1, .int (i32 a1)), (2, .int (i32 a2)), (3, .ref (ad 4)), (4, .int (i32 u9.1)), (5, .int (i32 t23.1))] [] t23.2) (fun z24 : (Mem) ⊕ (Int × Mem) => lpG (fun z27 : Mem => Go p l e { frames := 6, cells := 0, slots := 0, locals := 138 } s m args below meth c 7 D cI cB ad shsC A (MQ below (cQ D cI cB ad shsC (some (.int (i32 r))) S' A) args s 0 0 A) 100 [] [] z27) (fun u : Int × Mem => some u = some (r, S')) z24) ?_
        intro t23 x25 h hx26
        unfold f_X7_envies_l36 at h
        refine go_iload (pc := 36) X 5 dX7_envies_36 rfl ?_
        refine go_aload_n (pc := 38) X 0 dX7_envies_38 rfl rfl ?_
        refine go_getr (pc := 39) X (fk := 3) sh7 rfl inT_X7 (by decide) fL_X7_32 rfl dX7_envies_39 ?_
        refine go_get (pc := 42) X (fk := 2) (fi := 2) rfl (shB bk5) rfl inT_X1 (by decide) fL_X7_94 rfl dX7_envies_42 ?_
        refine go_icmp_ge (pc := 45) X 100 dX7_envies_45 rfl (fun c28 => ?_) (fun c28 => ?_)
        · rw [if_neg c28] at h
          refine go_pick [] (Ls' := []) rfl ?_
          exact lp_back h hx26
        · rw [if_pos c28] at h
          refine go_aload_n (pc := 48) X 3 dX7_envies_48 rfl rfl ?_
          refine go_getr (pc := 49) X (fk := 4) (shA au4) rfl inT_X0 (by decide) fL_X7_172 rfl dX7_envies_49 ?_
          refine go_iload (pc := 52) X 5 dX7_envies_52 rfl ?_
          obtain ⟨g29, h⟩ := gd_some h
          refine go_iald (pc := 54) X (shA7 au4) (Nat.le_of_ble_eq_true rfl) rfl g29 dX7_envies_54 ?_
          refine go_aload_n (pc := 55) X 0 dX7_envies_55 rfl rfl ?_
          refine go_getr (pc := 56) X (fk := 3) sh7 rfl inT_X7 (by decide) fL_X7_32 rfl dX7_envies_56 ?_
          refine go_iload_n (pc := 59) X 1 dX7_envies_59 rfl rfl ?_
          obtain ⟨r30, h31, h⟩ := bind_some h
          refine go_callVi (pc := 60) X 1 [.int (i32 (t23.2 11 t23.1))] (ct_X1_usable bk5 h31) (shB bk5) rfl gg_X7_272 hd_X1_usable ⟨Nat.le_of_ble_eq_true rfl, Nat.le_of_ble_eq_true rfl⟩ rfl rfl (Nat.le_of_ble_eq_true rfl) dX7_envies_60 ?_
          refine go_mmin (pc := 63) X mL_X7_275 (Nat.le_of_ble_eq_true rfl) (Nat.le_of_ble_eq_true rfl) dX7_envies_63 ?_
          refine go_istore (pc := 66) X [1, 2, 3, 4, 5, 6, 0] (Ls' := [(0, .ref (ad 0)), (1, .int (i32 a1)), (2, .int (i32 a2)), (3, .ref (ad 4)), (4, .int (i32 u9.1)), (5, .int (i32 t23.1)), (6, .int (i32 (mnb (t23.2 11 t23.1) r30)))]) dX7_envies_66 (by decide) rfl ?_
          refine go_aload_n (pc := 68) X 0 dX7_envies_68 rfl rfl ?_
          refine go_getr (pc := 69) X (fk := 3) sh7 rfl inT_X7 (by decide) fL_X7_32 rfl dX7_envies_69 ?_
          refine go_iload_n (pc := 72) X 1 dX7_envies_72 rfl rfl ?_
          refine go_iload (pc := 73) X 6 dX7_envies_73 rfl ?_
          obtain ⟨r32, h33, h⟩ := bind_some h
          refine go_callVi (pc := 75) X 2 [] (ct_X1_sumOfFirst bk5 h33) (shB bk5) rfl gg_X7_280 hd_X1_sumOfFirst ⟨Nat.le_of_ble_eq_true rfl, Nat.le_of_ble_eq_true rfl⟩ rfl rfl (Nat.le_of_ble_eq_true rfl) dX7_envies_75 ?_
          refine go_aload_n (pc := 78) X 3 dX7_envies_78 rfl rfl ?_
          refine go_iload (pc := 79) X 5 dX7_envies_79 rfl ?_
          refine go_iload_n (pc := 81) X 2 dX7_envies_81 rfl rfl ?_
          obtain ⟨u34, h35, h⟩ := bind_some h
          refine go_callVi (pc := 82) X 2 [.int (i32 r32)] (ct_X0_payment au4 h35) (shA au4) rfl gg_X7_210 hd_X0_payment ⟨Nat.le_of_ble_eq_true rfl, Nat.le_of_ble_eq_true rfl⟩ rfl rfl (Nat.le_of_ble_eq_true rfl) dX7_envies_82 ?_
          refine go_isub (pc := 85) X dX7_envies_85 ?_
          refine go_iload (pc := 86) X 4 dX7_envies_86 rfl ?_
          refine go_icmp_le (pc := 88) X 94 dX7_envies_88 rfl (fun c36 => ?_) (fun c36 => ?_)
          · rw [if_neg c36] at h
            refine go_iinc (pc := 94) X [1, 2, 3, 4, 5, 0, 6] 5 (Ls' := [(0, .ref (ad 0)), (1, .int (i32 a1)), (2, .int (i32 a2)), (3, .ref (ad 4)), (4, .int (i32 u9.1)), (5, .int (i32 (t23.1 + 1))), (6, .int (i32 (mnb (t23.2 11 t23.1) r30)))]) dX7_envies_94 rfl (by decide) rfl ?_
            refine go_goto (pc := 97) X 36 dX7_envies_97 rfl ?_
            refine go_pick [0, 1, 2, 3, 4, 5] (Ls' := [(0, .ref (ad 0)), (1, .int (i32 a1)), (2, .int (i32 a2)), (3, .ref (ad 4)), (4, .int (i32 u9.1)), (5, .int (i32 (t23.1 + 1)))]) rfl ?_
            exact lp_back h hx26
          · rw [if_pos c36] at h
            refine go_iload (pc := 91) X 5 dX7_envies_91 rfl ?_
            exact go_iret (pc := 93) X (lp_back h hx26) dX7_envies_93
      refine H22 FU (0, u9.2) r20 h21 ?_
      cases r20 with
      | inl r37 =>
        have h := lct_l h
        refine lpG_l ?_
        refine go_bipush (pc := 100) X dX7_envies_100 (by decide) (by decide) ?_
        exact go_iret (pc := 102) X h dX7_envies_102
      | inr u38 =>
        have h := lct_r h
        refine lpG_r ?_
        exact h
    · rw [if_pos c6] at h
      refine go_iconst (pc := 18) X dX7_envies_18 ?_
      exact go_iret (pc := 19) X h dX7_envies_19
set_option maxRecDepth 100000 in
set_option maxHeartbeats 4000000 in
theorem ct_X7_blocks {l : Launch} {D : va_G} {cI cB : ClassId} {Z : (Nat → Nat) × (Nat → Nat)} {ad : Nat → Nat} {S : Mem} {a1 : Int} {r : Int} {S' : Mem} (h : f_X7_blocks S a1 = some (r, S')) : Ctr l D cI cB Z ad shsC yX7_blocks cX7_blocks 6 (some .int) 7 160 [.ref (ad 0), .int (i32 a1)] S (some (.int (i32 r))) S' := by
  refine ctr_of (by decide +kernel) (Nat.le_of_ble_eq_true rfl) rfl ?_
  intro p e s m args below meth c A X
  unfold f_X7_blocks at h
  refine go_iload_n (pc := 0) X 1 dX7_blocks_0 rfl rfl ?_
  obtain ⟨r1, h2, h⟩ := bind_some h
  refine go_callSi (pc := 1) X 1 [] (ct_X7_isKind h2) gg_X7_151 hd_X7_isKind ⟨Nat.le_of_ble_eq_true rfl, Nat.le_of_ble_eq_true rfl⟩ rfl rfl (Nat.le_of_ble_eq_true rfl) dX7_blocks_1 ?_
  refine go_if_ne (pc := 4) X 9 dX7_blocks_4 rfl (fun c3 => ?_) (fun c3 => ?_)
  · rw [if_neg c3] at h
    refine go_aload_n (pc := 9) X 0 dX7_blocks_9 rfl rfl ?_
    obtain ⟨S4, h5, h⟩ := bind_some h
    refine go_callVr (pc := 10) X 0 [] (ct_X7_now h5) sh7 rfl gg_X7_154 hd_X7_now ⟨Nat.le_of_ble_eq_true rfl, Nat.le_of_ble_eq_true rfl⟩ rfl rfl (Nat.le_of_ble_eq_true rfl) dX7_blocks_10 ?_
    refine go_astore_n (pc := 13) X [1, 2, 0] (Ls' := [(0, .ref (ad 0)), (1, .int (i32 a1)), (2, .ref (ad 4))]) dX7_blocks_13 rfl (by decide) rfl ?_
    refine go_aload_n (pc := 14) X 2 dX7_blocks_14 rfl rfl ?_
    refine go_iload_n (pc := 15) X 1 dX7_blocks_15 rfl rfl ?_
    obtain ⟨u6, h7, h⟩ := bind_some h
    refine go_callVi (pc := 16) X 1 [] (ct_X0_paidByAll au4 h7) (shA au4) rfl gg_X7_164 hd_X0_paidByAll ⟨Nat.le_of_ble_eq_true rfl, Nat.le_of_ble_eq_true rfl⟩ rfl rfl (Nat.le_of_ble_eq_true rfl) dX7_blocks_16 ?_
    refine go_aload_n (pc := 19) X 0 dX7_blocks_19 rfl rfl ?_
    refine go_getr (pc := 20) X (fk := 3) sh7 rfl inT_X7 (by decide) fL_X7_32 rfl dX7_blocks_20 ?_
    refine go_get (pc := 23) X (fk := 1) (fi := 1) rfl (shB bk5) rfl inT_X1 (by decide) fL_X7_194 rfl dX7_blocks_23 ?_
    refine go_aload_n (pc := 26) X 2 dX7_blocks_26 rfl rfl ?_
    obtain ⟨r8, h9, h⟩ := bind_some h
    refine go_callVi (pc := 27) X 0 [.int (i32 (u6.2 5 1)), .int (i32 u6.1)] (ct_X0_unsold au4 h9) (shA au4) rfl gg_X7_283 hd_X0_unsold ⟨Nat.le_of_ble_eq_true rfl, Nat.le_of_ble_eq_true rfl⟩ rfl rfl (Nat.le_of_ble_eq_true rfl) dX7_blocks_27 ?_
    refine go_imul (pc := 30) X dX7_blocks_30 ?_
    refine go_iadd (pc := 31) X dX7_blocks_31 ?_
    refine go_istore_n (pc := 32) X [1, 2, 3, 0] (Ls' := [(0, .ref (ad 0)), (1, .int (i32 a1)), (2, .ref (ad 4)), (3, .int (i32 (u6.1 + ((u6.2 5 1) * r8))))]) dX7_blocks_32 rfl (by decide) rfl ?_
    refine go_aload_n (pc := 33) X 0 dX7_blocks_33 rfl rfl ?_
    refine go_getr (pc := 34) X (fk := 3) sh7 rfl inT_X7 (by decide) fL_X7_32 rfl dX7_blocks_34 ?_
    obtain ⟨r10, h11, h⟩ := bind_some h
    refine go_callVi (pc := 37) X 0 [] (ct_X1_everyone bk5 h11) (shB bk5) rfl gg_X7_241 hd_X1_everyone ⟨Nat.le_of_ble_eq_true rfl, Nat.le_of_ble_eq_true rfl⟩ rfl rfl (Nat.le_of_ble_eq_true rfl) dX7_blocks_37 ?_
    refine go_istore (pc := 40) X [1, 2, 3, 4, 0] (Ls' := [(0, .ref (ad 0)), (1, .int (i32 a1)), (2, .ref (ad 4)), (3, .int (i32 (u6.1 + ((u6.2 5 1) * r8)))), (4, .int (i32 r10))]) dX7_blocks_40 (by decide) rfl ?_
    refine go_aload_n (pc := 42) X 2 dX7_blocks_42 rfl rfl ?_
    refine go_iload_n (pc := 43) X 1 dX7_blocks_43 rfl rfl ?_
    obtain ⟨S12, h13, h⟩ := bind_some h
    refine go_callVv (pc := 44) X 1 [] (ct_X0_reckonGains au4 h13) (shA au4) rfl gg_X7_286 hd_X0_reckonGains ⟨Nat.le_of_ble_eq_true rfl, Nat.le_of_ble_eq_true rfl⟩ rfl rfl (Nat.le_of_ble_eq_true rfl) dX7_blocks_44 ?_
    refine go_iconst (pc := 47) X dX7_blocks_47 ?_
    refine go_istore (pc := 48) X [1, 2, 3, 4, 5, 0] (Ls' := [(0, .ref (ad 0)), (1, .int (i32 a1)), (2, .ref (ad 4)), (3, .int (i32 (u6.1 + ((u6.2 5 1) * r8)))), (4, .int (i32 r10)), (5, .int (i32 1))]) dX7_blocks_48 (by decide) rfl ?_
    obtain ⟨r20, h21, h⟩ := bind_some h
    have H22 : ∀ (n : Nat) (t23 : Int × Mem) (z24 : (Mem) ⊕ (Int × Mem)), lp (f_X7_blocks_l50 (u6.1 + ((u6.2 5 1) * r8)) r10) n t23 = some z24 → lpG (fun z27 : Mem => Go p l e { frames := 7, cells := 0, slots := 0, locals := 160 } s m args below meth c 6 D cI cB ad shsC A (MQ below (cQ D cI cB ad shsC (some (.int (i32 r))) S' A) args s 0 0 A) 93 [] [] z27) (fun u : Int × Mem => some u = some (r, S')) z24 → Go p l e { frames := 7, cells := 0, slots := 0, locals := 160 } s m args below meth c 6 D cI cB ad shsC A (MQ below (cQ D cI cB ad shsC (some (.int (i32 r))) S' A) args s 0 0 A) 50 [(0, .ref (ad 0)), (2, .ref (ad 4)), (3, .int (i32 (u6.1 + ((u6.2 5 1) * r8)))), (4, .int (i32 r10)), (5, .int (i32 t23.1))] [] t23.2 := by
      refine lp_go (fun t23 : Int × Mem => Go p l e { frames := 7, cells := 0, slots := 0, locals := 160 } s m args below meth c 6 D cI cB ad shsC A (MQ below (cQ D cI cB ad shsC (some (.int (i32 r))) S' A) args s 0 0 A) 50 [(0, .ref (ad 0)), (2, .ref (ad 4)), (3, .int (i32 (u6.1 + ((u6.2 5 1) * r8)))), (4, .int (i32 r10)), (5, .int (i32 t23.1))] [] t23.2) (fun z24 : (Mem) ⊕ (Int × Mem) => lpG (fun z27 : Mem => Go p l e { frames := 7, cells := 0, slots := 0, locals := 160 } s m args below meth c 6 D cI cB ad shsC A (MQ below (cQ D cI cB ad shsC (some (.int (i32 r))) S' A) args s 0 0 A) 93 [] [] z27) (fun u : Int × Mem => some u = some (r, S')) z24) ?_
      intro t23 x25 h hx26
      unfold f_X7_blocks_l50 at h
      refine go_iload (pc := 50) X 4 dX7_blocks_50 rfl ?_
      refine go_iload (pc := 52) X 3 dX7_blocks_52 rfl ?_
      refine go_icmp_gt (pc := 54) X 93 dX7_blocks_54 rfl (fun c28 => ?_) (fun c28 => ?_)
      · rw [if_pos c28] at h
        refine go_pick [] (Ls' := []) rfl ?_
        exact lp_back h hx26
      · rw [if_neg c28] at h
        refine go_aload_n (pc := 57) X 0 dX7_blocks_57 rfl rfl ?_
        refine go_getr (pc := 58) X (fk := 3) sh7 rfl inT_X7 (by decide) fL_X7_32 rfl dX7_blocks_58 ?_
        refine go_iload (pc := 61) X 4 dX7_blocks_61 rfl ?_
        refine go_aload_n (pc := 63) X 0 dX7_blocks_63 rfl rfl ?_
        refine go_getr (pc := 64) X (fk := 3) sh7 rfl inT_X7 (by decide) fL_X7_32 rfl dX7_blocks_64 ?_
        refine go_get (pc := 67) X (fk := 0) (fi := 0) rfl (shB bk5) rfl inT_X1 (by decide) fL_X7_191 rfl dX7_blocks_67 ?_
        obtain ⟨u29, h30, h⟩ := bind_some h
        refine go_callVi (pc := 70) X 2 [] (ct_X1_worthTo bk5 h30) (shB bk5) rfl gg_X7_244 hd_X1_worthTo ⟨Nat.le_of_ble_eq_true rfl, Nat.le_of_ble_eq_true rfl⟩ rfl rfl (Nat.le_of_ble_eq_true rfl) dX7_blocks_70 ?_
        refine go_iload_n (pc := 73) X 2 dX7_blocks_73 rfl rfl ?_
        refine go_aload_n (pc := 74) X 1 dX7_blocks_74 rfl rfl ?_
        refine go_iload (pc := 75) X 4 dX7_blocks_75 rfl ?_
        obtain ⟨r31, h32, h⟩ := bind_some h
        refine go_callVi (pc := 77) X 1 [.int (i32 (u6.1 + ((u6.2 5 1) * r8))), .int (i32 u29.1)] (ct_X0_gainOfSet au4 h32) (shA au4) rfl gg_X7_289 hd_X0_gainOfSet ⟨Nat.le_of_ble_eq_true rfl, Nat.le_of_ble_eq_true rfl⟩ rfl rfl (Nat.le_of_ble_eq_true rfl) dX7_blocks_77 ?_
        refine go_iadd (pc := 80) X dX7_blocks_80 ?_
        refine go_icmp_le (pc := 81) X 87 dX7_blocks_81 rfl (fun c33 => ?_) (fun c33 => ?_)
        · rw [if_neg c33] at h
          refine go_iinc (pc := 87) X [1, 2, 3, 4, 0] 4 (Ls' := [(0, .ref (ad 0)), (2, .ref (ad 4)), (3, .int (i32 (u6.1 + ((u6.2 5 1) * r8)))), (4, .int (i32 r10)), (5, .int (i32 (t23.1 + 1)))]) dX7_blocks_87 rfl (by decide) rfl ?_
          refine go_goto (pc := 90) X 50 dX7_blocks_90 rfl ?_
          exact lp_back h hx26
        · rw [if_pos c33] at h
          refine go_iload (pc := 84) X 4 dX7_blocks_84 rfl ?_
          exact go_iret (pc := 86) X (lp_back h hx26) dX7_blocks_86
    refine go_pick [0, 2, 3, 4, 5] (Ls' := [(0, .ref (ad 0)), (2, .ref (ad 4)), (3, .int (i32 (u6.1 + ((u6.2 5 1) * r8)))), (4, .int (i32 r10)), (5, .int (i32 1))]) rfl ?_
    refine H22 FU (1, S12) r20 h21 ?_
    cases r20 with
    | inl r34 =>
      have h := lct_l h
      refine lpG_l ?_
      refine go_bipush (pc := 93) X dX7_blocks_93 (by decide) (by decide) ?_
      exact go_iret (pc := 95) X h dX7_blocks_95
    | inr u35 =>
      have h := lct_r h
      refine lpG_r ?_
      exact h
  · rw [if_pos c3] at h
    refine go_iconst (pc := 7) X dX7_blocks_7 ?_
    exact go_iret (pc := 8) X h dX7_blocks_8
set_option maxRecDepth 100000 in
set_option maxHeartbeats 4000000 in
theorem ct_X7_record {l : Launch} {D : va_G} {cI cB : ClassId} {Z : (Nat → Nat) × (Nat → Nat)} {ad : Nat → Nat} {S : Mem} {a1 : Int} {a2 : Int} {r : Int} (h : f_X7_record S a1 a2 = some r) : Ctr l D cI cB Z ad shsC yX7_record cX7_record 3 (some .int) 1 22 [.ref (ad 0), .int (i32 a1), .int (i32 a2)] S (some (.int (i32 r))) S := by
  refine ctr_of (by decide +kernel) (Nat.le_of_ble_eq_true rfl) rfl ?_
  intro p e s m args below meth c A X
  unfold f_X7_record at h
  refine go_aload_n (pc := 0) X 0 dX7_record_0 rfl rfl ?_
  refine go_getr (pc := 1) X (fk := 4) sh7 rfl inT_X7 (by decide) fL_X7_36 rfl dX7_record_1 ?_
  refine go_iload_n (pc := 4) X 1 dX7_record_4 rfl rfl ?_
  refine go_iload_n (pc := 5) X 2 dX7_record_5 rfl rfl ?_
  obtain ⟨r1, h2, h⟩ := bind_some h
  refine go_callVi (pc := 6) X 2 [] (ct_X3_read h2) sh3 rfl gg_X7_292 hd_X3_read ⟨Nat.le_of_ble_eq_true rfl, Nat.le_of_ble_eq_true rfl⟩ rfl rfl (Nat.le_of_ble_eq_true rfl) dX7_record_6 ?_
  exact go_iretP (pc := 9) X h dX7_record_9
