set_option maxRecDepth 100000 in
set_option maxHeartbeats 4000000 in
theorem ct_X7_bySupply {l : Launch} {D : va_G} {cI cB : ClassId} {Z : (Nat → Nat) × (Nat → Nat)} {ad : Nat → Nat} {S : Mem} {a1 : Int} {a2 : Int} {r : Int} {S' : Mem} (h : f_X7_bySupply S a1 a2 = some (r, S')) : Ctr l D cI cB Z ad shsC yX7_bySupply cX7_bySupply 3 (some .int) 5 112 [.ref (ad 0), .int (i32 a1), .int (i32 a2)] S (some (.int (i32 r))) S' := by
  refine ctr_of (by decide +kernel) (Nat.le_of_ble_eq_true rfl) rfl ?_
  intro p e s m args below meth c A X
  unfold f_X7_bySupply at h
  refine go_iload_n (pc := 0) X 1 dX7_bySupply_0 rfl rfl ?_
  obtain ⟨r1, h2, h⟩ := bind_some h
  refine go_callSi (pc := 1) X 1 [] (ct_X7_isSupply h2) gg_X7_188 hd_X7_isSupply ⟨Nat.le_of_ble_eq_true rfl, Nat.le_of_ble_eq_true rfl⟩ rfl rfl (Nat.le_of_ble_eq_true rfl) dX7_bySupply_1 ?_
  refine go_if_ne (pc := 4) X 9 dX7_bySupply_4 rfl (fun c3 => ?_) (fun c3 => ?_)
  · rw [if_neg c3] at h
    refine go_aload_n (pc := 9) X 0 dX7_bySupply_9 rfl rfl ?_
    refine go_getr (pc := 10) X (fk := 7) sh7 rfl inT_X7 (by decide) fL_X7_50 rfl dX7_bySupply_10 ?_
    refine go_aload_n (pc := 13) X 0 dX7_bySupply_13 rfl rfl ?_
    refine go_getr (pc := 14) X (fk := 3) sh7 rfl inT_X7 (by decide) fL_X7_32 rfl dX7_bySupply_14 ?_
    obtain ⟨S4, h5, h⟩ := bind_some h
    refine go_callVv (pc := 17) X 1 [] (ct_X1_takeFrom bk19 bk5 h5) (shB bk19) rfl gg_X7_82 hd_X1_takeFrom ⟨Nat.le_of_ble_eq_true rfl, Nat.le_of_ble_eq_true rfl⟩ rfl rfl (Nat.le_of_ble_eq_true rfl) dX7_bySupply_17 ?_
    refine go_aload_n (pc := 20) X 0 dX7_bySupply_20 rfl rfl ?_
    refine go_getr (pc := 21) X (fk := 7) sh7 rfl inT_X7 (by decide) fL_X7_50 rfl dX7_bySupply_21 ?_
    refine go_iload_n (pc := 24) X 1 dX7_bySupply_24 rfl rfl ?_
    obtain ⟨S6, e7, h⟩ := wrk_some h
    refine go_putE (pc := 25) X (fk := 0) (fi := 0) rfl e7 (shB bk19) rfl inT_X1 tyX1_ok nmX1 (by decide) fL_X7_191 rfl rfl rfl rfl rfl dX7_bySupply_25 ?_
    refine go_aload_n (pc := 28) X 0 dX7_bySupply_28 rfl rfl ?_
    refine go_getr (pc := 29) X (fk := 6) sh7 rfl inT_X7 (by decide) fL_X7_47 rfl dX7_bySupply_29 ?_
    obtain ⟨S8, h9, h⟩ := bind_some h
    refine go_callVv (pc := 32) X 0 [] (ct_X0_run au18 h9) (shA au18) rfl gg_X7_294 hd_X0_run ⟨Nat.le_of_ble_eq_true rfl, Nat.le_of_ble_eq_true rfl⟩ rfl rfl (Nat.le_of_ble_eq_true rfl) dX7_bySupply_32 ?_
    refine go_aload_n (pc := 35) X 0 dX7_bySupply_35 rfl rfl ?_
    refine go_getr (pc := 36) X (fk := 6) sh7 rfl inT_X7 (by decide) fL_X7_47 rfl dX7_bySupply_36 ?_
    refine go_iload_n (pc := 39) X 2 dX7_bySupply_39 rfl rfl ?_
    obtain ⟨u10, h11, h⟩ := bind_some h
    refine go_callVi (pc := 40) X 1 [] (ct_X0_tell au18 h11) (shA au18) rfl gg_X7_229 hd_X0_tell ⟨Nat.le_of_ble_eq_true rfl, Nat.le_of_ble_eq_true rfl⟩ rfl rfl (Nat.le_of_ble_eq_true rfl) dX7_bySupply_40 ?_
    exact go_iret (pc := 43) X h dX7_bySupply_43
  · rw [if_pos c3] at h
    refine go_iconst (pc := 7) X dX7_bySupply_7 ?_
    exact go_iret (pc := 8) X h dX7_bySupply_8
set_option maxRecDepth 100000 in
set_option maxHeartbeats 4000000 in
theorem ct_X7_supposeReserve {l : Launch} {D : va_G} {cI cB : ClassId} {Z : (Nat → Nat) × (Nat → Nat)} {ad : Nat → Nat} {S : Mem} {a1 : Int} {S' : Mem} (h : f_X7_supposeReserve S a1 = some S') : Ctr l D cI cB Z ad shsC yX7_supposeReserve cX7_supposeReserve 2 none 5 112 [.ref (ad 0), .int (i32 a1)] S (none) S' := by
  refine ctr_of (by decide +kernel) (Nat.le_of_ble_eq_true rfl) rfl ?_
  intro p e s m args below meth c A X
  unfold f_X7_supposeReserve at h
  refine go_aload_n (pc := 0) X 0 dX7_supposeReserve_0 rfl rfl ?_
  refine go_getr (pc := 1) X (fk := 7) sh7 rfl inT_X7 (by decide) fL_X7_50 rfl dX7_supposeReserve_1 ?_
  refine go_aload_n (pc := 4) X 0 dX7_supposeReserve_4 rfl rfl ?_
  refine go_getr (pc := 5) X (fk := 3) sh7 rfl inT_X7 (by decide) fL_X7_32 rfl dX7_supposeReserve_5 ?_
  obtain ⟨S1, h2, h⟩ := bind_some h
  refine go_callVv (pc := 8) X 1 [] (ct_X1_takeFrom bk19 bk5 h2) (shB bk19) rfl gg_X7_82 hd_X1_takeFrom ⟨Nat.le_of_ble_eq_true rfl, Nat.le_of_ble_eq_true rfl⟩ rfl rfl (Nat.le_of_ble_eq_true rfl) dX7_supposeReserve_8 ?_
  refine go_aload_n (pc := 11) X 0 dX7_supposeReserve_11 rfl rfl ?_
  refine go_getr (pc := 12) X (fk := 7) sh7 rfl inT_X7 (by decide) fL_X7_50 rfl dX7_supposeReserve_12 ?_
  refine go_iload_n (pc := 15) X 1 dX7_supposeReserve_15 rfl rfl ?_
  obtain ⟨S3, e4, h⟩ := wrk_some h
  refine go_putE (pc := 16) X (fk := 1) (fi := 1) rfl e4 (shB bk19) rfl inT_X1 tyX1_ok nmX1 (by decide) fL_X7_194 rfl rfl rfl rfl rfl dX7_supposeReserve_16 ?_
  refine go_aload_n (pc := 19) X 0 dX7_supposeReserve_19 rfl rfl ?_
  refine go_getr (pc := 20) X (fk := 6) sh7 rfl inT_X7 (by decide) fL_X7_47 rfl dX7_supposeReserve_20 ?_
  obtain ⟨S5, h6, h⟩ := bind_some h
  refine go_callVv (pc := 23) X 0 [] (ct_X0_run au18 h6) (shA au18) rfl gg_X7_294 hd_X0_run ⟨Nat.le_of_ble_eq_true rfl, Nat.le_of_ble_eq_true rfl⟩ rfl rfl (Nat.le_of_ble_eq_true rfl) dX7_supposeReserve_23 ?_
  exact go_vret (pc := 26) X h dX7_supposeReserve_26
set_option maxRecDepth 100000 in
set_option maxHeartbeats 4000000 in
theorem ct_X7_byReserve {l : Launch} {D : va_G} {cI cB : ClassId} {Z : (Nat → Nat) × (Nat → Nat)} {ad : Nat → Nat} {S : Mem} {a1 : Int} {a2 : Int} {r : Int} {S' : Mem} (h : f_X7_byReserve S a1 a2 = some (r, S')) : Ctr l D cI cB Z ad shsC yX7_byReserve cX7_byReserve 3 (some .int) 6 133 [.ref (ad 0), .int (i32 a1), .int (i32 a2)] S (some (.int (i32 r))) S' := by
  refine ctr_of (by decide +kernel) (Nat.le_of_ble_eq_true rfl) rfl ?_
  intro p e s m args below meth c A X
  unfold f_X7_byReserve at h
  refine go_iload_n (pc := 0) X 1 dX7_byReserve_0 rfl rfl ?_
  obtain ⟨r1, h2, h⟩ := bind_some h
  refine go_callSi (pc := 1) X 1 [] (ct_X7_isPrice h2) gg_X7_110 hd_X7_isPrice ⟨Nat.le_of_ble_eq_true rfl, Nat.le_of_ble_eq_true rfl⟩ rfl rfl (Nat.le_of_ble_eq_true rfl) dX7_byReserve_1 ?_
  refine go_if_ne (pc := 4) X 9 dX7_byReserve_4 rfl (fun c3 => ?_) (fun c3 => ?_)
  · rw [if_neg c3] at h
    refine go_aload_n (pc := 9) X 0 dX7_byReserve_9 rfl rfl ?_
    refine go_iload_n (pc := 10) X 1 dX7_byReserve_10 rfl rfl ?_
    obtain ⟨S4, h5, h⟩ := bind_some h
    refine go_callVv (pc := 11) X 1 [] (ct_X7_supposeReserve h5) sh7 rfl gg_X7_297 hd_X7_supposeReserve ⟨Nat.le_of_ble_eq_true rfl, Nat.le_of_ble_eq_true rfl⟩ rfl rfl (Nat.le_of_ble_eq_true rfl) dX7_byReserve_11 ?_
    refine go_aload_n (pc := 14) X 0 dX7_byReserve_14 rfl rfl ?_
    refine go_getr (pc := 15) X (fk := 6) sh7 rfl inT_X7 (by decide) fL_X7_47 rfl dX7_byReserve_15 ?_
    refine go_iload_n (pc := 18) X 2 dX7_byReserve_18 rfl rfl ?_
    obtain ⟨u6, h7, h⟩ := bind_some h
    refine go_callVi (pc := 19) X 1 [] (ct_X0_tell au18 h7) (shA au18) rfl gg_X7_229 hd_X0_tell ⟨Nat.le_of_ble_eq_true rfl, Nat.le_of_ble_eq_true rfl⟩ rfl rfl (Nat.le_of_ble_eq_true rfl) dX7_byReserve_19 ?_
    exact go_iret (pc := 22) X h dX7_byReserve_22
  · rw [if_pos c3] at h
    refine go_iconst (pc := 7) X dX7_byReserve_7 ?_
    exact go_iret (pc := 8) X h dX7_byReserve_8
set_option maxRecDepth 100000 in
set_option maxHeartbeats 4000000 in
theorem ct_X7_bestReserve {l : Launch} {D : va_G} {cI cB : ClassId} {Z : (Nat → Nat) × (Nat → Nat)} {ad : Nat → Nat} {S : Mem} {a1 : Int} {r : Int} {S' : Mem} (h : f_X7_bestReserve S a1 = some (r, S')) : Ctr l D cI cB Z ad shsC yX7_bestReserve cX7_bestReserve 6 (some .int) 6 139 [.ref (ad 0), .int (i32 a1)] S (some (.int (i32 r))) S' := by
  refine ctr_of (by decide +kernel) (Nat.le_of_ble_eq_true rfl) rfl ?_
  intro p e s m args below meth c A X
  unfold f_X7_bestReserve at h
  refine go_iload_n (pc := 0) X 1 dX7_bestReserve_0 rfl rfl ?_
  obtain ⟨r1, h2, h⟩ := bind_some h
  refine go_callSi (pc := 1) X 1 [] (ct_X7_isKind h2) gg_X7_151 hd_X7_isKind ⟨Nat.le_of_ble_eq_true rfl, Nat.le_of_ble_eq_true rfl⟩ rfl rfl (Nat.le_of_ble_eq_true rfl) dX7_bestReserve_1 ?_
  refine go_if_ne (pc := 4) X 9 dX7_bestReserve_4 rfl (fun c3 => ?_) (fun c3 => ?_)
  · rw [if_neg c3] at h
    refine go_iconst (pc := 9) X dX7_bestReserve_9 ?_
    refine go_istore_n (pc := 10) X [1, 2, 0] (Ls' := [(0, .ref (ad 0)), (1, .int (i32 a1)), (2, .int (i32 0))]) dX7_bestReserve_10 rfl (by decide) rfl ?_
    refine go_ldc (pc := 11) X (-1000000) cn_X7_253 rfl dX7_bestReserve_11 ?_
    refine go_istore_n (pc := 13) X [1, 2, 3, 0] (Ls' := [(0, .ref (ad 0)), (1, .int (i32 a1)), (2, .int (i32 0)), (3, .int (i32 (-1000000)))]) dX7_bestReserve_13 rfl (by decide) rfl ?_
    refine go_iconst (pc := 14) X dX7_bestReserve_14 ?_
    refine go_istore (pc := 15) X [1, 2, 3, 4, 0] (Ls' := [(0, .ref (ad 0)), (1, .int (i32 a1)), (2, .int (i32 0)), (3, .int (i32 (-1000000))), (4, .int (i32 0))]) dX7_bestReserve_15 (by decide) rfl ?_
    obtain ⟨r13, h14, h⟩ := bind_some h
    have H15 : ∀ (n : Nat) (t16 : Int × Int × Int × Mem) (z17 : Int × Mem), lp (f_X7_bestReserve_l17 a1) n t16 = some z17 → Go p l e { frames := 6, cells := 0, slots := 0, locals := 139 } s m args below meth c 6 D cI cB ad shsC A (MQ below (cQ D cI cB ad shsC (some (.int (i32 r))) S' A) args s 0 0 A) 58 [(2, .int (i32 z17.1))] [] z17.2 → Go p l e { frames := 6, cells := 0, slots := 0, locals := 139 } s m args below meth c 6 D cI cB ad shsC A (MQ below (cQ D cI cB ad shsC (some (.int (i32 r))) S' A) args s 0 0 A) 17 [(0, .ref (ad 0)), (1, .int (i32 a1)), (2, .int (i32 t16.1)), (3, .int (i32 t16.2.1)), (4, .int (i32 t16.2.2.1))] [] t16.2.2.2 := by
      refine lp_go (fun t16 : Int × Int × Int × Mem => Go p l e { frames := 6, cells := 0, slots := 0, locals := 139 } s m args below meth c 6 D cI cB ad shsC A (MQ below (cQ D cI cB ad shsC (some (.int (i32 r))) S' A) args s 0 0 A) 17 [(0, .ref (ad 0)), (1, .int (i32 a1)), (2, .int (i32 t16.1)), (3, .int (i32 t16.2.1)), (4, .int (i32 t16.2.2.1))] [] t16.2.2.2) (fun z17 : Int × Mem => Go p l e { frames := 6, cells := 0, slots := 0, locals := 139 } s m args below meth c 6 D cI cB ad shsC A (MQ below (cQ D cI cB ad shsC (some (.int (i32 r))) S' A) args s 0 0 A) 58 [(2, .int (i32 z17.1))] [] z17.2) ?_
      intro t16 x18 h hx19
      unfold f_X7_bestReserve_l17 at h
      refine go_iload (pc := 17) X 4 dX7_bestReserve_17 rfl ?_
      refine go_bipush (pc := 19) X dX7_bestReserve_19 (by decide) (by decide) ?_
      refine go_icmp_gt (pc := 21) X 58 dX7_bestReserve_21 rfl (fun c21 => ?_) (fun c21 => ?_)
      · rw [if_pos c21] at h
        refine go_pick [2] (Ls' := [(2, .int (i32 t16.1))]) rfl ?_
        exact lp_back h hx19
      · rw [if_neg c21] at h
        refine go_aload_n (pc := 24) X 0 dX7_bestReserve_24 rfl rfl ?_
        refine go_iload (pc := 25) X 4 dX7_bestReserve_25 rfl ?_
        obtain ⟨S22, h23, h⟩ := bind_some h
        refine go_callVv (pc := 27) X 1 [] (ct_X7_supposeReserve h23) sh7 rfl gg_X7_297 hd_X7_supposeReserve ⟨Nat.le_of_ble_eq_true rfl, Nat.le_of_ble_eq_true rfl⟩ rfl rfl (Nat.le_of_ble_eq_true rfl) dX7_bestReserve_27 ?_
        refine go_aload_n (pc := 30) X 0 dX7_bestReserve_30 rfl rfl ?_
        refine go_getr (pc := 31) X (fk := 6) sh7 rfl inT_X7 (by decide) fL_X7_47 rfl dX7_bestReserve_31 ?_
        refine go_iload_n (pc := 34) X 1 dX7_bestReserve_34 rfl rfl ?_
        obtain ⟨u24, h25, h⟩ := bind_some h
        refine go_callVi (pc := 35) X 1 [] (ct_X0_paidByAll au18 h25) (shA au18) rfl gg_X7_164 hd_X0_paidByAll ⟨Nat.le_of_ble_eq_true rfl, Nat.le_of_ble_eq_true rfl⟩ rfl rfl (Nat.le_of_ble_eq_true rfl) dX7_bestReserve_35 ?_
        refine go_istore (pc := 38) X [1, 2, 3, 4, 5, 0] (Ls' := [(0, .ref (ad 0)), (1, .int (i32 a1)), (2, .int (i32 t16.1)), (3, .int (i32 t16.2.1)), (4, .int (i32 t16.2.2.1)), (5, .int (i32 u24.1))]) dX7_bestReserve_38 (by decide) rfl ?_
        refine go_iload (pc := 40) X 5 dX7_bestReserve_40 rfl ?_
        refine go_iload_n (pc := 42) X 3 dX7_bestReserve_42 rfl rfl ?_
        obtain ⟨j26, h27, h⟩ := bind_some h
        have k28 : Go p l e { frames := 6, cells := 0, slots := 0, locals := 139 } s m args below meth c 6 D cI cB ad shsC A (MQ below (cQ D cI cB ad shsC (some (.int (i32 r))) S' A) args s 0 0 A) 52 [(0, .ref (ad 0)), (1, .int (i32 a1)), (2, .int (i32 j26.1)), (3, .int (i32 j26.2)), (4, .int (i32 t16.2.2.1))] [] u24.2 := by
          refine go_iinc (pc := 52) X [1, 2, 3, 4, 0] 4 (Ls' := [(0, .ref (ad 0)), (1, .int (i32 a1)), (2, .int (i32 j26.1)), (3, .int (i32 j26.2)), (4, .int (i32 (t16.2.2.1 + 1)))]) dX7_bestReserve_52 rfl (by decide) rfl ?_
          refine go_goto (pc := 55) X 17 dX7_bestReserve_55 rfl ?_
          exact lp_back h hx19
        refine go_icmp_le (pc := 43) X 52 dX7_bestReserve_43 rfl (fun c29 => ?_) (fun c29 => ?_)
        · rw [if_neg c29] at h27
          cases h27
          refine go_pick [0, 1, 2, 3, 4] (Ls' := [(0, .ref (ad 0)), (1, .int (i32 a1)), (2, .int (i32 t16.1)), (3, .int (i32 t16.2.1)), (4, .int (i32 t16.2.2.1))]) rfl ?_
          exact k28
        · rw [if_pos c29] at h27
          refine go_iload (pc := 46) X 5 dX7_bestReserve_46 rfl ?_
          refine go_istore_n (pc := 48) X [1, 2, 3, 0, 4, 5] (Ls' := [(0, .ref (ad 0)), (1, .int (i32 a1)), (2, .int (i32 t16.1)), (3, .int (i32 u24.1)), (4, .int (i32 t16.2.2.1)), (5, .int (i32 u24.1))]) dX7_bestReserve_48 rfl (by decide) rfl ?_
          refine go_iload (pc := 49) X 4 dX7_bestReserve_49 rfl ?_
          refine go_istore_n (pc := 51) X [1, 2, 0, 3, 4, 5] (Ls' := [(0, .ref (ad 0)), (1, .int (i32 a1)), (2, .int (i32 t16.2.2.1)), (3, .int (i32 u24.1)), (4, .int (i32 t16.2.2.1)), (5, .int (i32 u24.1))]) dX7_bestReserve_51 rfl (by decide) rfl ?_
          cases h27
          refine go_pick [0, 1, 2, 3, 4] (Ls' := [(0, .ref (ad 0)), (1, .int (i32 a1)), (2, .int (i32 t16.2.2.1)), (3, .int (i32 u24.1)), (4, .int (i32 t16.2.2.1))]) rfl ?_
          exact k28
    refine H15 FU (0, (-1000000), 0, S) r13 h14 ?_
    refine go_iload_n (pc := 58) X 0 dX7_bestReserve_58 rfl rfl ?_
    exact go_iret (pc := 59) X h dX7_bestReserve_59
  · rw [if_pos c3] at h
    refine go_iconst (pc := 7) X dX7_bestReserve_7 ?_
    exact go_iret (pc := 8) X h dX7_bestReserve_8
set_option maxRecDepth 100000 in
set_option maxHeartbeats 4000000 in
theorem ct_X7_supposeWithout {l : Launch} {D : va_G} {cI cB : ClassId} {Z : (Nat → Nat) × (Nat → Nat)} {ad : Nat → Nat} {S : Mem} {a1 : Int} {S' : Mem} (h : f_X7_supposeWithout S a1 = some S') : Ctr l D cI cB Z ad shsC yX7_supposeWithout cX7_supposeWithout 2 none 5 112 [.ref (ad 0), .int (i32 a1)] S (none) S' := by
  refine ctr_of (by decide +kernel) (Nat.le_of_ble_eq_true rfl) rfl ?_
  intro p e s m args below meth c A X
  unfold f_X7_supposeWithout at h
  refine go_aload_n (pc := 0) X 0 dX7_supposeWithout_0 rfl rfl ?_
  refine go_getr (pc := 1) X (fk := 7) sh7 rfl inT_X7 (by decide) fL_X7_50 rfl dX7_supposeWithout_1 ?_
  refine go_aload_n (pc := 4) X 0 dX7_supposeWithout_4 rfl rfl ?_
  refine go_getr (pc := 5) X (fk := 3) sh7 rfl inT_X7 (by decide) fL_X7_32 rfl dX7_supposeWithout_5 ?_
  obtain ⟨S1, h2, h⟩ := bind_some h
  refine go_callVv (pc := 8) X 1 [] (ct_X1_takeFrom bk19 bk5 h2) (shB bk19) rfl gg_X7_82 hd_X1_takeFrom ⟨Nat.le_of_ble_eq_true rfl, Nat.le_of_ble_eq_true rfl⟩ rfl rfl (Nat.le_of_ble_eq_true rfl) dX7_supposeWithout_8 ?_
  refine go_aload_n (pc := 11) X 0 dX7_supposeWithout_11 rfl rfl ?_
  refine go_getr (pc := 12) X (fk := 7) sh7 rfl inT_X7 (by decide) fL_X7_50 rfl dX7_supposeWithout_12 ?_
  refine go_iload_n (pc := 15) X 1 dX7_supposeWithout_15 rfl rfl ?_
  obtain ⟨S3, h4, h⟩ := bind_some h
  refine go_callVv (pc := 16) X 1 [] (ct_X1_removeBidder bk19 h4) (shB bk19) rfl gg_X7_107 hd_X1_removeBidder ⟨Nat.le_of_ble_eq_true rfl, Nat.le_of_ble_eq_true rfl⟩ rfl rfl (Nat.le_of_ble_eq_true rfl) dX7_supposeWithout_16 ?_
  refine go_aload_n (pc := 19) X 0 dX7_supposeWithout_19 rfl rfl ?_
  refine go_getr (pc := 20) X (fk := 6) sh7 rfl inT_X7 (by decide) fL_X7_47 rfl dX7_supposeWithout_20 ?_
  obtain ⟨S5, h6, h⟩ := bind_some h
  refine go_callVv (pc := 23) X 0 [] (ct_X0_run au18 h6) (shA au18) rfl gg_X7_294 hd_X0_run ⟨Nat.le_of_ble_eq_true rfl, Nat.le_of_ble_eq_true rfl⟩ rfl rfl (Nat.le_of_ble_eq_true rfl) dX7_supposeWithout_23 ?_
  exact go_vret (pc := 26) X h dX7_supposeWithout_26
set_option maxRecDepth 100000 in
set_option maxHeartbeats 4000000 in
theorem ct_X7_placeWithout {l : Launch} {D : va_G} {cI cB : ClassId} {Z : (Nat → Nat) × (Nat → Nat)} {ad : Nat → Nat} {S : Mem} {a0 : Int} {a1 : Int} {r : Int} (h : f_X7_placeWithout S a0 a1 = some r) : Ctr l D cI cB Z ad shsC yX7_placeWithout cX7_placeWithout 2 (some .int) 0 0 [.int (i32 a0), .int (i32 a1)] S (some (.int (i32 r))) S := by
  refine ctr_of (by decide +kernel) (Nat.le_of_ble_eq_true rfl) rfl ?_
  intro p e s m args below meth c A X
  unfold f_X7_placeWithout at h
  refine go_iload_n (pc := 0) X 1 dX7_placeWithout_0 rfl rfl ?_
  refine go_iload_n (pc := 1) X 0 dX7_placeWithout_1 rfl rfl ?_
  refine go_icmp_ge (pc := 2) X 11 dX7_placeWithout_2 rfl (fun c1 => ?_) (fun c1 => ?_)
  · rw [if_neg c1] at h
    refine go_iload_n (pc := 11) X 0 dX7_placeWithout_11 rfl rfl ?_
    exact go_iretP (pc := 12) X h dX7_placeWithout_12
  · rw [if_pos c1] at h
    refine go_iload_n (pc := 5) X 0 dX7_placeWithout_5 rfl rfl ?_
    refine go_iconst (pc := 6) X dX7_placeWithout_6 ?_
    refine go_isub (pc := 7) X dX7_placeWithout_7 ?_
    refine go_goto (pc := 8) X 12 dX7_placeWithout_8 rfl ?_
    exact go_iretP (pc := 12) X h dX7_placeWithout_12
set_option maxRecDepth 100000 in
set_option maxHeartbeats 4000000 in
theorem ct_X7_unitsWithout {l : Launch} {D : va_G} {cI cB : ClassId} {Z : (Nat → Nat) × (Nat → Nat)} {ad : Nat → Nat} {S : Mem} {a1 : Int} {a2 : Int} {r : Int} {S' : Mem} (h : f_X7_unitsWithout S a1 a2 = some (r, S')) : Ctr l D cI cB Z ad shsC yX7_unitsWithout cX7_unitsWithout 3 (some .int) 6 133 [.ref (ad 0), .int (i32 a1), .int (i32 a2)] S (some (.int (i32 r))) S' := by
  refine ctr_of (by decide +kernel) (Nat.le_of_ble_eq_true rfl) rfl ?_
  intro p e s m args below meth c A X
  unfold f_X7_unitsWithout at h
  refine go_aload_n (pc := 0) X 0 dX7_unitsWithout_0 rfl rfl ?_
  refine go_getr (pc := 1) X (fk := 3) sh7 rfl inT_X7 (by decide) fL_X7_32 rfl dX7_unitsWithout_1 ?_
  refine go_iload_n (pc := 4) X 1 dX7_unitsWithout_4 rfl rfl ?_
  refine go_iload_n (pc := 5) X 2 dX7_unitsWithout_5 rfl rfl ?_
  obtain ⟨r1, h2, h⟩ := bind_some h
  refine go_callVi (pc := 6) X 2 [] (ct_X1_hasTwo bk5 h2) (shB bk5) rfl gg_X7_141 hd_X1_hasTwo ⟨Nat.le_of_ble_eq_true rfl, Nat.le_of_ble_eq_true rfl⟩ rfl rfl (Nat.le_of_ble_eq_true rfl) dX7_unitsWithout_6 ?_
  refine go_if_ne (pc := 9) X 14 dX7_unitsWithout_9 rfl (fun c3 => ?_) (fun c3 => ?_)
  · rw [if_neg c3] at h
    refine go_aload_n (pc := 14) X 0 dX7_unitsWithout_14 rfl rfl ?_
    refine go_iload_n (pc := 15) X 2 dX7_unitsWithout_15 rfl rfl ?_
    obtain ⟨S4, h5, h⟩ := bind_some h
    refine go_callVv (pc := 16) X 1 [] (ct_X7_supposeWithout h5) sh7 rfl gg_X7_300 hd_X7_supposeWithout ⟨Nat.le_of_ble_eq_true rfl, Nat.le_of_ble_eq_true rfl⟩ rfl rfl (Nat.le_of_ble_eq_true rfl) dX7_unitsWithout_16 ?_
    refine go_aload_n (pc := 19) X 0 dX7_unitsWithout_19 rfl rfl ?_
    refine go_getr (pc := 20) X (fk := 6) sh7 rfl inT_X7 (by decide) fL_X7_47 rfl dX7_unitsWithout_20 ?_
    refine go_getr (pc := 23) X (fk := 4) (shA au18) rfl inT_X0 (by decide) fL_X7_172 rfl dX7_unitsWithout_23 ?_
    refine go_iload_n (pc := 26) X 1 dX7_unitsWithout_26 rfl rfl ?_
    refine go_iload_n (pc := 27) X 2 dX7_unitsWithout_27 rfl rfl ?_
    obtain ⟨r6, h7, h⟩ := bind_some h
    refine go_callSi (pc := 28) X 2 [.ref (ad 25)] (ct_X7_placeWithout h7) gg_X7_303 hd_X7_placeWithout ⟨Nat.le_of_ble_eq_true rfl, Nat.le_of_ble_eq_true rfl⟩ rfl rfl (Nat.le_of_ble_eq_true rfl) dX7_unitsWithout_28 ?_
    obtain ⟨g8, h⟩ := gd_some h
    refine go_iald (pc := 31) X (shA7 au18) (Nat.le_of_ble_eq_true rfl) rfl g8 dX7_unitsWithout_31 ?_
    exact go_iret (pc := 32) X h dX7_unitsWithout_32
  · rw [if_pos c3] at h
    refine go_iconst (pc := 12) X dX7_unitsWithout_12 ?_
    exact go_iret (pc := 13) X h dX7_unitsWithout_13
set_option maxRecDepth 100000 in
set_option maxHeartbeats 4000000 in
theorem ct_X7_paidWithout {l : Launch} {D : va_G} {cI cB : ClassId} {Z : (Nat → Nat) × (Nat → Nat)} {ad : Nat → Nat} {S : Mem} {a1 : Int} {a2 : Int} {r : Int} {S' : Mem} (h : f_X7_paidWithout S a1 a2 = some (r, S')) : Ctr l D cI cB Z ad shsC yX7_paidWithout cX7_paidWithout 3 (some .int) 6 139 [.ref (ad 0), .int (i32 a1), .int (i32 a2)] S (some (.int (i32 r))) S' := by
  refine ctr_of (by decide +kernel) (Nat.le_of_ble_eq_true rfl) rfl ?_
  intro p e s m args below meth c A X
  unfold f_X7_paidWithout at h
  refine go_aload_n (pc := 0) X 0 dX7_paidWithout_0 rfl rfl ?_
  refine go_getr (pc := 1) X (fk := 3) sh7 rfl inT_X7 (by decide) fL_X7_32 rfl dX7_paidWithout_1 ?_
  refine go_iload_n (pc := 4) X 1 dX7_paidWithout_4 rfl rfl ?_
  obtain ⟨r1, h2, h⟩ := bind_some h
  refine go_callVi (pc := 5) X 1 [] (ct_X1_has bk5 h2) (shB bk5) rfl gg_X7_104 hd_X1_has ⟨Nat.le_of_ble_eq_true rfl, Nat.le_of_ble_eq_true rfl⟩ rfl rfl (Nat.le_of_ble_eq_true rfl) dX7_paidWithout_5 ?_
  refine go_if_eq (pc := 8) X 18 dX7_paidWithout_8 rfl (fun c3 => ?_) (fun c3 => ?_)
  · rw [if_pos c3] at h
    refine go_iconst (pc := 18) X dX7_paidWithout_18 ?_
    exact go_iret (pc := 19) X h dX7_paidWithout_19
  · rw [if_neg c3] at h
    refine go_iload_n (pc := 11) X 2 dX7_paidWithout_11 rfl rfl ?_
    obtain ⟨r4, h5, h⟩ := bind_some h
    refine go_callSi (pc := 12) X 1 [] (ct_X7_isKind h5) gg_X7_151 hd_X7_isKind ⟨Nat.le_of_ble_eq_true rfl, Nat.le_of_ble_eq_true rfl⟩ rfl rfl (Nat.le_of_ble_eq_true rfl) dX7_paidWithout_12 ?_
    refine go_if_ne (pc := 15) X 20 dX7_paidWithout_15 rfl (fun c6 => ?_) (fun c6 => ?_)
    · rw [if_neg c6] at h
      refine go_aload_n (pc := 20) X 0 dX7_paidWithout_20 rfl rfl ?_
      refine go_iload_n (pc := 21) X 1 dX7_paidWithout_21 rfl rfl ?_
      obtain ⟨S7, h8, h⟩ := bind_some h
      refine go_callVv (pc := 22) X 1 [] (ct_X7_supposeWithout h8) sh7 rfl gg_X7_300 hd_X7_supposeWithout ⟨Nat.le_of_ble_eq_true rfl, Nat.le_of_ble_eq_true rfl⟩ rfl rfl (Nat.le_of_ble_eq_true rfl) dX7_paidWithout_22 ?_
      refine go_aload_n (pc := 25) X 0 dX7_paidWithout_25 rfl rfl ?_
      refine go_getr (pc := 26) X (fk := 6) sh7 rfl inT_X7 (by decide) fL_X7_47 rfl dX7_paidWithout_26 ?_
      refine go_iload_n (pc := 29) X 2 dX7_paidWithout_29 rfl rfl ?_
      obtain ⟨u9, h10, h⟩ := bind_some h
      refine go_callVi (pc := 30) X 1 [] (ct_X0_paidByAll au18 h10) (shA au18) rfl gg_X7_164 hd_X0_paidByAll ⟨Nat.le_of_ble_eq_true rfl, Nat.le_of_ble_eq_true rfl⟩ rfl rfl (Nat.le_of_ble_eq_true rfl) dX7_paidWithout_30 ?_
      exact go_iret (pc := 33) X h dX7_paidWithout_33
    · rw [if_pos c6] at h
      refine go_iconst (pc := 18) X dX7_paidWithout_18 ?_
      exact go_iret (pc := 19) X h dX7_paidWithout_19
set_option maxRecDepth 100000 in
set_option maxHeartbeats 4000000 in
theorem ct_X7_pivot {l : Launch} {D : va_G} {cI cB : ClassId} {Z : (Nat → Nat) × (Nat → Nat)} {ad : Nat → Nat} {S : Mem} {r : Int} {S' : Mem} (h : f_X7_pivot S = some (r, S')) : Ctr l D cI cB Z ad shsC yX7_pivot cX7_pivot 5 (some .int) 6 139 [.ref (ad 0)] S (some (.int (i32 r))) S' := by
  refine ctr_of (by decide +kernel) (Nat.le_of_ble_eq_true rfl) rfl ?_
  intro p e s m args below meth c A X
  unfold f_X7_pivot at h
  refine go_bipush (pc := 0) X dX7_pivot_0 (by decide) (by decide) ?_
  refine go_istore_n (pc := 2) X [1, 0] (Ls' := [(0, .ref (ad 0)), (1, .int (i32 (-2)))]) dX7_pivot_2 rfl (by decide) rfl ?_
  refine go_ldcw (pc := 3) X 1000000 cn_X7_306 rfl dX7_pivot_3 ?_
  refine go_istore_n (pc := 6) X [1, 2, 0] (Ls' := [(0, .ref (ad 0)), (1, .int (i32 (-2))), (2, .int (i32 1000000))]) dX7_pivot_6 rfl (by decide) rfl ?_
  refine go_iconst (pc := 7) X dX7_pivot_7 ?_
  refine go_istore_n (pc := 8) X [1, 2, 3, 0] (Ls' := [(0, .ref (ad 0)), (1, .int (i32 (-2))), (2, .int (i32 1000000)), (3, .int (i32 0))]) dX7_pivot_8 rfl (by decide) rfl ?_
  obtain ⟨r10, h11, h⟩ := bind_some h
  have H12 : ∀ (n : Nat) (t13 : Int × Int × Int × Mem) (z14 : Int × Mem), lp (f_X7_pivot_l9) n t13 = some z14 → Go p l e { frames := 6, cells := 0, slots := 0, locals := 139 } s m args below meth c 5 D cI cB ad shsC A (MQ below (cQ D cI cB ad shsC (some (.int (i32 r))) S' A) args s 0 0 A) 52 [(1, .int (i32 z14.1))] [] z14.2 → Go p l e { frames := 6, cells := 0, slots := 0, locals := 139 } s m args below meth c 5 D cI cB ad shsC A (MQ below (cQ D cI cB ad shsC (some (.int (i32 r))) S' A) args s 0 0 A) 9 [(0, .ref (ad 0)), (1, .int (i32 t13.1)), (2, .int (i32 t13.2.1)), (3, .int (i32 t13.2.2.1))] [] t13.2.2.2 := by
    refine lp_go (fun t13 : Int × Int × Int × Mem => Go p l e { frames := 6, cells := 0, slots := 0, locals := 139 } s m args below meth c 5 D cI cB ad shsC A (MQ below (cQ D cI cB ad shsC (some (.int (i32 r))) S' A) args s 0 0 A) 9 [(0, .ref (ad 0)), (1, .int (i32 t13.1)), (2, .int (i32 t13.2.1)), (3, .int (i32 t13.2.2.1))] [] t13.2.2.2) (fun z14 : Int × Mem => Go p l e { frames := 6, cells := 0, slots := 0, locals := 139 } s m args below meth c 5 D cI cB ad shsC A (MQ below (cQ D cI cB ad shsC (some (.int (i32 r))) S' A) args s 0 0 A) 52 [(1, .int (i32 z14.1))] [] z14.2) ?_
    intro t13 x15 h hx16
    unfold f_X7_pivot_l9 at h
    refine go_iload_n (pc := 9) X 3 dX7_pivot_9 rfl rfl ?_
    refine go_aload_n (pc := 10) X 0 dX7_pivot_10 rfl rfl ?_
    refine go_getr (pc := 11) X (fk := 3) sh7 rfl inT_X7 (by decide) fL_X7_32 rfl dX7_pivot_11 ?_
    refine go_get (pc := 14) X (fk := 2) (fi := 2) rfl (shB bk5) rfl inT_X1 (by decide) fL_X7_94 rfl dX7_pivot_14 ?_
    refine go_icmp_ge (pc := 17) X 52 dX7_pivot_17 rfl (fun c18 => ?_) (fun c18 => ?_)
    · rw [if_neg c18] at h
      refine go_pick [1] (Ls' := [(1, .int (i32 t13.1))]) rfl ?_
      exact lp_back h hx16
    · rw [if_pos c18] at h
      refine go_aload_n (pc := 20) X 0 dX7_pivot_20 rfl rfl ?_
      refine go_iload_n (pc := 21) X 3 dX7_pivot_21 rfl rfl ?_
      obtain ⟨S19, h20, h⟩ := bind_some h
      refine go_callVv (pc := 22) X 1 [] (ct_X7_supposeWithout h20) sh7 rfl gg_X7_300 hd_X7_supposeWithout ⟨Nat.le_of_ble_eq_true rfl, Nat.le_of_ble_eq_true rfl⟩ rfl rfl (Nat.le_of_ble_eq_true rfl) dX7_pivot_22 ?_
      refine go_aload_n (pc := 25) X 0 dX7_pivot_25 rfl rfl ?_
      refine go_getr (pc := 26) X (fk := 6) sh7 rfl inT_X7 (by decide) fL_X7_47 rfl dX7_pivot_26 ?_
      refine go_iconst (pc := 29) X dX7_pivot_29 ?_
      obtain ⟨u21, h22, h⟩ := bind_some h
      refine go_callVi (pc := 30) X 1 [] (ct_X0_paidByAll au18 h22) (shA au18) rfl gg_X7_164 hd_X0_paidByAll ⟨Nat.le_of_ble_eq_true rfl, Nat.le_of_ble_eq_true rfl⟩ rfl rfl (Nat.le_of_ble_eq_true rfl) dX7_pivot_30 ?_
      refine go_istore (pc := 33) X [1, 2, 3, 4, 0] (Ls' := [(0, .ref (ad 0)), (1, .int (i32 t13.1)), (2, .int (i32 t13.2.1)), (3, .int (i32 t13.2.2.1)), (4, .int (i32 u21.1))]) dX7_pivot_33 (by decide) rfl ?_
      refine go_iload (pc := 35) X 4 dX7_pivot_35 rfl ?_
      refine go_iload_n (pc := 37) X 2 dX7_pivot_37 rfl rfl ?_
      obtain ⟨j23, h24, h⟩ := bind_some h
      have k25 : Go p l e { frames := 6, cells := 0, slots := 0, locals := 139 } s m args below meth c 5 D cI cB ad shsC A (MQ below (cQ D cI cB ad shsC (some (.int (i32 r))) S' A) args s 0 0 A) 46 [(0, .ref (ad 0)), (1, .int (i32 j23.1)), (2, .int (i32 j23.2)), (3, .int (i32 t13.2.2.1))] [] u21.2 := by
        refine go_iinc (pc := 46) X [1, 2, 3, 0] 3 (Ls' := [(0, .ref (ad 0)), (1, .int (i32 j23.1)), (2, .int (i32 j23.2)), (3, .int (i32 (t13.2.2.1 + 1)))]) dX7_pivot_46 rfl (by decide) rfl ?_
        refine go_goto (pc := 49) X 9 dX7_pivot_49 rfl ?_
        exact lp_back h hx16
      refine go_icmp_ge (pc := 38) X 46 dX7_pivot_38 rfl (fun c26 => ?_) (fun c26 => ?_)
      · rw [if_neg c26] at h24
        cases h24
        refine go_pick [0, 1, 2, 3] (Ls' := [(0, .ref (ad 0)), (1, .int (i32 t13.1)), (2, .int (i32 t13.2.1)), (3, .int (i32 t13.2.2.1))]) rfl ?_
        exact k25
      · rw [if_pos c26] at h24
        refine go_iload (pc := 41) X 4 dX7_pivot_41 rfl ?_
        refine go_istore_n (pc := 43) X [1, 2, 0, 3, 4] (Ls' := [(0, .ref (ad 0)), (1, .int (i32 t13.1)), (2, .int (i32 u21.1)), (3, .int (i32 t13.2.2.1)), (4, .int (i32 u21.1))]) dX7_pivot_43 rfl (by decide) rfl ?_
        refine go_iload_n (pc := 44) X 3 dX7_pivot_44 rfl rfl ?_
        refine go_istore_n (pc := 45) X [1, 0, 2, 3, 4] (Ls' := [(0, .ref (ad 0)), (1, .int (i32 t13.2.2.1)), (2, .int (i32 u21.1)), (3, .int (i32 t13.2.2.1)), (4, .int (i32 u21.1))]) dX7_pivot_45 rfl (by decide) rfl ?_
        cases h24
        refine go_pick [0, 1, 2, 3] (Ls' := [(0, .ref (ad 0)), (1, .int (i32 t13.2.2.1)), (2, .int (i32 u21.1)), (3, .int (i32 t13.2.2.1))]) rfl ?_
        exact k25
  refine H12 FU ((-2), 1000000, 0, S) r10 h11 ?_
  refine go_iload_n (pc := 52) X 0 dX7_pivot_52 rfl rfl ?_
  exact go_iret (pc := 53) X h dX7_pivot_53
set_option maxRecDepth 100000 in
set_option maxHeartbeats 4000000 in
theorem ct_X7_gainByTelling {l : Launch} {D : va_G} {cI cB : ClassId} {Z : (Nat → Nat) × (Nat → Nat)} {ad : Nat → Nat} {S : Mem} {a1 : Int} {a2 : Int} {a3 : Int} {r : Int} {S' : Mem} (h : f_X7_gainByTelling S a1 a2 a3 = some (r, S')) : Ctr l D cI cB Z ad shsC yX7_gainByTelling cX7_gainByTelling 4 (some .int) 5 116 [.ref (ad 0), .int (i32 a1), .int (i32 a2), .int (i32 a3)] S (some (.int (i32 r))) S' := by
  refine ctr_of (by decide +kernel) (Nat.le_of_ble_eq_true rfl) rfl ?_
  intro p e s m args below meth c A X
  unfold f_X7_gainByTelling at h
  refine go_aload_n (pc := 0) X 0 dX7_gainByTelling_0 rfl rfl ?_
  refine go_getr (pc := 1) X (fk := 7) sh7 rfl inT_X7 (by decide) fL_X7_50 rfl dX7_gainByTelling_1 ?_
  refine go_aload_n (pc := 4) X 0 dX7_gainByTelling_4 rfl rfl ?_
  refine go_getr (pc := 5) X (fk := 3) sh7 rfl inT_X7 (by decide) fL_X7_32 rfl dX7_gainByTelling_5 ?_
  obtain ⟨S1, h2, h⟩ := bind_some h
  refine go_callVv (pc := 8) X 1 [] (ct_X1_takeFrom bk19 bk5 h2) (shB bk19) rfl gg_X7_82 hd_X1_takeFrom ⟨Nat.le_of_ble_eq_true rfl, Nat.le_of_ble_eq_true rfl⟩ rfl rfl (Nat.le_of_ble_eq_true rfl) dX7_gainByTelling_8 ?_
  refine go_aload_n (pc := 11) X 0 dX7_gainByTelling_11 rfl rfl ?_
  refine go_getr (pc := 12) X (fk := 7) sh7 rfl inT_X7 (by decide) fL_X7_50 rfl dX7_gainByTelling_12 ?_
  refine go_getr (pc := 15) X (fk := 3) (shB bk19) rfl inT_X1 (by decide) fL_X7_113 rfl dX7_gainByTelling_15 ?_
  refine go_iload_n (pc := 18) X 1 dX7_gainByTelling_18 rfl rfl ?_
  refine go_iload_n (pc := 19) X 3 dX7_gainByTelling_19 rfl rfl ?_
  obtain ⟨g3, h⟩ := gd_some h
  obtain ⟨S4, e5, h⟩ := wrk_some h
  refine go_iastE (pc := 20) X e5 (shB1 bk19) (Nat.le_of_ble_eq_true rfl) rfl g3 dX7_gainByTelling_20 ?_
  refine go_aload_n (pc := 21) X 0 dX7_gainByTelling_21 rfl rfl ?_
  refine go_getr (pc := 22) X (fk := 6) sh7 rfl inT_X7 (by decide) fL_X7_47 rfl dX7_gainByTelling_22 ?_
  obtain ⟨S6, h7, h⟩ := bind_some h
  refine go_callVv (pc := 25) X 0 [] (ct_X0_run au18 h7) (shA au18) rfl gg_X7_294 hd_X0_run ⟨Nat.le_of_ble_eq_true rfl, Nat.le_of_ble_eq_true rfl⟩ rfl rfl (Nat.le_of_ble_eq_true rfl) dX7_gainByTelling_25 ?_
  refine go_aload_n (pc := 28) X 0 dX7_gainByTelling_28 rfl rfl ?_
  refine go_getr (pc := 29) X (fk := 3) sh7 rfl inT_X7 (by decide) fL_X7_32 rfl dX7_gainByTelling_29 ?_
  refine go_iload_n (pc := 32) X 1 dX7_gainByTelling_32 rfl rfl ?_
  refine go_aload_n (pc := 33) X 0 dX7_gainByTelling_33 rfl rfl ?_
  refine go_getr (pc := 34) X (fk := 6) sh7 rfl inT_X7 (by decide) fL_X7_47 rfl dX7_gainByTelling_34 ?_
  refine go_getr (pc := 37) X (fk := 4) (shA au18) rfl inT_X0 (by decide) fL_X7_172 rfl dX7_gainByTelling_37 ?_
  refine go_iload_n (pc := 40) X 1 dX7_gainByTelling_40 rfl rfl ?_
  refine go_iald (pc := 41) X (shA7 au18) (Nat.le_of_ble_eq_true rfl) rfl g3 dX7_gainByTelling_41 ?_
  obtain ⟨r8, h9, h⟩ := bind_some h
  refine go_callVi (pc := 42) X 2 [] (ct_X1_sumOfFirst bk5 h9) (shB bk5) rfl gg_X7_280 hd_X1_sumOfFirst ⟨Nat.le_of_ble_eq_true rfl, Nat.le_of_ble_eq_true rfl⟩ rfl rfl (Nat.le_of_ble_eq_true rfl) dX7_gainByTelling_42 ?_
  refine go_aload_n (pc := 45) X 0 dX7_gainByTelling_45 rfl rfl ?_
  refine go_getr (pc := 46) X (fk := 6) sh7 rfl inT_X7 (by decide) fL_X7_47 rfl dX7_gainByTelling_46 ?_
  refine go_iload_n (pc := 49) X 1 dX7_gainByTelling_49 rfl rfl ?_
  refine go_iload_n (pc := 50) X 2 dX7_gainByTelling_50 rfl rfl ?_
  obtain ⟨u10, h11, h⟩ := bind_some h
  refine go_callVi (pc := 51) X 2 [.int (i32 r8)] (ct_X0_payment au18 h11) (shA au18) rfl gg_X7_210 hd_X0_payment ⟨Nat.le_of_ble_eq_true rfl, Nat.le_of_ble_eq_true rfl⟩ rfl rfl (Nat.le_of_ble_eq_true rfl) dX7_gainByTelling_51 ?_
  refine go_isub (pc := 54) X dX7_gainByTelling_54 ?_
  exact go_iret (pc := 55) X h dX7_gainByTelling_55
set_option maxRecDepth 100000 in
set_option maxHeartbeats 4000000 in
theorem ct_X7_tells {l : Launch} {D : va_G} {cI cB : ClassId} {Z : (Nat → Nat) × (Nat → Nat)} {ad : Nat → Nat} {S : Mem} {a1 : Int} {a2 : Int} {a3 : Int} {r : Int} {S' : Mem} (h : f_X7_tells S a1 a2 a3 = some (r, S')) : Ctr l D cI cB Z ad shsC yX7_tells cX7_tells 4 (some .int) 6 139 [.ref (ad 0), .int (i32 a1), .int (i32 a2), .int (i32 a3)] S (some (.int (i32 r))) S' := by
  refine ctr_of (by decide +kernel) (Nat.le_of_ble_eq_true rfl) rfl ?_
  intro p e s m args below meth c A X
  unfold f_X7_tells at h
  refine go_aload_n (pc := 0) X 0 dX7_tells_0 rfl rfl ?_
  refine go_getr (pc := 1) X (fk := 3) sh7 rfl inT_X7 (by decide) fL_X7_32 rfl dX7_tells_1 ?_
  refine go_iload_n (pc := 4) X 1 dX7_tells_4 rfl rfl ?_
  obtain ⟨r1, h2, h⟩ := bind_some h
  refine go_callVi (pc := 5) X 1 [] (ct_X1_has bk5 h2) (shB bk5) rfl gg_X7_104 hd_X1_has ⟨Nat.le_of_ble_eq_true rfl, Nat.le_of_ble_eq_true rfl⟩ rfl rfl (Nat.le_of_ble_eq_true rfl) dX7_tells_5 ?_
  refine go_if_eq (pc := 8) X 35 dX7_tells_8 rfl (fun c3 => ?_) (fun c3 => ?_)
  · rw [if_pos c3] at h
    refine go_ldc (pc := 35) X (-100000) cn_X7_216 rfl dX7_tells_35 ?_
    exact go_iret (pc := 37) X h dX7_tells_37
  · rw [if_neg c3] at h
    refine go_iload_n (pc := 11) X 2 dX7_tells_11 rfl rfl ?_
    obtain ⟨r4, h5, h⟩ := bind_some h
    refine go_callSi (pc := 12) X 1 [] (ct_X7_isKind h5) gg_X7_151 hd_X7_isKind ⟨Nat.le_of_ble_eq_true rfl, Nat.le_of_ble_eq_true rfl⟩ rfl rfl (Nat.le_of_ble_eq_true rfl) dX7_tells_12 ?_
    refine go_if_eq (pc := 15) X 35 dX7_tells_15 rfl (fun c6 => ?_) (fun c6 => ?_)
    · rw [if_pos c6] at h
      refine go_ldc (pc := 35) X (-100000) cn_X7_216 rfl dX7_tells_35 ?_
      exact go_iret (pc := 37) X h dX7_tells_37
    · rw [if_neg c6] at h
      refine go_iload_n (pc := 18) X 3 dX7_tells_18 rfl rfl ?_
      refine go_if_lt (pc := 19) X 35 dX7_tells_19 rfl (fun c7 => ?_) (fun c7 => ?_)
      · rw [if_pos c7] at h
        refine go_ldc (pc := 35) X (-100000) cn_X7_216 rfl dX7_tells_35 ?_
        exact go_iret (pc := 37) X h dX7_tells_37
      · rw [if_neg c7] at h
        refine go_iload_n (pc := 22) X 3 dX7_tells_22 rfl rfl ?_
        refine go_aload_n (pc := 23) X 0 dX7_tells_23 rfl rfl ?_
        refine go_getr (pc := 24) X (fk := 3) sh7 rfl inT_X7 (by decide) fL_X7_32 rfl dX7_tells_24 ?_
        refine go_getr (pc := 27) X (fk := 3) (shB bk5) rfl inT_X1 (by decide) fL_X7_113 rfl dX7_tells_27 ?_
        refine go_iload_n (pc := 30) X 1 dX7_tells_30 rfl rfl ?_
        obtain ⟨g8, h⟩ := gd_some h
        refine go_iald (pc := 31) X (shB1 bk5) (Nat.le_of_ble_eq_true rfl) rfl g8 dX7_tells_31 ?_
        refine go_icmp_le (pc := 32) X 38 dX7_tells_32 rfl (fun c9 => ?_) (fun c9 => ?_)
        · rw [if_neg c9] at h
          refine go_aload_n (pc := 38) X 0 dX7_tells_38 rfl rfl ?_
          refine go_iload_n (pc := 39) X 1 dX7_tells_39 rfl rfl ?_
          refine go_iload_n (pc := 40) X 2 dX7_tells_40 rfl rfl ?_
          refine go_iload_n (pc := 41) X 3 dX7_tells_41 rfl rfl ?_
          obtain ⟨u10, h11, h⟩ := bind_some h
          refine go_callVi (pc := 42) X 3 [] (ct_X7_gainByTelling h11) sh7 rfl gg_X7_307 hd_X7_gainByTelling ⟨Nat.le_of_ble_eq_true rfl, Nat.le_of_ble_eq_true rfl⟩ rfl rfl (Nat.le_of_ble_eq_true rfl) dX7_tells_42 ?_
          exact go_iret (pc := 45) X h dX7_tells_45
        · rw [if_pos c9] at h
          refine go_ldc (pc := 35) X (-100000) cn_X7_216 rfl dX7_tells_35 ?_
          exact go_iret (pc := 37) X h dX7_tells_37
set_option maxRecDepth 100000 in
set_option maxHeartbeats 4000000 in
theorem ct_X7_bestTells {l : Launch} {D : va_G} {cI cB : ClassId} {Z : (Nat → Nat) × (Nat → Nat)} {ad : Nat → Nat} {S : Mem} {a1 : Int} {a2 : Int} {r : Int} {S' : Mem} (h : f_X7_bestTells S a1 a2 = some (r, S')) : Ctr l D cI cB Z ad shsC yX7_bestTells cX7_bestTells 7 (some .int) 6 139 [.ref (ad 0), .int (i32 a1), .int (i32 a2)] S (some (.int (i32 r))) S' := by
  refine ctr_of (by decide +kernel) (Nat.le_of_ble_eq_true rfl) rfl ?_
  intro p e s m args below meth c A X
  unfold f_X7_bestTells at h
  refine go_aload_n (pc := 0) X 0 dX7_bestTells_0 rfl rfl ?_
  refine go_getr (pc := 1) X (fk := 3) sh7 rfl inT_X7 (by decide) fL_X7_32 rfl dX7_bestTells_1 ?_
  refine go_iload_n (pc := 4) X 1 dX7_bestTells_4 rfl rfl ?_
  obtain ⟨r1, h2, h⟩ := bind_some h
  refine go_callVi (pc := 5) X 1 [] (ct_X1_has bk5 h2) (shB bk5) rfl gg_X7_104 hd_X1_has ⟨Nat.le_of_ble_eq_true rfl, Nat.le_of_ble_eq_true rfl⟩ rfl rfl (Nat.le_of_ble_eq_true rfl) dX7_bestTells_5 ?_
  refine go_if_eq (pc := 8) X 18 dX7_bestTells_8 rfl (fun c3 => ?_) (fun c3 => ?_)
  · rw [if_pos c3] at h
    refine go_iconst (pc := 18) X dX7_bestTells_18 ?_
    exact go_iret (pc := 19) X h dX7_bestTells_19
  · rw [if_neg c3] at h
    refine go_iload_n (pc := 11) X 2 dX7_bestTells_11 rfl rfl ?_
    obtain ⟨r4, h5, h⟩ := bind_some h
    refine go_callSi (pc := 12) X 1 [] (ct_X7_isKind h5) gg_X7_151 hd_X7_isKind ⟨Nat.le_of_ble_eq_true rfl, Nat.le_of_ble_eq_true rfl⟩ rfl rfl (Nat.le_of_ble_eq_true rfl) dX7_bestTells_12 ?_
    refine go_if_ne (pc := 15) X 20 dX7_bestTells_15 rfl (fun c6 => ?_) (fun c6 => ?_)
    · rw [if_neg c6] at h
      refine go_iconst (pc := 20) X dX7_bestTells_20 ?_
      refine go_istore_n (pc := 21) X [1, 2, 3, 0] (Ls' := [(0, .ref (ad 0)), (1, .int (i32 a1)), (2, .int (i32 a2)), (3, .int (i32 0))]) dX7_bestTells_21 rfl (by decide) rfl ?_
      refine go_ldc (pc := 22) X (-1000000) cn_X7_253 rfl dX7_bestTells_22 ?_
      refine go_istore (pc := 24) X [1, 2, 3, 4, 0] (Ls' := [(0, .ref (ad 0)), (1, .int (i32 a1)), (2, .int (i32 a2)), (3, .int (i32 0)), (4, .int (i32 (-1000000)))]) dX7_bestTells_24 (by decide) rfl ?_
      refine go_iconst (pc := 26) X dX7_bestTells_26 ?_
      refine go_istore (pc := 27) X [1, 2, 3, 4, 5, 0] (Ls' := [(0, .ref (ad 0)), (1, .int (i32 a1)), (2, .int (i32 a2)), (3, .int (i32 0)), (4, .int (i32 (-1000000))), (5, .int (i32 0))]) dX7_bestTells_27 (by decide) rfl ?_
      obtain ⟨r15, h16, h⟩ := bind_some h
      have H17 : ∀ (n : Nat) (t18 : Int × Int × Int × Mem) (z19 : Int × Mem), lp (f_X7_bestTells_l29 a1 a2) n t18 = some z19 → Go p l e { frames := 6, cells := 0, slots := 0, locals := 139 } s m args below meth c 7 D cI cB ad shsC A (MQ below (cQ D cI cB ad shsC (some (.int (i32 r))) S' A) args s 0 0 A) 73 [(3, .int (i32 z19.1))] [] z19.2 → Go p l e { frames := 6, cells := 0, slots := 0, locals := 139 } s m args below meth c 7 D cI cB ad shsC A (MQ below (cQ D cI cB ad shsC (some (.int (i32 r))) S' A) args s 0 0 A) 29 [(0, .ref (ad 0)), (1, .int (i32 a1)), (2, .int (i32 a2)), (3, .int (i32 t18.1)), (4, .int (i32 t18.2.1)), (5, .int (i32 t18.2.2.1))] [] t18.2.2.2 := by
        refine lp_go (fun t18 : Int × Int × Int × Mem => Go p l e { frames := 6, cells := 0, slots := 0, locals := 139 } s m args below meth c 7 D cI cB ad shsC A (MQ below (cQ D cI cB ad shsC (some (.int (i32 r))) S' A) args s 0 0 A) 29 [(0, .ref (ad 0)), (1, .int (i32 a1)), (2, .int (i32 a2)), (3, .int (i32 t18.1)), (4, .int (i32 t18.2.1)), (5, .int (i32 t18.2.2.1))] [] t18.2.2.2) (fun z19 : Int × Mem => Go p l e { frames := 6, cells := 0, slots := 0, locals := 139 } s m args below meth c 7 D cI cB ad shsC A (MQ below (cQ D cI cB ad shsC (some (.int (i32 r))) S' A) args s 0 0 A) 73 [(3, .int (i32 z19.1))] [] z19.2) ?_
        intro t18 x20 h hx21
        unfold f_X7_bestTells_l29 at h
        refine go_iload (pc := 29) X 5 dX7_bestTells_29 rfl ?_
        refine go_aload_n (pc := 31) X 0 dX7_bestTells_31 rfl rfl ?_
        refine go_getr (pc := 32) X (fk := 3) sh7 rfl inT_X7 (by decide) fL_X7_32 rfl dX7_bestTells_32 ?_
        refine go_getr (pc := 35) X (fk := 3) (shB bk5) rfl inT_X1 (by decide) fL_X7_113 rfl dX7_bestTells_35 ?_
        refine go_iload_n (pc := 38) X 1 dX7_bestTells_38 rfl rfl ?_
        obtain ⟨g23, h⟩ := gd_some h
        refine go_iald (pc := 39) X (shB1 bk5) (Nat.le_of_ble_eq_true rfl) rfl g23 dX7_bestTells_39 ?_
        refine go_icmp_gt (pc := 40) X 73 dX7_bestTells_40 rfl (fun c24 => ?_) (fun c24 => ?_)
        · rw [if_pos c24] at h
          refine go_pick [3] (Ls' := [(3, .int (i32 t18.1))]) rfl ?_
          exact lp_back h hx21
        · rw [if_neg c24] at h
          refine go_aload_n (pc := 43) X 0 dX7_bestTells_43 rfl rfl ?_
          refine go_iload_n (pc := 44) X 1 dX7_bestTells_44 rfl rfl ?_
          refine go_iload_n (pc := 45) X 2 dX7_bestTells_45 rfl rfl ?_
          refine go_iload (pc := 46) X 5 dX7_bestTells_46 rfl ?_
          obtain ⟨u25, h26, h⟩ := bind_some h
          refine go_callVi (pc := 48) X 3 [] (ct_X7_gainByTelling h26) sh7 rfl gg_X7_307 hd_X7_gainByTelling ⟨Nat.le_of_ble_eq_true rfl, Nat.le_of_ble_eq_true rfl⟩ rfl rfl (Nat.le_of_ble_eq_true rfl) dX7_bestTells_48 ?_
          refine go_istore (pc := 51) X [1, 2, 3, 4, 5, 6, 0] (Ls' := [(0, .ref (ad 0)), (1, .int (i32 a1)), (2, .int (i32 a2)), (3, .int (i32 t18.1)), (4, .int (i32 t18.2.1)), (5, .int (i32 t18.2.2.1)), (6, .int (i32 u25.1))]) dX7_bestTells_51 (by decide) rfl ?_
          refine go_iload (pc := 53) X 6 dX7_bestTells_53 rfl ?_
          refine go_iload (pc := 55) X 4 dX7_bestTells_55 rfl ?_
          obtain ⟨j27, h28, h⟩ := bind_some h
          have k29 : Go p l e { frames := 6, cells := 0, slots := 0, locals := 139 } s m args below meth c 7 D cI cB ad shsC A (MQ below (cQ D cI cB ad shsC (some (.int (i32 r))) S' A) args s 0 0 A) 67 [(0, .ref (ad 0)), (1, .int (i32 a1)), (2, .int (i32 a2)), (3, .int (i32 j27.1)), (4, .int (i32 j27.2)), (5, .int (i32 t18.2.2.1))] [] u25.2 := by
            refine go_iinc (pc := 67) X [1, 2, 3, 4, 5, 0] 5 (Ls' := [(0, .ref (ad 0)), (1, .int (i32 a1)), (2, .int (i32 a2)), (3, .int (i32 j27.1)), (4, .int (i32 j27.2)), (5, .int (i32 (t18.2.2.1 + 1)))]) dX7_bestTells_67 rfl (by decide) rfl ?_
            refine go_goto (pc := 70) X 29 dX7_bestTells_70 rfl ?_
            exact lp_back h hx21
          refine go_icmp_lt (pc := 57) X 67 dX7_bestTells_57 rfl (fun c30 => ?_) (fun c30 => ?_)
          · rw [if_pos c30] at h28
            cases h28
            refine go_pick [0, 1, 2, 3, 4, 5] (Ls' := [(0, .ref (ad 0)), (1, .int (i32 a1)), (2, .int (i32 a2)), (3, .int (i32 t18.1)), (4, .int (i32 t18.2.1)), (5, .int (i32 t18.2.2.1))]) rfl ?_
            exact k29
          · rw [if_neg c30] at h28
            refine go_iload (pc := 60) X 6 dX7_bestTells_60 rfl ?_
            refine go_istore (pc := 62) X [1, 2, 3, 4, 0, 5, 6] (Ls' := [(0, .ref (ad 0)), (1, .int (i32 a1)), (2, .int (i32 a2)), (3, .int (i32 t18.1)), (4, .int (i32 u25.1)), (5, .int (i32 t18.2.2.1)), (6, .int (i32 u25.1))]) dX7_bestTells_62 (by decide) rfl ?_
            refine go_iload (pc := 64) X 5 dX7_bestTells_64 rfl ?_
            refine go_istore_n (pc := 66) X [1, 2, 3, 0, 4, 5, 6] (Ls' := [(0, .ref (ad 0)), (1, .int (i32 a1)), (2, .int (i32 a2)), (3, .int (i32 t18.2.2.1)), (4, .int (i32 u25.1)), (5, .int (i32 t18.2.2.1)), (6, .int (i32 u25.1))]) dX7_bestTells_66 rfl (by decide) rfl ?_
            cases h28
            refine go_pick [0, 1, 2, 3, 4, 5] (Ls' := [(0, .ref (ad 0)), (1, .int (i32 a1)), (2, .int (i32 a2)), (3, .int (i32 t18.2.2.1)), (4, .int (i32 u25.1)), (5, .int (i32 t18.2.2.1))]) rfl ?_
            exact k29
      refine H17 FU (0, (-1000000), 0, S) r15 h16 ?_
      refine go_iload_n (pc := 73) X 0 dX7_bestTells_73 rfl rfl ?_
      exact go_iret (pc := 74) X h dX7_bestTells_74
    · rw [if_pos c6] at h
      refine go_iconst (pc := 18) X dX7_bestTells_18 ?_
      exact go_iret (pc := 19) X h dX7_bestTells_19
set_option maxRecDepth 100000 in
set_option maxHeartbeats 4000000 in
theorem ct_X7_gainByHiding {l : Launch} {D : va_G} {cI cB : ClassId} {Z : (Nat → Nat) × (Nat → Nat)} {ad : Nat → Nat} {S : Mem} {a1 : Int} {a2 : Int} {a3 : Int} {r : Int} {S' : Mem} (h : f_X7_gainByHiding S a1 a2 a3 = some (r, S')) : Ctr l D cI cB Z ad shsC yX7_gainByHiding cX7_gainByHiding 4 (some .int) 5 116 [.ref (ad 0), .int (i32 a1), .int (i32 a2), .int (i32 a3)] S (some (.int (i32 r))) S' := by
  refine ctr_of (by decide +kernel) (Nat.le_of_ble_eq_true rfl) rfl ?_
  intro p e s m args below meth c A X
  unfold f_X7_gainByHiding at h
  refine go_aload_n (pc := 0) X 0 dX7_gainByHiding_0 rfl rfl ?_
  refine go_getr (pc := 1) X (fk := 7) sh7 rfl inT_X7 (by decide) fL_X7_50 rfl dX7_gainByHiding_1 ?_
  refine go_aload_n (pc := 4) X 0 dX7_gainByHiding_4 rfl rfl ?_
  refine go_getr (pc := 5) X (fk := 3) sh7 rfl inT_X7 (by decide) fL_X7_32 rfl dX7_gainByHiding_5 ?_
  obtain ⟨S1, h2, h⟩ := bind_some h
  refine go_callVv (pc := 8) X 1 [] (ct_X1_takeFrom bk19 bk5 h2) (shB bk19) rfl gg_X7_82 hd_X1_takeFrom ⟨Nat.le_of_ble_eq_true rfl, Nat.le_of_ble_eq_true rfl⟩ rfl rfl (Nat.le_of_ble_eq_true rfl) dX7_gainByHiding_8 ?_
  refine go_aload_n (pc := 11) X 0 dX7_gainByHiding_11 rfl rfl ?_
  refine go_getr (pc := 12) X (fk := 7) sh7 rfl inT_X7 (by decide) fL_X7_50 rfl dX7_gainByHiding_12 ?_
  refine go_iload_n (pc := 15) X 1 dX7_gainByHiding_15 rfl rfl ?_
  refine go_iload_n (pc := 16) X 3 dX7_gainByHiding_16 rfl rfl ?_
  refine go_ineg (pc := 17) X dX7_gainByHiding_17 ?_
  obtain ⟨S3, h4, h⟩ := bind_some h
  refine go_callVv (pc := 18) X 2 [] (ct_X1_shift bk19 h4) (shB bk19) rfl gg_X7_182 hd_X1_shift ⟨Nat.le_of_ble_eq_true rfl, Nat.le_of_ble_eq_true rfl⟩ rfl rfl (Nat.le_of_ble_eq_true rfl) dX7_gainByHiding_18 ?_
  refine go_aload_n (pc := 21) X 0 dX7_gainByHiding_21 rfl rfl ?_
  refine go_getr (pc := 22) X (fk := 6) sh7 rfl inT_X7 (by decide) fL_X7_47 rfl dX7_gainByHiding_22 ?_
  obtain ⟨S5, h6, h⟩ := bind_some h
  refine go_callVv (pc := 25) X 0 [] (ct_X0_run au18 h6) (shA au18) rfl gg_X7_294 hd_X0_run ⟨Nat.le_of_ble_eq_true rfl, Nat.le_of_ble_eq_true rfl⟩ rfl rfl (Nat.le_of_ble_eq_true rfl) dX7_gainByHiding_25 ?_
  refine go_aload_n (pc := 28) X 0 dX7_gainByHiding_28 rfl rfl ?_
  refine go_getr (pc := 29) X (fk := 3) sh7 rfl inT_X7 (by decide) fL_X7_32 rfl dX7_gainByHiding_29 ?_
  refine go_iload_n (pc := 32) X 1 dX7_gainByHiding_32 rfl rfl ?_
  refine go_aload_n (pc := 33) X 0 dX7_gainByHiding_33 rfl rfl ?_
  refine go_getr (pc := 34) X (fk := 6) sh7 rfl inT_X7 (by decide) fL_X7_47 rfl dX7_gainByHiding_34 ?_
  refine go_getr (pc := 37) X (fk := 4) (shA au18) rfl inT_X0 (by decide) fL_X7_172 rfl dX7_gainByHiding_37 ?_
  refine go_iload_n (pc := 40) X 1 dX7_gainByHiding_40 rfl rfl ?_
  obtain ⟨g7, h⟩ := gd_some h
  refine go_iald (pc := 41) X (shA7 au18) (Nat.le_of_ble_eq_true rfl) rfl g7 dX7_gainByHiding_41 ?_
  obtain ⟨r8, h9, h⟩ := bind_some h
  refine go_callVi (pc := 42) X 2 [] (ct_X1_sumOfFirst bk5 h9) (shB bk5) rfl gg_X7_280 hd_X1_sumOfFirst ⟨Nat.le_of_ble_eq_true rfl, Nat.le_of_ble_eq_true rfl⟩ rfl rfl (Nat.le_of_ble_eq_true rfl) dX7_gainByHiding_42 ?_
  refine go_aload_n (pc := 45) X 0 dX7_gainByHiding_45 rfl rfl ?_
  refine go_getr (pc := 46) X (fk := 6) sh7 rfl inT_X7 (by decide) fL_X7_47 rfl dX7_gainByHiding_46 ?_
  refine go_iload_n (pc := 49) X 1 dX7_gainByHiding_49 rfl rfl ?_
  refine go_iload_n (pc := 50) X 2 dX7_gainByHiding_50 rfl rfl ?_
  obtain ⟨u10, h11, h⟩ := bind_some h
  refine go_callVi (pc := 51) X 2 [.int (i32 r8)] (ct_X0_payment au18 h11) (shA au18) rfl gg_X7_210 hd_X0_payment ⟨Nat.le_of_ble_eq_true rfl, Nat.le_of_ble_eq_true rfl⟩ rfl rfl (Nat.le_of_ble_eq_true rfl) dX7_gainByHiding_51 ?_
  refine go_isub (pc := 54) X dX7_gainByHiding_54 ?_
  exact go_iret (pc := 55) X h dX7_gainByHiding_55
set_option maxRecDepth 100000 in
set_option maxHeartbeats 4000000 in
theorem ct_X7_hides {l : Launch} {D : va_G} {cI cB : ClassId} {Z : (Nat → Nat) × (Nat → Nat)} {ad : Nat → Nat} {S : Mem} {a1 : Int} {a2 : Int} {a3 : Int} {r : Int} {S' : Mem} (h : f_X7_hides S a1 a2 a3 = some (r, S')) : Ctr l D cI cB Z ad shsC yX7_hides cX7_hides 4 (some .int) 6 139 [.ref (ad 0), .int (i32 a1), .int (i32 a2), .int (i32 a3)] S (some (.int (i32 r))) S' := by
  refine ctr_of (by decide +kernel) (Nat.le_of_ble_eq_true rfl) rfl ?_
  intro p e s m args below meth c A X
  unfold f_X7_hides at h
  refine go_aload_n (pc := 0) X 0 dX7_hides_0 rfl rfl ?_
  refine go_getr (pc := 1) X (fk := 3) sh7 rfl inT_X7 (by decide) fL_X7_32 rfl dX7_hides_1 ?_
  refine go_iload_n (pc := 4) X 1 dX7_hides_4 rfl rfl ?_
  obtain ⟨r1, h2, h⟩ := bind_some h
  refine go_callVi (pc := 5) X 1 [] (ct_X1_has bk5 h2) (shB bk5) rfl gg_X7_104 hd_X1_has ⟨Nat.le_of_ble_eq_true rfl, Nat.le_of_ble_eq_true rfl⟩ rfl rfl (Nat.le_of_ble_eq_true rfl) dX7_hides_5 ?_
  refine go_if_eq (pc := 8) X 25 dX7_hides_8 rfl (fun c3 => ?_) (fun c3 => ?_)
  · rw [if_pos c3] at h
    refine go_ldc (pc := 25) X (-100000) cn_X7_216 rfl dX7_hides_25 ?_
    exact go_iret (pc := 27) X h dX7_hides_27
  · rw [if_neg c3] at h
    refine go_iload_n (pc := 11) X 2 dX7_hides_11 rfl rfl ?_
    obtain ⟨r4, h5, h⟩ := bind_some h
    refine go_callSi (pc := 12) X 1 [] (ct_X7_isKind h5) gg_X7_151 hd_X7_isKind ⟨Nat.le_of_ble_eq_true rfl, Nat.le_of_ble_eq_true rfl⟩ rfl rfl (Nat.le_of_ble_eq_true rfl) dX7_hides_12 ?_
    refine go_if_eq (pc := 15) X 25 dX7_hides_15 rfl (fun c6 => ?_) (fun c6 => ?_)
    · rw [if_pos c6] at h
      refine go_ldc (pc := 25) X (-100000) cn_X7_216 rfl dX7_hides_25 ?_
      exact go_iret (pc := 27) X h dX7_hides_27
    · rw [if_neg c6] at h
      refine go_iload_n (pc := 18) X 3 dX7_hides_18 rfl rfl ?_
      obtain ⟨r7, h8, h⟩ := bind_some h
      refine go_callSi (pc := 19) X 1 [] (ct_X7_isPrice h8) gg_X7_110 hd_X7_isPrice ⟨Nat.le_of_ble_eq_true rfl, Nat.le_of_ble_eq_true rfl⟩ rfl rfl (Nat.le_of_ble_eq_true rfl) dX7_hides_19 ?_
      refine go_if_ne (pc := 22) X 28 dX7_hides_22 rfl (fun c9 => ?_) (fun c9 => ?_)
      · rw [if_neg c9] at h
        refine go_aload_n (pc := 28) X 0 dX7_hides_28 rfl rfl ?_
        refine go_iload_n (pc := 29) X 1 dX7_hides_29 rfl rfl ?_
        refine go_iload_n (pc := 30) X 2 dX7_hides_30 rfl rfl ?_
        refine go_iload_n (pc := 31) X 3 dX7_hides_31 rfl rfl ?_
        obtain ⟨u10, h11, h⟩ := bind_some h
        refine go_callVi (pc := 32) X 3 [] (ct_X7_gainByHiding h11) sh7 rfl gg_X7_311 hd_X7_gainByHiding ⟨Nat.le_of_ble_eq_true rfl, Nat.le_of_ble_eq_true rfl⟩ rfl rfl (Nat.le_of_ble_eq_true rfl) dX7_hides_32 ?_
        exact go_iret (pc := 35) X h dX7_hides_35
      · rw [if_pos c9] at h
        refine go_ldc (pc := 25) X (-100000) cn_X7_216 rfl dX7_hides_25 ?_
        exact go_iret (pc := 27) X h dX7_hides_27
set_option maxRecDepth 100000 in
set_option maxHeartbeats 4000000 in
theorem ct_X7_bestHides {l : Launch} {D : va_G} {cI cB : ClassId} {Z : (Nat → Nat) × (Nat → Nat)} {ad : Nat → Nat} {S : Mem} {a1 : Int} {a2 : Int} {r : Int} {S' : Mem} (h : f_X7_bestHides S a1 a2 = some (r, S')) : Ctr l D cI cB Z ad shsC yX7_bestHides cX7_bestHides 7 (some .int) 6 139 [.ref (ad 0), .int (i32 a1), .int (i32 a2)] S (some (.int (i32 r))) S' := by
  refine ctr_of (by decide +kernel) (Nat.le_of_ble_eq_true rfl) rfl ?_
  intro p e s m args below meth c A X
  unfold f_X7_bestHides at h
  refine go_aload_n (pc := 0) X 0 dX7_bestHides_0 rfl rfl ?_
  refine go_getr (pc := 1) X (fk := 3) sh7 rfl inT_X7 (by decide) fL_X7_32 rfl dX7_bestHides_1 ?_
  refine go_iload_n (pc := 4) X 1 dX7_bestHides_4 rfl rfl ?_
  obtain ⟨r1, h2, h⟩ := bind_some h
  refine go_callVi (pc := 5) X 1 [] (ct_X1_has bk5 h2) (shB bk5) rfl gg_X7_104 hd_X1_has ⟨Nat.le_of_ble_eq_true rfl, Nat.le_of_ble_eq_true rfl⟩ rfl rfl (Nat.le_of_ble_eq_true rfl) dX7_bestHides_5 ?_
  refine go_if_eq (pc := 8) X 18 dX7_bestHides_8 rfl (fun c3 => ?_) (fun c3 => ?_)
  · rw [if_pos c3] at h
    refine go_iconst (pc := 18) X dX7_bestHides_18 ?_
    exact go_iret (pc := 19) X h dX7_bestHides_19
  · rw [if_neg c3] at h
    refine go_iload_n (pc := 11) X 2 dX7_bestHides_11 rfl rfl ?_
    obtain ⟨r4, h5, h⟩ := bind_some h
    refine go_callSi (pc := 12) X 1 [] (ct_X7_isKind h5) gg_X7_151 hd_X7_isKind ⟨Nat.le_of_ble_eq_true rfl, Nat.le_of_ble_eq_true rfl⟩ rfl rfl (Nat.le_of_ble_eq_true rfl) dX7_bestHides_12 ?_
    refine go_if_ne (pc := 15) X 20 dX7_bestHides_15 rfl (fun c6 => ?_) (fun c6 => ?_)
    · rw [if_neg c6] at h
      refine go_iconst (pc := 20) X dX7_bestHides_20 ?_
      refine go_istore_n (pc := 21) X [1, 2, 3, 0] (Ls' := [(0, .ref (ad 0)), (1, .int (i32 a1)), (2, .int (i32 a2)), (3, .int (i32 0))]) dX7_bestHides_21 rfl (by decide) rfl ?_
      refine go_ldc (pc := 22) X (-1000000) cn_X7_253 rfl dX7_bestHides_22 ?_
      refine go_istore (pc := 24) X [1, 2, 3, 4, 0] (Ls' := [(0, .ref (ad 0)), (1, .int (i32 a1)), (2, .int (i32 a2)), (3, .int (i32 0)), (4, .int (i32 (-1000000)))]) dX7_bestHides_24 (by decide) rfl ?_
      refine go_iconst (pc := 26) X dX7_bestHides_26 ?_
      refine go_istore (pc := 27) X [1, 2, 3, 4, 5, 0] (Ls' := [(0, .ref (ad 0)), (1, .int (i32 a1)), (2, .int (i32 a2)), (3, .int (i32 0)), (4, .int (i32 (-1000000))), (5, .int (i32 0))]) dX7_bestHides_27 (by decide) rfl ?_
      obtain ⟨r14, h15, h⟩ := bind_some h
      have H16 : ∀ (n : Nat) (t17 : Int × Int × Int × Mem) (z18 : Int × Mem), lp (f_X7_bestHides_l29 a1 a2) n t17 = some z18 → Go p l e { frames := 6, cells := 0, slots := 0, locals := 139 } s m args below meth c 7 D cI cB ad shsC A (MQ below (cQ D cI cB ad shsC (some (.int (i32 r))) S' A) args s 0 0 A) 66 [(3, .int (i32 z18.1))] [] z18.2 → Go p l e { frames := 6, cells := 0, slots := 0, locals := 139 } s m args below meth c 7 D cI cB ad shsC A (MQ below (cQ D cI cB ad shsC (some (.int (i32 r))) S' A) args s 0 0 A) 29 [(0, .ref (ad 0)), (1, .int (i32 a1)), (2, .int (i32 a2)), (3, .int (i32 t17.1)), (4, .int (i32 t17.2.1)), (5, .int (i32 t17.2.2.1))] [] t17.2.2.2 := by
        refine lp_go (fun t17 : Int × Int × Int × Mem => Go p l e { frames := 6, cells := 0, slots := 0, locals := 139 } s m args below meth c 7 D cI cB ad shsC A (MQ below (cQ D cI cB ad shsC (some (.int (i32 r))) S' A) args s 0 0 A) 29 [(0, .ref (ad 0)), (1, .int (i32 a1)), (2, .int (i32 a2)), (3, .int (i32 t17.1)), (4, .int (i32 t17.2.1)), (5, .int (i32 t17.2.2.1))] [] t17.2.2.2) (fun z18 : Int × Mem => Go p l e { frames := 6, cells := 0, slots := 0, locals := 139 } s m args below meth c 7 D cI cB ad shsC A (MQ below (cQ D cI cB ad shsC (some (.int (i32 r))) S' A) args s 0 0 A) 66 [(3, .int (i32 z18.1))] [] z18.2) ?_
        intro t17 x19 h hx20
        unfold f_X7_bestHides_l29 at h
        refine go_iload (pc := 29) X 5 dX7_bestHides_29 rfl ?_
        refine go_bipush (pc := 31) X dX7_bestHides_31 (by decide) (by decide) ?_
        refine go_icmp_gt (pc := 33) X 66 dX7_bestHides_33 rfl (fun c22 => ?_) (fun c22 => ?_)
        · rw [if_pos c22] at h
          refine go_pick [3] (Ls' := [(3, .int (i32 t17.1))]) rfl ?_
          exact lp_back h hx20
        · rw [if_neg c22] at h
          refine go_aload_n (pc := 36) X 0 dX7_bestHides_36 rfl rfl ?_
          refine go_iload_n (pc := 37) X 1 dX7_bestHides_37 rfl rfl ?_
          refine go_iload_n (pc := 38) X 2 dX7_bestHides_38 rfl rfl ?_
          refine go_iload (pc := 39) X 5 dX7_bestHides_39 rfl ?_
          obtain ⟨u23, h24, h⟩ := bind_some h
          refine go_callVi (pc := 41) X 3 [] (ct_X7_gainByHiding h24) sh7 rfl gg_X7_311 hd_X7_gainByHiding ⟨Nat.le_of_ble_eq_true rfl, Nat.le_of_ble_eq_true rfl⟩ rfl rfl (Nat.le_of_ble_eq_true rfl) dX7_bestHides_41 ?_
          refine go_istore (pc := 44) X [1, 2, 3, 4, 5, 6, 0] (Ls' := [(0, .ref (ad 0)), (1, .int (i32 a1)), (2, .int (i32 a2)), (3, .int (i32 t17.1)), (4, .int (i32 t17.2.1)), (5, .int (i32 t17.2.2.1)), (6, .int (i32 u23.1))]) dX7_bestHides_44 (by decide) rfl ?_
          refine go_iload (pc := 46) X 6 dX7_bestHides_46 rfl ?_
          refine go_iload (pc := 48) X 4 dX7_bestHides_48 rfl ?_
          obtain ⟨j25, h26, h⟩ := bind_some h
          have k27 : Go p l e { frames := 6, cells := 0, slots := 0, locals := 139 } s m args below meth c 7 D cI cB ad shsC A (MQ below (cQ D cI cB ad shsC (some (.int (i32 r))) S' A) args s 0 0 A) 60 [(0, .ref (ad 0)), (1, .int (i32 a1)), (2, .int (i32 a2)), (3, .int (i32 j25.1)), (4, .int (i32 j25.2)), (5, .int (i32 t17.2.2.1))] [] u23.2 := by
            refine go_iinc (pc := 60) X [1, 2, 3, 4, 5, 0] 5 (Ls' := [(0, .ref (ad 0)), (1, .int (i32 a1)), (2, .int (i32 a2)), (3, .int (i32 j25.1)), (4, .int (i32 j25.2)), (5, .int (i32 (t17.2.2.1 + 1)))]) dX7_bestHides_60 rfl (by decide) rfl ?_
            refine go_goto (pc := 63) X 29 dX7_bestHides_63 rfl ?_
            exact lp_back h hx20
          refine go_icmp_le (pc := 50) X 60 dX7_bestHides_50 rfl (fun c28 => ?_) (fun c28 => ?_)
          · rw [if_neg c28] at h26
            cases h26
            refine go_pick [0, 1, 2, 3, 4, 5] (Ls' := [(0, .ref (ad 0)), (1, .int (i32 a1)), (2, .int (i32 a2)), (3, .int (i32 t17.1)), (4, .int (i32 t17.2.1)), (5, .int (i32 t17.2.2.1))]) rfl ?_
            exact k27
          · rw [if_pos c28] at h26
            refine go_iload (pc := 53) X 6 dX7_bestHides_53 rfl ?_
            refine go_istore (pc := 55) X [1, 2, 3, 4, 0, 5, 6] (Ls' := [(0, .ref (ad 0)), (1, .int (i32 a1)), (2, .int (i32 a2)), (3, .int (i32 t17.1)), (4, .int (i32 u23.1)), (5, .int (i32 t17.2.2.1)), (6, .int (i32 u23.1))]) dX7_bestHides_55 (by decide) rfl ?_
            refine go_iload (pc := 57) X 5 dX7_bestHides_57 rfl ?_
            refine go_istore_n (pc := 59) X [1, 2, 3, 0, 4, 5, 6] (Ls' := [(0, .ref (ad 0)), (1, .int (i32 a1)), (2, .int (i32 a2)), (3, .int (i32 t17.2.2.1)), (4, .int (i32 u23.1)), (5, .int (i32 t17.2.2.1)), (6, .int (i32 u23.1))]) dX7_bestHides_59 rfl (by decide) rfl ?_
            cases h26
            refine go_pick [0, 1, 2, 3, 4, 5] (Ls' := [(0, .ref (ad 0)), (1, .int (i32 a1)), (2, .int (i32 a2)), (3, .int (i32 t17.2.2.1)), (4, .int (i32 u23.1)), (5, .int (i32 t17.2.2.1))]) rfl ?_
            exact k27
      refine H16 FU (0, (-1000000), 0, S) r14 h15 ?_
      refine go_iload_n (pc := 66) X 0 dX7_bestHides_66 rfl rfl ?_
      exact go_iret (pc := 67) X h dX7_bestHides_67
    · rw [if_pos c6] at h
      refine go_iconst (pc := 18) X dX7_bestHides_18 ?_
      exact go_iret (pc := 19) X h dX7_bestHides_19
set_option maxRecDepth 100000 in
set_option maxHeartbeats 4000000 in
theorem ct_X7_inTwo {l : Launch} {D : va_G} {cI cB : ClassId} {Z : (Nat → Nat) × (Nat → Nat)} {ad : Nat → Nat} {S : Mem} {a1 : Int} {a2 : Int} {r : Int} {S' : Mem} (h : f_X7_inTwo S a1 a2 = some (r, S')) : Ctr l D cI cB Z ad shsC yX7_inTwo cX7_inTwo 4 (some .int) 6 139 [.ref (ad 0), .int (i32 a1), .int (i32 a2)] S (some (.int (i32 r))) S' := by
  refine ctr_of (by decide +kernel) (Nat.le_of_ble_eq_true rfl) rfl ?_
  intro p e s m args below meth c A X
  unfold f_X7_inTwo at h
  refine go_iload_n (pc := 0) X 1 dX7_inTwo_0 rfl rfl ?_
  refine go_iconst (pc := 1) X dX7_inTwo_1 ?_
  refine go_icmp_lt (pc := 2) X 23 dX7_inTwo_2 rfl (fun c1 => ?_) (fun c1 => ?_)
  · rw [if_pos c1] at h
    refine go_iconst (pc := 23) X dX7_inTwo_23 ?_
    exact go_iret (pc := 24) X h dX7_inTwo_24
  · rw [if_neg c1] at h
    refine go_iload_n (pc := 5) X 1 dX7_inTwo_5 rfl rfl ?_
    refine go_aload_n (pc := 6) X 0 dX7_inTwo_6 rfl rfl ?_
    refine go_getr (pc := 7) X (fk := 3) sh7 rfl inT_X7 (by decide) fL_X7_32 rfl dX7_inTwo_7 ?_
    refine go_get (pc := 10) X (fk := 0) (fi := 0) rfl (shB bk5) rfl inT_X1 (by decide) fL_X7_191 rfl dX7_inTwo_10 ?_
    refine go_icmp_ge (pc := 13) X 23 dX7_inTwo_13 rfl (fun c2 => ?_) (fun c2 => ?_)
    · rw [if_neg c2] at h
      refine go_iconst (pc := 23) X dX7_inTwo_23 ?_
      exact go_iret (pc := 24) X h dX7_inTwo_24
    · rw [if_pos c2] at h
      refine go_iload_n (pc := 16) X 2 dX7_inTwo_16 rfl rfl ?_
      obtain ⟨r3, h4, h⟩ := bind_some h
      refine go_callSi (pc := 17) X 1 [] (ct_X7_isKind h4) gg_X7_151 hd_X7_isKind ⟨Nat.le_of_ble_eq_true rfl, Nat.le_of_ble_eq_true rfl⟩ rfl rfl (Nat.le_of_ble_eq_true rfl) dX7_inTwo_17 ?_
      refine go_if_ne (pc := 20) X 25 dX7_inTwo_20 rfl (fun c5 => ?_) (fun c5 => ?_)
      · rw [if_neg c5] at h
        refine go_aload_n (pc := 25) X 0 dX7_inTwo_25 rfl rfl ?_
        refine go_getr (pc := 26) X (fk := 7) sh7 rfl inT_X7 (by decide) fL_X7_50 rfl dX7_inTwo_26 ?_
        refine go_aload_n (pc := 29) X 0 dX7_inTwo_29 rfl rfl ?_
        refine go_getr (pc := 30) X (fk := 3) sh7 rfl inT_X7 (by decide) fL_X7_32 rfl dX7_inTwo_30 ?_
        obtain ⟨S6, h7, h⟩ := bind_some h
        refine go_callVv (pc := 33) X 1 [] (ct_X1_takeFrom bk19 bk5 h7) (shB bk19) rfl gg_X7_82 hd_X1_takeFrom ⟨Nat.le_of_ble_eq_true rfl, Nat.le_of_ble_eq_true rfl⟩ rfl rfl (Nat.le_of_ble_eq_true rfl) dX7_inTwo_33 ?_
        refine go_aload_n (pc := 36) X 0 dX7_inTwo_36 rfl rfl ?_
        refine go_getr (pc := 37) X (fk := 7) sh7 rfl inT_X7 (by decide) fL_X7_50 rfl dX7_inTwo_37 ?_
        refine go_iload_n (pc := 40) X 1 dX7_inTwo_40 rfl rfl ?_
        obtain ⟨S8, e9, h⟩ := wrk_some h
        refine go_putE (pc := 41) X (fk := 0) (fi := 0) rfl e9 (shB bk19) rfl inT_X1 tyX1_ok nmX1 (by decide) fL_X7_191 rfl rfl rfl rfl rfl dX7_inTwo_41 ?_
        refine go_aload_n (pc := 44) X 0 dX7_inTwo_44 rfl rfl ?_
        refine go_getr (pc := 45) X (fk := 6) sh7 rfl inT_X7 (by decide) fL_X7_47 rfl dX7_inTwo_45 ?_
        obtain ⟨S10, h11, h⟩ := bind_some h
        refine go_callVv (pc := 48) X 0 [] (ct_X0_run au18 h11) (shA au18) rfl gg_X7_294 hd_X0_run ⟨Nat.le_of_ble_eq_true rfl, Nat.le_of_ble_eq_true rfl⟩ rfl rfl (Nat.le_of_ble_eq_true rfl) dX7_inTwo_48 ?_
        refine go_aload_n (pc := 51) X 0 dX7_inTwo_51 rfl rfl ?_
        refine go_getr (pc := 52) X (fk := 6) sh7 rfl inT_X7 (by decide) fL_X7_47 rfl dX7_inTwo_52 ?_
        refine go_iload_n (pc := 55) X 2 dX7_inTwo_55 rfl rfl ?_
        obtain ⟨u12, h13, h⟩ := bind_some h
        refine go_callVi (pc := 56) X 1 [] (ct_X0_paidByAll au18 h13) (shA au18) rfl gg_X7_164 hd_X0_paidByAll ⟨Nat.le_of_ble_eq_true rfl, Nat.le_of_ble_eq_true rfl⟩ rfl rfl (Nat.le_of_ble_eq_true rfl) dX7_inTwo_56 ?_
        refine go_istore_n (pc := 59) X [1, 2, 3, 0] (Ls' := [(0, .ref (ad 0)), (1, .int (i32 a1)), (2, .int (i32 a2)), (3, .int (i32 u12.1))]) dX7_inTwo_59 rfl (by decide) rfl ?_
        refine go_aload_n (pc := 60) X 0 dX7_inTwo_60 rfl rfl ?_
        refine go_getr (pc := 61) X (fk := 7) sh7 rfl inT_X7 (by decide) fL_X7_50 rfl dX7_inTwo_61 ?_
        refine go_aload_n (pc := 64) X 0 dX7_inTwo_64 rfl rfl ?_
        refine go_getr (pc := 65) X (fk := 6) sh7 rfl inT_X7 (by decide) fL_X7_47 rfl dX7_inTwo_65 ?_
        refine go_getr (pc := 68) X (fk := 4) (shA au18) rfl inT_X0 (by decide) fL_X7_172 rfl dX7_inTwo_68 ?_
        obtain ⟨S14, h15, h⟩ := bind_some h
        refine go_callVv (pc := 71) X 1 [] (ct_X1_handOver bk19 un25 h15) (shB bk19) rfl gg_X7_175 hd_X1_handOver ⟨Nat.le_of_ble_eq_true rfl, Nat.le_of_ble_eq_true rfl⟩ rfl rfl (Nat.le_of_ble_eq_true rfl) dX7_inTwo_71 ?_
        refine go_aload_n (pc := 74) X 0 dX7_inTwo_74 rfl rfl ?_
        refine go_getr (pc := 75) X (fk := 7) sh7 rfl inT_X7 (by decide) fL_X7_50 rfl dX7_inTwo_75 ?_
        refine go_aload_n (pc := 78) X 0 dX7_inTwo_78 rfl rfl ?_
        refine go_getr (pc := 79) X (fk := 3) sh7 rfl inT_X7 (by decide) fL_X7_32 rfl dX7_inTwo_79 ?_
        refine go_get (pc := 82) X (fk := 0) (fi := 0) rfl (shB bk5) rfl inT_X1 (by decide) fL_X7_191 rfl dX7_inTwo_82 ?_
        refine go_iload_n (pc := 85) X 1 dX7_inTwo_85 rfl rfl ?_
        refine go_isub (pc := 86) X dX7_inTwo_86 ?_
        obtain ⟨S16, e17, h⟩ := wrk_some h
        refine go_putE (pc := 87) X (fk := 0) (fi := 0) rfl e17 (shB bk19) rfl inT_X1 tyX1_ok nmX1 (by decide) fL_X7_191 rfl rfl rfl rfl rfl dX7_inTwo_87 ?_
        refine go_aload_n (pc := 90) X 0 dX7_inTwo_90 rfl rfl ?_
        refine go_getr (pc := 91) X (fk := 6) sh7 rfl inT_X7 (by decide) fL_X7_47 rfl dX7_inTwo_91 ?_
        obtain ⟨S18, h19, h⟩ := bind_some h
        refine go_callVv (pc := 94) X 0 [] (ct_X0_run au18 h19) (shA au18) rfl gg_X7_294 hd_X0_run ⟨Nat.le_of_ble_eq_true rfl, Nat.le_of_ble_eq_true rfl⟩ rfl rfl (Nat.le_of_ble_eq_true rfl) dX7_inTwo_94 ?_
        refine go_iload_n (pc := 97) X 3 dX7_inTwo_97 rfl rfl ?_
        refine go_aload_n (pc := 98) X 0 dX7_inTwo_98 rfl rfl ?_
        refine go_getr (pc := 99) X (fk := 6) sh7 rfl inT_X7 (by decide) fL_X7_47 rfl dX7_inTwo_99 ?_
        refine go_iload_n (pc := 102) X 2 dX7_inTwo_102 rfl rfl ?_
        obtain ⟨u20, h21, h⟩ := bind_some h
        refine go_callVi (pc := 103) X 1 [.int (i32 u12.1)] (ct_X0_paidByAll au18 h21) (shA au18) rfl gg_X7_164 hd_X0_paidByAll ⟨Nat.le_of_ble_eq_true rfl, Nat.le_of_ble_eq_true rfl⟩ rfl rfl (Nat.le_of_ble_eq_true rfl) dX7_inTwo_103 ?_
        refine go_iadd (pc := 106) X dX7_inTwo_106 ?_
        exact go_iret (pc := 107) X h dX7_inTwo_107
      · rw [if_pos c5] at h
        refine go_iconst (pc := 23) X dX7_inTwo_23 ?_
        exact go_iret (pc := 24) X h dX7_inTwo_24
set_option maxRecDepth 100000 in
set_option maxHeartbeats 4000000 in
theorem ct_X7_splitGain {l : Launch} {D : va_G} {cI cB : ClassId} {Z : (Nat → Nat) × (Nat → Nat)} {ad : Nat → Nat} {S : Mem} {a1 : Int} {a2 : Int} {a3 : Int} {r : Int} {S' : Mem} (h : f_X7_splitGain S a1 a2 a3 = some (r, S')) : Ctr l D cI cB Z ad shsC yX7_splitGain cX7_splitGain 6 (some .int) 6 132 [.ref (ad 0), .int (i32 a1), .int (i32 a2), .int (i32 a3)] S (some (.int (i32 r))) S' := by
  refine ctr_of (by decide +kernel) (Nat.le_of_ble_eq_true rfl) rfl ?_
  intro p e s m args below meth c A X
  unfold f_X7_splitGain at h
  refine go_aload_n (pc := 0) X 0 dX7_splitGain_0 rfl rfl ?_
  refine go_getr (pc := 1) X (fk := 3) sh7 rfl inT_X7 (by decide) fL_X7_32 rfl dX7_splitGain_1 ?_
  refine go_iload_n (pc := 4) X 1 dX7_splitGain_4 rfl rfl ?_
  refine go_iload_n (pc := 5) X 2 dX7_splitGain_5 rfl rfl ?_
  obtain ⟨r1, h2, h⟩ := bind_some h
  refine go_callVi (pc := 6) X 2 [] (ct_X1_canSplit bk5 h2) (shB bk5) rfl gg_X7_135 hd_X1_canSplit ⟨Nat.le_of_ble_eq_true rfl, Nat.le_of_ble_eq_true rfl⟩ rfl rfl (Nat.le_of_ble_eq_true rfl) dX7_splitGain_6 ?_
  refine go_if_eq (pc := 9) X 19 dX7_splitGain_9 rfl (fun c3 => ?_) (fun c3 => ?_)
  · rw [if_pos c3] at h
    refine go_ldc (pc := 19) X (-100000) cn_X7_216 rfl dX7_splitGain_19 ?_
    exact go_iret (pc := 21) X h dX7_splitGain_21
  · rw [if_neg c3] at h
    refine go_iload_n (pc := 12) X 3 dX7_splitGain_12 rfl rfl ?_
    obtain ⟨r4, h5, h⟩ := bind_some h
    refine go_callSi (pc := 13) X 1 [] (ct_X7_isKind h5) gg_X7_151 hd_X7_isKind ⟨Nat.le_of_ble_eq_true rfl, Nat.le_of_ble_eq_true rfl⟩ rfl rfl (Nat.le_of_ble_eq_true rfl) dX7_splitGain_13 ?_
    refine go_if_ne (pc := 16) X 22 dX7_splitGain_16 rfl (fun c6 => ?_) (fun c6 => ?_)
    · rw [if_neg c6] at h
      refine go_aload_n (pc := 22) X 0 dX7_splitGain_22 rfl rfl ?_
      obtain ⟨S7, h8, h⟩ := bind_some h
      refine go_callVr (pc := 23) X 0 [] (ct_X7_now h8) sh7 rfl gg_X7_154 hd_X7_now ⟨Nat.le_of_ble_eq_true rfl, Nat.le_of_ble_eq_true rfl⟩ rfl rfl (Nat.le_of_ble_eq_true rfl) dX7_splitGain_23 ?_
      refine go_iload_n (pc := 26) X 1 dX7_splitGain_26 rfl rfl ?_
      refine go_iload_n (pc := 27) X 3 dX7_splitGain_27 rfl rfl ?_
      obtain ⟨u9, h10, h⟩ := bind_some h
      refine go_callVi (pc := 28) X 2 [] (ct_X0_payment au4 h10) (shA au4) rfl gg_X7_210 hd_X0_payment ⟨Nat.le_of_ble_eq_true rfl, Nat.le_of_ble_eq_true rfl⟩ rfl rfl (Nat.le_of_ble_eq_true rfl) dX7_splitGain_28 ?_
      refine go_istore (pc := 31) X [1, 2, 3, 4, 0] (Ls' := [(0, .ref (ad 0)), (1, .int (i32 a1)), (2, .int (i32 a2)), (3, .int (i32 a3)), (4, .int (i32 u9.1))]) dX7_splitGain_31 (by decide) rfl ?_
      refine go_aload_n (pc := 33) X 0 dX7_splitGain_33 rfl rfl ?_
      refine go_getr (pc := 34) X (fk := 7) sh7 rfl inT_X7 (by decide) fL_X7_50 rfl dX7_splitGain_34 ?_
      refine go_aload_n (pc := 37) X 0 dX7_splitGain_37 rfl rfl ?_
      refine go_getr (pc := 38) X (fk := 3) sh7 rfl inT_X7 (by decide) fL_X7_32 rfl dX7_splitGain_38 ?_
      obtain ⟨S11, h12, h⟩ := bind_some h
      refine go_callVv (pc := 41) X 1 [] (ct_X1_takeFrom bk19 bk5 h12) (shB bk19) rfl gg_X7_82 hd_X1_takeFrom ⟨Nat.le_of_ble_eq_true rfl, Nat.le_of_ble_eq_true rfl⟩ rfl rfl (Nat.le_of_ble_eq_true rfl) dX7_splitGain_41 ?_
      refine go_aload_n (pc := 44) X 0 dX7_splitGain_44 rfl rfl ?_
      refine go_getr (pc := 45) X (fk := 7) sh7 rfl inT_X7 (by decide) fL_X7_50 rfl dX7_splitGain_45 ?_
      refine go_iload_n (pc := 48) X 1 dX7_splitGain_48 rfl rfl ?_
      refine go_iload_n (pc := 49) X 2 dX7_splitGain_49 rfl rfl ?_
      obtain ⟨u13, h14, h⟩ := bind_some h
      refine go_callVi (pc := 50) X 2 [] (ct_X1_splitOff bk19 h14) (shB bk19) rfl gg_X7_138 hd_X1_splitOff ⟨Nat.le_of_ble_eq_true rfl, Nat.le_of_ble_eq_true rfl⟩ rfl rfl (Nat.le_of_ble_eq_true rfl) dX7_splitGain_50 ?_
      refine go_istore (pc := 53) X [1, 2, 3, 4, 5, 0] (Ls' := [(0, .ref (ad 0)), (1, .int (i32 a1)), (2, .int (i32 a2)), (3, .int (i32 a3)), (4, .int (i32 u9.1)), (5, .int (i32 u13.1))]) dX7_splitGain_53 (by decide) rfl ?_
      refine go_aload_n (pc := 55) X 0 dX7_splitGain_55 rfl rfl ?_
      refine go_getr (pc := 56) X (fk := 6) sh7 rfl inT_X7 (by decide) fL_X7_47 rfl dX7_splitGain_56 ?_
      obtain ⟨S15, h16, h⟩ := bind_some h
      refine go_callVv (pc := 59) X 0 [] (ct_X0_run au18 h16) (shA au18) rfl gg_X7_294 hd_X0_run ⟨Nat.le_of_ble_eq_true rfl, Nat.le_of_ble_eq_true rfl⟩ rfl rfl (Nat.le_of_ble_eq_true rfl) dX7_splitGain_59 ?_
      refine go_iload (pc := 62) X 4 dX7_splitGain_62 rfl ?_
      refine go_aload_n (pc := 64) X 0 dX7_splitGain_64 rfl rfl ?_
      refine go_getr (pc := 65) X (fk := 6) sh7 rfl inT_X7 (by decide) fL_X7_47 rfl dX7_splitGain_65 ?_
      refine go_iload_n (pc := 68) X 1 dX7_splitGain_68 rfl rfl ?_
      refine go_iload_n (pc := 69) X 3 dX7_splitGain_69 rfl rfl ?_
      obtain ⟨u17, h18, h⟩ := bind_some h
      refine go_callVi (pc := 70) X 2 [.int (i32 u9.1)] (ct_X0_payment au18 h18) (shA au18) rfl gg_X7_210 hd_X0_payment ⟨Nat.le_of_ble_eq_true rfl, Nat.le_of_ble_eq_true rfl⟩ rfl rfl (Nat.le_of_ble_eq_true rfl) dX7_splitGain_70 ?_
      refine go_isub (pc := 73) X dX7_splitGain_73 ?_
      refine go_aload_n (pc := 74) X 0 dX7_splitGain_74 rfl rfl ?_
      refine go_getr (pc := 75) X (fk := 6) sh7 rfl inT_X7 (by decide) fL_X7_47 rfl dX7_splitGain_75 ?_
      refine go_iload (pc := 78) X 5 dX7_splitGain_78 rfl ?_
      refine go_iload_n (pc := 80) X 3 dX7_splitGain_80 rfl rfl ?_
      obtain ⟨u19, h20, h⟩ := bind_some h
      refine go_callVi (pc := 81) X 2 [.int (i32 (u9.1 - u17.1))] (ct_X0_payment au18 h20) (shA au18) rfl gg_X7_210 hd_X0_payment ⟨Nat.le_of_ble_eq_true rfl, Nat.le_of_ble_eq_true rfl⟩ rfl rfl (Nat.le_of_ble_eq_true rfl) dX7_splitGain_81 ?_
      refine go_isub (pc := 84) X dX7_splitGain_84 ?_
      exact go_iret (pc := 85) X h dX7_splitGain_85
    · rw [if_pos c6] at h
      refine go_ldc (pc := 19) X (-100000) cn_X7_216 rfl dX7_splitGain_19 ?_
      exact go_iret (pc := 21) X h dX7_splitGain_21
set_option maxRecDepth 100000 in
set_option maxHeartbeats 4000000 in
theorem ct_X7_reserveFor {l : Launch} {D : va_G} {cI cB : ClassId} {Z : (Nat → Nat) × (Nat → Nat)} {ad : Nat → Nat} {S : Mem} {a1 : Int} {r : Int} {S' : Mem} (h : f_X7_reserveFor S a1 = some (r, S')) : Ctr l D cI cB Z ad shsC yX7_reserveFor cX7_reserveFor 3 (some .int) 6 133 [.ref (ad 0), .int (i32 a1)] S (some (.int (i32 r))) S' := by
  refine ctr_of (by decide +kernel) (Nat.le_of_ble_eq_true rfl) rfl ?_
  intro p e s m args below meth c A X
  unfold f_X7_reserveFor at h
  refine go_iload_n (pc := 0) X 1 dX7_reserveFor_0 rfl rfl ?_
  refine go_iconst (pc := 1) X dX7_reserveFor_1 ?_
  refine go_icmp_ge (pc := 2) X 7 dX7_reserveFor_2 rfl (fun c1 => ?_) (fun c1 => ?_)
  · rw [if_neg c1] at h
    refine go_iconst (pc := 7) X dX7_reserveFor_7 ?_
    refine go_istore_n (pc := 8) X [1, 2, 0] (Ls' := [(0, .ref (ad 0)), (1, .int (i32 a1)), (2, .int (i32 0))]) dX7_reserveFor_8 rfl (by decide) rfl ?_
    obtain ⟨r8, h9, h⟩ := bind_some h
    have H10 : ∀ (n : Nat) (t11 : Int × Mem) (z12 : (Mem) ⊕ (Int × Mem)), lp (f_X7_reserveFor_l9 a1) n t11 = some z12 → lpG (fun z15 : Mem => Go p l e { frames := 6, cells := 0, slots := 0, locals := 133 } s m args below meth c 3 D cI cB ad shsC A (MQ below (cQ D cI cB ad shsC (some (.int (i32 r))) S' A) args s 0 0 A) 39 [] [] z15) (fun u : Int × Mem => some u = some (r, S')) z12 → Go p l e { frames := 6, cells := 0, slots := 0, locals := 133 } s m args below meth c 3 D cI cB ad shsC A (MQ below (cQ D cI cB ad shsC (some (.int (i32 r))) S' A) args s 0 0 A) 9 [(0, .ref (ad 0)), (1, .int (i32 a1)), (2, .int (i32 t11.1))] [] t11.2 := by
      refine lp_go (fun t11 : Int × Mem => Go p l e { frames := 6, cells := 0, slots := 0, locals := 133 } s m args below meth c 3 D cI cB ad shsC A (MQ below (cQ D cI cB ad shsC (some (.int (i32 r))) S' A) args s 0 0 A) 9 [(0, .ref (ad 0)), (1, .int (i32 a1)), (2, .int (i32 t11.1))] [] t11.2) (fun z12 : (Mem) ⊕ (Int × Mem) => lpG (fun z15 : Mem => Go p l e { frames := 6, cells := 0, slots := 0, locals := 133 } s m args below meth c 3 D cI cB ad shsC A (MQ below (cQ D cI cB ad shsC (some (.int (i32 r))) S' A) args s 0 0 A) 39 [] [] z15) (fun u : Int × Mem => some u = some (r, S')) z12) ?_
      intro t11 x13 h hx14
      unfold f_X7_reserveFor_l9 at h
      refine go_iload_n (pc := 9) X 2 dX7_reserveFor_9 rfl rfl ?_
      refine go_bipush (pc := 10) X dX7_reserveFor_10 (by decide) (by decide) ?_
      refine go_icmp_gt (pc := 12) X 39 dX7_reserveFor_12 rfl (fun c16 => ?_) (fun c16 => ?_)
      · rw [if_pos c16] at h
        refine go_pick [] (Ls' := []) rfl ?_
        exact lp_back h hx14
      · rw [if_neg c16] at h
        refine go_aload_n (pc := 15) X 0 dX7_reserveFor_15 rfl rfl ?_
        refine go_iload_n (pc := 16) X 2 dX7_reserveFor_16 rfl rfl ?_
        obtain ⟨S17, h18, h⟩ := bind_some h
        refine go_callVv (pc := 17) X 1 [] (ct_X7_supposeReserve h18) sh7 rfl gg_X7_297 hd_X7_supposeReserve ⟨Nat.le_of_ble_eq_true rfl, Nat.le_of_ble_eq_true rfl⟩ rfl rfl (Nat.le_of_ble_eq_true rfl) dX7_reserveFor_17 ?_
        refine go_aload_n (pc := 20) X 0 dX7_reserveFor_20 rfl rfl ?_
        refine go_getr (pc := 21) X (fk := 6) sh7 rfl inT_X7 (by decide) fL_X7_47 rfl dX7_reserveFor_21 ?_
        obtain ⟨r19, h20, h⟩ := bind_some h
        refine go_callVi (pc := 24) X 0 [] (ct_X0_unsold au18 h20) (shA au18) rfl gg_X7_283 hd_X0_unsold ⟨Nat.le_of_ble_eq_true rfl, Nat.le_of_ble_eq_true rfl⟩ rfl rfl (Nat.le_of_ble_eq_true rfl) dX7_reserveFor_24 ?_
        refine go_iload_n (pc := 27) X 1 dX7_reserveFor_27 rfl rfl ?_
        refine go_icmp_lt (pc := 28) X 33 dX7_reserveFor_28 rfl (fun c21 => ?_) (fun c21 => ?_)
        · rw [if_pos c21] at h
          refine go_iinc (pc := 33) X [1, 2, 0] 2 (Ls' := [(0, .ref (ad 0)), (1, .int (i32 a1)), (2, .int (i32 (t11.1 + 1)))]) dX7_reserveFor_33 rfl (by decide) rfl ?_
          refine go_goto (pc := 36) X 9 dX7_reserveFor_36 rfl ?_
          exact lp_back h hx14
        · rw [if_neg c21] at h
          refine go_iload_n (pc := 31) X 2 dX7_reserveFor_31 rfl rfl ?_
          exact go_iret (pc := 32) X (lp_back h hx14) dX7_reserveFor_32
    refine H10 FU (0, S) r8 h9 ?_
    cases r8 with
    | inl r22 =>
      have h := lct_l h
      refine lpG_l ?_
      refine go_bipush (pc := 39) X dX7_reserveFor_39 (by decide) (by decide) ?_
      exact go_iret (pc := 41) X h dX7_reserveFor_41
    | inr u23 =>
      have h := lct_r h
      refine lpG_r ?_
      exact h
  · rw [if_pos c1] at h
    refine go_iconst (pc := 5) X dX7_reserveFor_5 ?_
    exact go_iret (pc := 6) X h dX7_reserveFor_6
set_option maxRecDepth 100000 in
set_option maxHeartbeats 4000000 in
theorem ct_X7_collude {l : Launch} {D : va_G} {cI cB : ClassId} {Z : (Nat → Nat) × (Nat → Nat)} {ad : Nat → Nat} {S : Mem} {a1 : Int} {a2 : Int} {a3 : Int} {r : Int} {S' : Mem} (h : f_X7_collude S a1 a2 a3 = some (r, S')) : Ctr l D cI cB Z ad shsC yX7_collude cX7_collude 5 (some .int) 6 132 [.ref (ad 0), .int (i32 a1), .int (i32 a2), .int (i32 a3)] S (some (.int (i32 r))) S' := by
  refine ctr_of (by decide +kernel) (Nat.le_of_ble_eq_true rfl) rfl ?_
  intro p e s m args below meth c A X
  unfold f_X7_collude at h
  refine go_aload_n (pc := 0) X 0 dX7_collude_0 rfl rfl ?_
  refine go_getr (pc := 1) X (fk := 3) sh7 rfl inT_X7 (by decide) fL_X7_32 rfl dX7_collude_1 ?_
  refine go_iload_n (pc := 4) X 1 dX7_collude_4 rfl rfl ?_
  refine go_iload_n (pc := 5) X 2 dX7_collude_5 rfl rfl ?_
  obtain ⟨r1, h2, h⟩ := bind_some h
  refine go_callVi (pc := 6) X 2 [] (ct_X1_hasTwo bk5 h2) (shB bk5) rfl gg_X7_141 hd_X1_hasTwo ⟨Nat.le_of_ble_eq_true rfl, Nat.le_of_ble_eq_true rfl⟩ rfl rfl (Nat.le_of_ble_eq_true rfl) dX7_collude_6 ?_
  refine go_if_eq (pc := 9) X 19 dX7_collude_9 rfl (fun c3 => ?_) (fun c3 => ?_)
  · rw [if_pos c3] at h
    refine go_ldc (pc := 19) X (-100000) cn_X7_216 rfl dX7_collude_19 ?_
    exact go_iret (pc := 21) X h dX7_collude_21
  · rw [if_neg c3] at h
    refine go_iload_n (pc := 12) X 3 dX7_collude_12 rfl rfl ?_
    obtain ⟨r4, h5, h⟩ := bind_some h
    refine go_callSi (pc := 13) X 1 [] (ct_X7_isKind h5) gg_X7_151 hd_X7_isKind ⟨Nat.le_of_ble_eq_true rfl, Nat.le_of_ble_eq_true rfl⟩ rfl rfl (Nat.le_of_ble_eq_true rfl) dX7_collude_13 ?_
    refine go_if_ne (pc := 16) X 22 dX7_collude_16 rfl (fun c6 => ?_) (fun c6 => ?_)
    · rw [if_neg c6] at h
      refine go_aload_n (pc := 22) X 0 dX7_collude_22 rfl rfl ?_
      obtain ⟨S7, h8, h⟩ := bind_some h
      refine go_callVr (pc := 23) X 0 [] (ct_X7_now h8) sh7 rfl gg_X7_154 hd_X7_now ⟨Nat.le_of_ble_eq_true rfl, Nat.le_of_ble_eq_true rfl⟩ rfl rfl (Nat.le_of_ble_eq_true rfl) dX7_collude_23 ?_
      refine go_iload_n (pc := 26) X 1 dX7_collude_26 rfl rfl ?_
      refine go_iload_n (pc := 27) X 3 dX7_collude_27 rfl rfl ?_
      obtain ⟨u9, h10, h⟩ := bind_some h
      refine go_callVi (pc := 28) X 2 [] (ct_X0_payment au4 h10) (shA au4) rfl gg_X7_210 hd_X0_payment ⟨Nat.le_of_ble_eq_true rfl, Nat.le_of_ble_eq_true rfl⟩ rfl rfl (Nat.le_of_ble_eq_true rfl) dX7_collude_28 ?_
      refine go_aload_n (pc := 31) X 0 dX7_collude_31 rfl rfl ?_
      obtain ⟨S11, h12, h⟩ := bind_some h
      refine go_callVr (pc := 32) X 0 [.int (i32 u9.1)] (ct_X7_now h12) sh7 rfl gg_X7_154 hd_X7_now ⟨Nat.le_of_ble_eq_true rfl, Nat.le_of_ble_eq_true rfl⟩ rfl rfl (Nat.le_of_ble_eq_true rfl) dX7_collude_32 ?_
      refine go_iload_n (pc := 35) X 2 dX7_collude_35 rfl rfl ?_
      refine go_iload_n (pc := 36) X 3 dX7_collude_36 rfl rfl ?_
      obtain ⟨u13, h14, h⟩ := bind_some h
      refine go_callVi (pc := 37) X 2 [.int (i32 u9.1)] (ct_X0_payment au4 h14) (shA au4) rfl gg_X7_210 hd_X0_payment ⟨Nat.le_of_ble_eq_true rfl, Nat.le_of_ble_eq_true rfl⟩ rfl rfl (Nat.le_of_ble_eq_true rfl) dX7_collude_37 ?_
      refine go_iadd (pc := 40) X dX7_collude_40 ?_
      refine go_istore (pc := 41) X [1, 2, 3, 4, 0] (Ls' := [(0, .ref (ad 0)), (1, .int (i32 a1)), (2, .int (i32 a2)), (3, .int (i32 a3)), (4, .int (i32 (u9.1 + u13.1)))]) dX7_collude_41 (by decide) rfl ?_
      refine go_aload_n (pc := 43) X 0 dX7_collude_43 rfl rfl ?_
      refine go_getr (pc := 44) X (fk := 7) sh7 rfl inT_X7 (by decide) fL_X7_50 rfl dX7_collude_44 ?_
      refine go_aload_n (pc := 47) X 0 dX7_collude_47 rfl rfl ?_
      refine go_getr (pc := 48) X (fk := 3) sh7 rfl inT_X7 (by decide) fL_X7_32 rfl dX7_collude_48 ?_
      obtain ⟨S15, h16, h⟩ := bind_some h
      refine go_callVv (pc := 51) X 1 [] (ct_X1_takeFrom bk19 bk5 h16) (shB bk19) rfl gg_X7_82 hd_X1_takeFrom ⟨Nat.le_of_ble_eq_true rfl, Nat.le_of_ble_eq_true rfl⟩ rfl rfl (Nat.le_of_ble_eq_true rfl) dX7_collude_51 ?_
      refine go_aload_n (pc := 54) X 0 dX7_collude_54 rfl rfl ?_
      refine go_getr (pc := 55) X (fk := 7) sh7 rfl inT_X7 (by decide) fL_X7_50 rfl dX7_collude_55 ?_
      refine go_iload_n (pc := 58) X 1 dX7_collude_58 rfl rfl ?_
      refine go_iload_n (pc := 59) X 2 dX7_collude_59 rfl rfl ?_
      obtain ⟨S17, h18, h⟩ := bind_some h
      refine go_callVv (pc := 60) X 2 [] (ct_X1_merge bk19 h18) (shB bk19) rfl gg_X7_314 hd_X1_merge ⟨Nat.le_of_ble_eq_true rfl, Nat.le_of_ble_eq_true rfl⟩ rfl rfl (Nat.le_of_ble_eq_true rfl) dX7_collude_60 ?_
      refine go_aload_n (pc := 63) X 0 dX7_collude_63 rfl rfl ?_
      refine go_getr (pc := 64) X (fk := 7) sh7 rfl inT_X7 (by decide) fL_X7_50 rfl dX7_collude_64 ?_
      refine go_iload_n (pc := 67) X 2 dX7_collude_67 rfl rfl ?_
      obtain ⟨S19, h20, h⟩ := bind_some h
      refine go_callVv (pc := 68) X 1 [] (ct_X1_removeBidder bk19 h20) (shB bk19) rfl gg_X7_107 hd_X1_removeBidder ⟨Nat.le_of_ble_eq_true rfl, Nat.le_of_ble_eq_true rfl⟩ rfl rfl (Nat.le_of_ble_eq_true rfl) dX7_collude_68 ?_
      refine go_aload_n (pc := 71) X 0 dX7_collude_71 rfl rfl ?_
      refine go_getr (pc := 72) X (fk := 6) sh7 rfl inT_X7 (by decide) fL_X7_47 rfl dX7_collude_72 ?_
      obtain ⟨S21, h22, h⟩ := bind_some h
      refine go_callVv (pc := 75) X 0 [] (ct_X0_run au18 h22) (shA au18) rfl gg_X7_294 hd_X0_run ⟨Nat.le_of_ble_eq_true rfl, Nat.le_of_ble_eq_true rfl⟩ rfl rfl (Nat.le_of_ble_eq_true rfl) dX7_collude_75 ?_
      refine go_iload (pc := 78) X 4 dX7_collude_78 rfl ?_
      refine go_aload_n (pc := 80) X 0 dX7_collude_80 rfl rfl ?_
      refine go_getr (pc := 81) X (fk := 6) sh7 rfl inT_X7 (by decide) fL_X7_47 rfl dX7_collude_81 ?_
      refine go_iload_n (pc := 84) X 1 dX7_collude_84 rfl rfl ?_
      refine go_iload_n (pc := 85) X 2 dX7_collude_85 rfl rfl ?_
      obtain ⟨r23, h24, h⟩ := bind_some h
      refine go_callSi (pc := 86) X 2 [.ref (ad 18), .int (i32 (u9.1 + u13.1))] (ct_X7_placeWithout h24) gg_X7_303 hd_X7_placeWithout ⟨Nat.le_of_ble_eq_true rfl, Nat.le_of_ble_eq_true rfl⟩ rfl rfl (Nat.le_of_ble_eq_true rfl) dX7_collude_86 ?_
      refine go_iload_n (pc := 89) X 3 dX7_collude_89 rfl rfl ?_
      obtain ⟨u25, h26, h⟩ := bind_some h
      refine go_callVi (pc := 90) X 2 [.int (i32 (u9.1 + u13.1))] (ct_X0_payment au18 h26) (shA au18) rfl gg_X7_210 hd_X0_payment ⟨Nat.le_of_ble_eq_true rfl, Nat.le_of_ble_eq_true rfl⟩ rfl rfl (Nat.le_of_ble_eq_true rfl) dX7_collude_90 ?_
      refine go_isub (pc := 93) X dX7_collude_93 ?_
      exact go_iret (pc := 94) X h dX7_collude_94
    · rw [if_pos c6] at h
      refine go_ldc (pc := 19) X (-100000) cn_X7_216 rfl dX7_collude_19 ?_
      exact go_iret (pc := 21) X h dX7_collude_21
set_option maxRecDepth 100000 in
set_option maxHeartbeats 4000000 in
theorem ct_X7_supplyFor {l : Launch} {D : va_G} {cI cB : ClassId} {Z : (Nat → Nat) × (Nat → Nat)} {ad : Nat → Nat} {S : Mem} {a1 : Int} {r : Int} {S' : Mem} (h : f_X7_supplyFor S a1 = some (r, S')) : Ctr l D cI cB Z ad shsC yX7_supplyFor cX7_supplyFor 3 (some .int) 5 112 [.ref (ad 0), .int (i32 a1)] S (some (.int (i32 r))) S' := by
  refine ctr_of (by decide +kernel) (Nat.le_of_ble_eq_true rfl) rfl ?_
  intro p e s m args below meth c A X
  unfold f_X7_supplyFor at h
  refine go_iload_n (pc := 0) X 1 dX7_supplyFor_0 rfl rfl ?_
  obtain ⟨r1, h2, h⟩ := bind_some h
  refine go_callSi (pc := 1) X 1 [] (ct_X7_isPrice h2) gg_X7_110 hd_X7_isPrice ⟨Nat.le_of_ble_eq_true rfl, Nat.le_of_ble_eq_true rfl⟩ rfl rfl (Nat.le_of_ble_eq_true rfl) dX7_supplyFor_1 ?_
  refine go_if_ne (pc := 4) X 9 dX7_supplyFor_4 rfl (fun c3 => ?_) (fun c3 => ?_)
  · rw [if_neg c3] at h
    refine go_aload_n (pc := 9) X 0 dX7_supplyFor_9 rfl rfl ?_
    refine go_getr (pc := 10) X (fk := 7) sh7 rfl inT_X7 (by decide) fL_X7_50 rfl dX7_supplyFor_10 ?_
    refine go_aload_n (pc := 13) X 0 dX7_supplyFor_13 rfl rfl ?_
    refine go_getr (pc := 14) X (fk := 3) sh7 rfl inT_X7 (by decide) fL_X7_32 rfl dX7_supplyFor_14 ?_
    obtain ⟨S4, h5, h⟩ := bind_some h
    refine go_callVv (pc := 17) X 1 [] (ct_X1_takeFrom bk19 bk5 h5) (shB bk19) rfl gg_X7_82 hd_X1_takeFrom ⟨Nat.le_of_ble_eq_true rfl, Nat.le_of_ble_eq_true rfl⟩ rfl rfl (Nat.le_of_ble_eq_true rfl) dX7_supplyFor_17 ?_
    refine go_iconst (pc := 20) X dX7_supplyFor_20 ?_
    refine go_istore_n (pc := 21) X [1, 2, 0] (Ls' := [(0, .ref (ad 0)), (1, .int (i32 a1)), (2, .int (i32 1))]) dX7_supplyFor_21 rfl (by decide) rfl ?_
    obtain ⟨r12, h13, h⟩ := bind_some h
    have H14 : ∀ (n : Nat) (t15 : Int × Mem) (z16 : (Mem) ⊕ (Int × Mem)), lp (f_X7_supplyFor_l22 a1) n t15 = some z16 → lpG (fun z19 : Mem => Go p l e { frames := 5, cells := 0, slots := 0, locals := 112 } s m args below meth c 3 D cI cB ad shsC A (MQ below (cQ D cI cB ad shsC (some (.int (i32 r))) S' A) args s 0 0 A) 62 [] [] z19) (fun u : Int × Mem => some u = some (r, S')) z16 → Go p l e { frames := 5, cells := 0, slots := 0, locals := 112 } s m args below meth c 3 D cI cB ad shsC A (MQ below (cQ D cI cB ad shsC (some (.int (i32 r))) S' A) args s 0 0 A) 22 [(0, .ref (ad 0)), (1, .int (i32 a1)), (2, .int (i32 t15.1))] [] t15.2 := by
      refine lp_go (fun t15 : Int × Mem => Go p l e { frames := 5, cells := 0, slots := 0, locals := 112 } s m args below meth c 3 D cI cB ad shsC A (MQ below (cQ D cI cB ad shsC (some (.int (i32 r))) S' A) args s 0 0 A) 22 [(0, .ref (ad 0)), (1, .int (i32 a1)), (2, .int (i32 t15.1))] [] t15.2) (fun z16 : (Mem) ⊕ (Int × Mem) => lpG (fun z19 : Mem => Go p l e { frames := 5, cells := 0, slots := 0, locals := 112 } s m args below meth c 3 D cI cB ad shsC A (MQ below (cQ D cI cB ad shsC (some (.int (i32 r))) S' A) args s 0 0 A) 62 [] [] z19) (fun u : Int × Mem => some u = some (r, S')) z16) ?_
      intro t15 x17 h hx18
      unfold f_X7_supplyFor_l22 at h
      refine go_iload_n (pc := 22) X 2 dX7_supplyFor_22 rfl rfl ?_
      refine go_bipush (pc := 23) X dX7_supplyFor_23 (by decide) (by decide) ?_
      refine go_icmp_gt (pc := 25) X 62 dX7_supplyFor_25 rfl (fun c20 => ?_) (fun c20 => ?_)
      · rw [if_pos c20] at h
        refine go_pick [] (Ls' := []) rfl ?_
        exact lp_back h hx18
      · rw [if_neg c20] at h
        refine go_aload_n (pc := 28) X 0 dX7_supplyFor_28 rfl rfl ?_
        refine go_getr (pc := 29) X (fk := 7) sh7 rfl inT_X7 (by decide) fL_X7_50 rfl dX7_supplyFor_29 ?_
        refine go_iload_n (pc := 32) X 2 dX7_supplyFor_32 rfl rfl ?_
        obtain ⟨S21, e22, h⟩ := wrk_some h
        refine go_putE (pc := 33) X (fk := 0) (fi := 0) rfl e22 (shB bk19) rfl inT_X1 tyX1_ok nmX1 (by decide) fL_X7_191 rfl rfl rfl rfl rfl dX7_supplyFor_33 ?_
        refine go_aload_n (pc := 36) X 0 dX7_supplyFor_36 rfl rfl ?_
        refine go_getr (pc := 37) X (fk := 6) sh7 rfl inT_X7 (by decide) fL_X7_47 rfl dX7_supplyFor_37 ?_
        obtain ⟨S23, h24, h⟩ := bind_some h
        refine go_callVv (pc := 40) X 0 [] (ct_X0_run au18 h24) (shA au18) rfl gg_X7_294 hd_X0_run ⟨Nat.le_of_ble_eq_true rfl, Nat.le_of_ble_eq_true rfl⟩ rfl rfl (Nat.le_of_ble_eq_true rfl) dX7_supplyFor_40 ?_
        refine go_aload_n (pc := 43) X 0 dX7_supplyFor_43 rfl rfl ?_
        refine go_getr (pc := 44) X (fk := 6) sh7 rfl inT_X7 (by decide) fL_X7_47 rfl dX7_supplyFor_44 ?_
        refine go_get (pc := 47) X (fk := 1) (fi := 1) rfl (shA au18) rfl inT_X0 (by decide) fL_X7_158 rfl dX7_supplyFor_47 ?_
        refine go_iload_n (pc := 50) X 1 dX7_supplyFor_50 rfl rfl ?_
        refine go_icmp_gt (pc := 51) X 56 dX7_supplyFor_51 rfl (fun c25 => ?_) (fun c25 => ?_)
        · rw [if_pos c25] at h
          refine go_iinc (pc := 56) X [1, 2, 0] 2 (Ls' := [(0, .ref (ad 0)), (1, .int (i32 a1)), (2, .int (i32 (t15.1 + 1)))]) dX7_supplyFor_56 rfl (by decide) rfl ?_
          refine go_goto (pc := 59) X 22 dX7_supplyFor_59 rfl ?_
          exact lp_back h hx18
        · rw [if_neg c25] at h
          refine go_iload_n (pc := 54) X 2 dX7_supplyFor_54 rfl rfl ?_
          exact go_iret (pc := 55) X (lp_back h hx18) dX7_supplyFor_55
    refine H14 FU (1, S4) r12 h13 ?_
    cases r12 with
    | inl r26 =>
      have h := lct_l h
      refine lpG_l ?_
      refine go_bipush (pc := 62) X dX7_supplyFor_62 (by decide) (by decide) ?_
      exact go_iret (pc := 64) X h dX7_supplyFor_64
    | inr u27 =>
      have h := lct_r h
      refine lpG_r ?_
      exact h
  · rw [if_pos c3] at h
    refine go_iconst (pc := 7) X dX7_supplyFor_7 ?_
    exact go_iret (pc := 8) X h dX7_supplyFor_8
set_option maxRecDepth 100000 in
set_option maxHeartbeats 4000000 in
theorem ct_X7_valueFor {l : Launch} {D : va_G} {cI cB : ClassId} {Z : (Nat → Nat) × (Nat → Nat)} {ad : Nat → Nat} {S : Mem} {a1 : Int} {r : Int} {S' : Mem} (h : f_X7_valueFor S a1 = some (r, S')) : Ctr l D cI cB Z ad shsC yX7_valueFor cX7_valueFor 4 (some .int) 6 132 [.ref (ad 0), .int (i32 a1)] S (some (.int (i32 r))) S' := by
  refine ctr_of (by decide +kernel) (Nat.le_of_ble_eq_true rfl) rfl ?_
  intro p e s m args below meth c A X
  unfold f_X7_valueFor at h
  refine go_aload_n (pc := 0) X 0 dX7_valueFor_0 rfl rfl ?_
  refine go_getr (pc := 1) X (fk := 3) sh7 rfl inT_X7 (by decide) fL_X7_32 rfl dX7_valueFor_1 ?_
  refine go_iload_n (pc := 4) X 1 dX7_valueFor_4 rfl rfl ?_
  obtain ⟨r1, h2, h⟩ := bind_some h
  refine go_callVi (pc := 5) X 1 [] (ct_X1_has bk5 h2) (shB bk5) rfl gg_X7_104 hd_X1_has ⟨Nat.le_of_ble_eq_true rfl, Nat.le_of_ble_eq_true rfl⟩ rfl rfl (Nat.le_of_ble_eq_true rfl) dX7_valueFor_5 ?_
  refine go_if_eq (pc := 8) X 25 dX7_valueFor_8 rfl (fun c3 => ?_) (fun c3 => ?_)
  · rw [if_pos c3] at h
    refine go_iconst (pc := 25) X dX7_valueFor_25 ?_
    exact go_iret (pc := 26) X h dX7_valueFor_26
  · rw [if_neg c3] at h
    refine go_aload_n (pc := 11) X 0 dX7_valueFor_11 rfl rfl ?_
    refine go_getr (pc := 12) X (fk := 3) sh7 rfl inT_X7 (by decide) fL_X7_32 rfl dX7_valueFor_12 ?_
    refine go_getr (pc := 15) X (fk := 3) (shB bk5) rfl inT_X1 (by decide) fL_X7_113 rfl dX7_valueFor_15 ?_
    refine go_iload_n (pc := 18) X 1 dX7_valueFor_18 rfl rfl ?_
    obtain ⟨g4, h⟩ := gd_some h
    refine go_iald (pc := 19) X (shB1 bk5) (Nat.le_of_ble_eq_true rfl) rfl g4 dX7_valueFor_19 ?_
    refine go_bipush (pc := 20) X dX7_valueFor_20 (by decide) (by decide) ?_
    refine go_icmp_lt (pc := 22) X 27 dX7_valueFor_22 rfl (fun c5 => ?_) (fun c5 => ?_)
    · rw [if_pos c5] at h
      refine go_aload_n (pc := 27) X 0 dX7_valueFor_27 rfl rfl ?_
      obtain ⟨S6, h7, h⟩ := bind_some h
      refine go_callVr (pc := 28) X 0 [] (ct_X7_now h7) sh7 rfl gg_X7_154 hd_X7_now ⟨Nat.le_of_ble_eq_true rfl, Nat.le_of_ble_eq_true rfl⟩ rfl rfl (Nat.le_of_ble_eq_true rfl) dX7_valueFor_28 ?_
      refine go_getr (pc := 31) X (fk := 4) (shA au4) rfl inT_X0 (by decide) fL_X7_172 rfl dX7_valueFor_31 ?_
      refine go_iload_n (pc := 34) X 1 dX7_valueFor_34 rfl rfl ?_
      refine go_iald (pc := 35) X (shA7 au4) (Nat.le_of_ble_eq_true rfl) rfl g4 dX7_valueFor_35 ?_
      refine go_istore_n (pc := 36) X [1, 2, 0] (Ls' := [(0, .ref (ad 0)), (1, .int (i32 a1)), (2, .int (i32 (S6 11 a1)))]) dX7_valueFor_36 rfl (by decide) rfl ?_
      refine go_iconst (pc := 37) X dX7_valueFor_37 ?_
      refine go_istore_n (pc := 38) X [1, 2, 3, 0] (Ls' := [(0, .ref (ad 0)), (1, .int (i32 a1)), (2, .int (i32 (S6 11 a1))), (3, .int (i32 0))]) dX7_valueFor_38 rfl (by decide) rfl ?_
      obtain ⟨r17, h18, h⟩ := bind_some h
      have H19 : ∀ (n : Nat) (t20 : Int × Mem) (z21 : (Mem) ⊕ (Int × Mem)), lp (f_X7_valueFor_l39 a1 (S6 11 a1)) n t20 = some z21 → lpG (fun z24 : Mem => Go p l e { frames := 6, cells := 0, slots := 0, locals := 132 } s m args below meth c 4 D cI cB ad shsC A (MQ below (cQ D cI cB ad shsC (some (.int (i32 r))) S' A) args s 0 0 A) 93 [] [] z24) (fun u : Int × Mem => some u = some (r, S')) z21 → Go p l e { frames := 6, cells := 0, slots := 0, locals := 132 } s m args below meth c 4 D cI cB ad shsC A (MQ below (cQ D cI cB ad shsC (some (.int (i32 r))) S' A) args s 0 0 A) 39 [(0, .ref (ad 0)), (1, .int (i32 a1)), (2, .int (i32 (S6 11 a1))), (3, .int (i32 t20.1))] [] t20.2 := by
        refine lp_go (fun t20 : Int × Mem => Go p l e { frames := 6, cells := 0, slots := 0, locals := 132 } s m args below meth c 4 D cI cB ad shsC A (MQ below (cQ D cI cB ad shsC (some (.int (i32 r))) S' A) args s 0 0 A) 39 [(0, .ref (ad 0)), (1, .int (i32 a1)), (2, .int (i32 (S6 11 a1))), (3, .int (i32 t20.1))] [] t20.2) (fun z21 : (Mem) ⊕ (Int × Mem) => lpG (fun z24 : Mem => Go p l e { frames := 6, cells := 0, slots := 0, locals := 132 } s m args below meth c 4 D cI cB ad shsC A (MQ below (cQ D cI cB ad shsC (some (.int (i32 r))) S' A) args s 0 0 A) 93 [] [] z24) (fun u : Int × Mem => some u = some (r, S')) z21) ?_
        intro t20 x22 h hx23
        unfold f_X7_valueFor_l39 at h
        refine go_iload_n (pc := 39) X 3 dX7_valueFor_39 rfl rfl ?_
        refine go_bipush (pc := 40) X dX7_valueFor_40 (by decide) (by decide) ?_
        refine go_icmp_gt (pc := 42) X 93 dX7_valueFor_42 rfl (fun c25 => ?_) (fun c25 => ?_)
        · rw [if_pos c25] at h
          refine go_pick [] (Ls' := []) rfl ?_
          exact lp_back h hx23
        · rw [if_neg c25] at h
          refine go_aload_n (pc := 45) X 0 dX7_valueFor_45 rfl rfl ?_
          refine go_getr (pc := 46) X (fk := 7) sh7 rfl inT_X7 (by decide) fL_X7_50 rfl dX7_valueFor_46 ?_
          refine go_aload_n (pc := 49) X 0 dX7_valueFor_49 rfl rfl ?_
          refine go_getr (pc := 50) X (fk := 3) sh7 rfl inT_X7 (by decide) fL_X7_32 rfl dX7_valueFor_50 ?_
          obtain ⟨S26, h27, h⟩ := bind_some h
          refine go_callVv (pc := 53) X 1 [] (ct_X1_takeFrom bk19 bk5 h27) (shB bk19) rfl gg_X7_82 hd_X1_takeFrom ⟨Nat.le_of_ble_eq_true rfl, Nat.le_of_ble_eq_true rfl⟩ rfl rfl (Nat.le_of_ble_eq_true rfl) dX7_valueFor_53 ?_
          refine go_aload_n (pc := 56) X 0 dX7_valueFor_56 rfl rfl ?_
          refine go_getr (pc := 57) X (fk := 7) sh7 rfl inT_X7 (by decide) fL_X7_50 rfl dX7_valueFor_57 ?_
          refine go_iload_n (pc := 60) X 1 dX7_valueFor_60 rfl rfl ?_
          refine go_iload_n (pc := 61) X 3 dX7_valueFor_61 rfl rfl ?_
          obtain ⟨S28, h29, h⟩ := bind_some h
          refine go_callVv (pc := 62) X 2 [] (ct_X1_insertValue bk19 h29) (shB bk19) rfl gg_X7_117 hd_X1_insertValue ⟨Nat.le_of_ble_eq_true rfl, Nat.le_of_ble_eq_true rfl⟩ rfl rfl (Nat.le_of_ble_eq_true rfl) dX7_valueFor_62 ?_
          refine go_aload_n (pc := 65) X 0 dX7_valueFor_65 rfl rfl ?_
          refine go_getr (pc := 66) X (fk := 6) sh7 rfl inT_X7 (by decide) fL_X7_47 rfl dX7_valueFor_66 ?_
          obtain ⟨S30, h31, h⟩ := bind_some h
          refine go_callVv (pc := 69) X 0 [] (ct_X0_run au18 h31) (shA au18) rfl gg_X7_294 hd_X0_run ⟨Nat.le_of_ble_eq_true rfl, Nat.le_of_ble_eq_true rfl⟩ rfl rfl (Nat.le_of_ble_eq_true rfl) dX7_valueFor_69 ?_
          refine go_aload_n (pc := 72) X 0 dX7_valueFor_72 rfl rfl ?_
          refine go_getr (pc := 73) X (fk := 6) sh7 rfl inT_X7 (by decide) fL_X7_47 rfl dX7_valueFor_73 ?_
          refine go_getr (pc := 76) X (fk := 4) (shA au18) rfl inT_X0 (by decide) fL_X7_172 rfl dX7_valueFor_76 ?_
          refine go_iload_n (pc := 79) X 1 dX7_valueFor_79 rfl rfl ?_
          obtain ⟨g32, h⟩ := gd_some h
          refine go_iald (pc := 80) X (shA7 au18) (Nat.le_of_ble_eq_true rfl) rfl g32 dX7_valueFor_80 ?_
          refine go_iload_n (pc := 81) X 2 dX7_valueFor_81 rfl rfl ?_
          refine go_icmp_le (pc := 82) X 87 dX7_valueFor_82 rfl (fun c33 => ?_) (fun c33 => ?_)
          · rw [if_neg c33] at h
            refine go_iinc (pc := 87) X [1, 2, 3, 0] 3 (Ls' := [(0, .ref (ad 0)), (1, .int (i32 a1)), (2, .int (i32 (S6 11 a1))), (3, .int (i32 (t20.1 + 1)))]) dX7_valueFor_87 rfl (by decide) rfl ?_
            refine go_goto (pc := 90) X 39 dX7_valueFor_90 rfl ?_
            exact lp_back h hx23
          · rw [if_pos c33] at h
            refine go_iload_n (pc := 85) X 3 dX7_valueFor_85 rfl rfl ?_
            exact go_iret (pc := 86) X (lp_back h hx23) dX7_valueFor_86
      refine H19 FU (0, S6) r17 h18 ?_
      cases r17 with
      | inl r34 =>
        have h := lct_l h
        refine lpG_l ?_
        refine go_bipush (pc := 93) X dX7_valueFor_93 (by decide) (by decide) ?_
        exact go_iret (pc := 95) X h dX7_valueFor_95
      | inr u35 =>
        have h := lct_r h
        refine lpG_r ?_
        exact h
    · rw [if_neg c5] at h
      refine go_iconst (pc := 25) X dX7_valueFor_25 ?_
      exact go_iret (pc := 26) X h dX7_valueFor_26
set_option maxRecDepth 100000 in
set_option maxHeartbeats 4000000 in
theorem ct_X7_spellBidder {l : Launch} {D : va_G} {cI cB : ClassId} {Z : (Nat → Nat) × (Nat → Nat)} {ad : Nat → Nat} {S : Mem} {a1 : Int} {S' : Mem} (h : f_X7_spellBidder S a1 = some S') : Ctr l D cI cB Z ad shsC yX7_spellBidder cX7_spellBidder 3 none 5 111 [.ref (ad 0), .int (i32 a1)] S (none) S' := by
  refine ctr_of (by decide +kernel) (Nat.le_of_ble_eq_true rfl) rfl ?_
  intro p e s m args below meth c A X
  unfold f_X7_spellBidder at h
  refine go_aload_n (pc := 0) X 0 dX7_spellBidder_0 rfl rfl ?_
  refine go_getr (pc := 1) X (fk := 8) sh7 rfl inT_X7 (by decide) fL_X7_56 rfl dX7_spellBidder_1 ?_
  refine go_ldcwS (pc := 4) X 6 rfl dX7_spellBidder_4 ?_
  obtain ⟨S1, h2, h⟩ := bind_some h
  refine go_callVv (pc := 7) X 1 [] (ct_X4_letters (by decide) h2) sh4 rfl gg_X7_341 hd_X4_letters ⟨Nat.le_of_ble_eq_true rfl, Nat.le_of_ble_eq_true rfl⟩ rfl rfl (Nat.le_of_ble_eq_true rfl) dX7_spellBidder_7 ?_
  refine go_iconst (pc := 10) X dX7_spellBidder_10 ?_
  refine go_istore_n (pc := 11) X [1, 2, 0] (Ls' := [(0, .ref (ad 0)), (1, .int (i32 a1)), (2, .int (i32 0))]) dX7_spellBidder_11 rfl (by decide) rfl ?_
  obtain ⟨r11, h12, h⟩ := bind_some h
  have H13 : ∀ (n : Nat) (t14 : Int × Mem) (z15 : Mem), lp (f_X7_spellBidder_l12 a1) n t14 = some z15 → Go p l e { frames := 5, cells := 0, slots := 0, locals := 111 } s m args below meth c 3 D cI cB ad shsC A (MQ below (cQ D cI cB ad shsC (none) S' A) args s 0 0 A) 57 [(0, .ref (ad 0)), (1, .int (i32 a1))] [] z15 → Go p l e { frames := 5, cells := 0, slots := 0, locals := 111 } s m args below meth c 3 D cI cB ad shsC A (MQ below (cQ D cI cB ad shsC (none) S' A) args s 0 0 A) 12 [(0, .ref (ad 0)), (1, .int (i32 a1)), (2, .int (i32 t14.1))] [] t14.2 := by
    refine lp_go (fun t14 : Int × Mem => Go p l e { frames := 5, cells := 0, slots := 0, locals := 111 } s m args below meth c 3 D cI cB ad shsC A (MQ below (cQ D cI cB ad shsC (none) S' A) args s 0 0 A) 12 [(0, .ref (ad 0)), (1, .int (i32 a1)), (2, .int (i32 t14.1))] [] t14.2) (fun z15 : Mem => Go p l e { frames := 5, cells := 0, slots := 0, locals := 111 } s m args below meth c 3 D cI cB ad shsC A (MQ below (cQ D cI cB ad shsC (none) S' A) args s 0 0 A) 57 [(0, .ref (ad 0)), (1, .int (i32 a1))] [] z15) ?_
    intro t14 x16 h hx17
    unfold f_X7_spellBidder_l12 at h
    refine go_iload_n (pc := 12) X 2 dX7_spellBidder_12 rfl rfl ?_
    refine go_aload_n (pc := 13) X 0 dX7_spellBidder_13 rfl rfl ?_
    refine go_getr (pc := 14) X (fk := 3) sh7 rfl inT_X7 (by decide) fL_X7_32 rfl dX7_spellBidder_14 ?_
    refine go_getr (pc := 17) X (fk := 3) (shB bk5) rfl inT_X1 (by decide) fL_X7_113 rfl dX7_spellBidder_17 ?_
    refine go_iload_n (pc := 20) X 1 dX7_spellBidder_20 rfl rfl ?_
    obtain ⟨g19, h⟩ := gd_some h
    refine go_iald (pc := 21) X (shB1 bk5) (Nat.le_of_ble_eq_true rfl) rfl g19 dX7_spellBidder_21 ?_
    refine go_icmp_ge (pc := 22) X 57 dX7_spellBidder_22 rfl (fun c20 => ?_) (fun c20 => ?_)
    · rw [if_neg c20] at h
      refine go_pick [0, 1] (Ls' := [(0, .ref (ad 0)), (1, .int (i32 a1))]) rfl ?_
      exact lp_back h hx17
    · rw [if_pos c20] at h
      refine go_aload_n (pc := 25) X 0 dX7_spellBidder_25 rfl rfl ?_
      refine go_getr (pc := 26) X (fk := 8) sh7 rfl inT_X7 (by decide) fL_X7_56 rfl dX7_spellBidder_26 ?_
      refine go_ldcwS (pc := 29) X 7 rfl dX7_spellBidder_29 ?_
      obtain ⟨S21, h22, h⟩ := bind_some h
      refine go_callVv (pc := 32) X 1 [] (ct_X4_letters (by decide) h22) sh4 rfl gg_X7_341 hd_X4_letters ⟨Nat.le_of_ble_eq_true rfl, Nat.le_of_ble_eq_true rfl⟩ rfl rfl (Nat.le_of_ble_eq_true rfl) dX7_spellBidder_32 ?_
      refine go_aload_n (pc := 35) X 0 dX7_spellBidder_35 rfl rfl ?_
      refine go_getr (pc := 36) X (fk := 8) sh7 rfl inT_X7 (by decide) fL_X7_56 rfl dX7_spellBidder_36 ?_
      refine go_aload_n (pc := 39) X 0 dX7_spellBidder_39 rfl rfl ?_
      refine go_getr (pc := 40) X (fk := 3) sh7 rfl inT_X7 (by decide) fL_X7_32 rfl dX7_spellBidder_40 ?_
      refine go_iload_n (pc := 43) X 1 dX7_spellBidder_43 rfl rfl ?_
      refine go_iload_n (pc := 44) X 2 dX7_spellBidder_44 rfl rfl ?_
      obtain ⟨r23, h24, h⟩ := bind_some h
      refine go_callVi (pc := 45) X 2 [.ref (ad 36)] (ct_X1_valueAt bk5 h24) (shB bk5) rfl gg_X7_131 hd_X1_valueAt ⟨Nat.le_of_ble_eq_true rfl, Nat.le_of_ble_eq_true rfl⟩ rfl rfl (Nat.le_of_ble_eq_true rfl) dX7_spellBidder_45 ?_
      obtain ⟨S25, h26, h⟩ := bind_some h
      refine go_callVv (pc := 48) X 1 [] (ct_X4_number h26) sh4 rfl gg_X7_336 hd_X4_number ⟨Nat.le_of_ble_eq_true rfl, Nat.le_of_ble_eq_true rfl⟩ rfl rfl (Nat.le_of_ble_eq_true rfl) dX7_spellBidder_48 ?_
      refine go_iinc (pc := 51) X [1, 2, 0] 2 (Ls' := [(0, .ref (ad 0)), (1, .int (i32 a1)), (2, .int (i32 (t14.1 + 1)))]) dX7_spellBidder_51 rfl (by decide) rfl ?_
      refine go_goto (pc := 54) X 12 dX7_spellBidder_54 rfl ?_
      exact lp_back h hx17
  refine H13 FU (0, S1) r11 h12 ?_
  refine go_aload_n (pc := 57) X 0 dX7_spellBidder_57 rfl rfl ?_
  refine go_getr (pc := 58) X (fk := 3) sh7 rfl inT_X7 (by decide) fL_X7_32 rfl dX7_spellBidder_58 ?_
  refine go_getr (pc := 61) X (fk := 4) (shB bk5) rfl inT_X1 (by decide) fL_X7_128 rfl dX7_spellBidder_61 ?_
  refine go_iload_n (pc := 64) X 1 dX7_spellBidder_64 rfl rfl ?_
  obtain ⟨g27, h⟩ := gd_some h
  refine go_iald (pc := 65) X (shB2 bk5) (Nat.le_of_ble_eq_true rfl) rfl g27 dX7_spellBidder_65 ?_
  refine go_bipush (pc := 66) X dX7_spellBidder_66 (by decide) (by decide) ?_
  obtain ⟨j28, h29, h⟩ := bind_some h
  have k30 : Go p l e { frames := 5, cells := 0, slots := 0, locals := 111 } s m args below meth c 3 D cI cB ad shsC A (MQ below (cQ D cI cB ad shsC (none) S' A) args s 0 0 A) 97 [(0, .ref (ad 0))] [] j28 := by
    refine go_aload_n (pc := 97) X 0 dX7_spellBidder_97 rfl rfl ?_
    refine go_getr (pc := 98) X (fk := 8) sh7 rfl inT_X7 (by decide) fL_X7_56 rfl dX7_spellBidder_98 ?_
    refine go_ldcwS (pc := 101) X 9 rfl dX7_spellBidder_101 ?_
    obtain ⟨S31, h32, h⟩ := bind_some h
    refine go_callVv (pc := 104) X 1 [] (ct_X4_letters (by decide) h32) sh4 rfl gg_X7_341 hd_X4_letters ⟨Nat.le_of_ble_eq_true rfl, Nat.le_of_ble_eq_true rfl⟩ rfl rfl (Nat.le_of_ble_eq_true rfl) dX7_spellBidder_104 ?_
    exact go_vret (pc := 107) X h dX7_spellBidder_107
  refine go_icmp_eq (pc := 68) X 97 dX7_spellBidder_68 rfl (fun c33 => ?_) (fun c33 => ?_)
  · rw [if_pos c33] at h29
    cases h29
    refine go_pick [0] (Ls' := [(0, .ref (ad 0))]) rfl ?_
    exact k30
  · rw [if_neg c33] at h29
    refine go_aload_n (pc := 71) X 0 dX7_spellBidder_71 rfl rfl ?_
    refine go_getr (pc := 72) X (fk := 8) sh7 rfl inT_X7 (by decide) fL_X7_56 rfl dX7_spellBidder_72 ?_
    refine go_ldcwS (pc := 75) X 8 rfl dX7_spellBidder_75 ?_
    obtain ⟨S34, h35, h29⟩ := bind_some h29
    refine go_callVv (pc := 78) X 1 [] (ct_X4_letters (by decide) h35) sh4 rfl gg_X7_341 hd_X4_letters ⟨Nat.le_of_ble_eq_true rfl, Nat.le_of_ble_eq_true rfl⟩ rfl rfl (Nat.le_of_ble_eq_true rfl) dX7_spellBidder_78 ?_
    refine go_aload_n (pc := 81) X 0 dX7_spellBidder_81 rfl rfl ?_
    refine go_getr (pc := 82) X (fk := 8) sh7 rfl inT_X7 (by decide) fL_X7_56 rfl dX7_spellBidder_82 ?_
    refine go_aload_n (pc := 85) X 0 dX7_spellBidder_85 rfl rfl ?_
    refine go_getr (pc := 86) X (fk := 3) sh7 rfl inT_X7 (by decide) fL_X7_32 rfl dX7_spellBidder_86 ?_
    refine go_getr (pc := 89) X (fk := 4) (shB bk5) rfl inT_X1 (by decide) fL_X7_128 rfl dX7_spellBidder_89 ?_
    refine go_iload_n (pc := 92) X 1 dX7_spellBidder_92 rfl rfl ?_
    refine go_iald (pc := 93) X (shB2 bk5) (Nat.le_of_ble_eq_true rfl) rfl g27 dX7_spellBidder_93 ?_
    obtain ⟨S36, h37, h29⟩ := bind_some h29
    refine go_callVv (pc := 94) X 1 [] (ct_X4_number h37) sh4 rfl gg_X7_336 hd_X4_number ⟨Nat.le_of_ble_eq_true rfl, Nat.le_of_ble_eq_true rfl⟩ rfl rfl (Nat.le_of_ble_eq_true rfl) dX7_spellBidder_94 ?_
    cases h29
    refine go_pick [0] (Ls' := [(0, .ref (ad 0))]) rfl ?_
    exact k30
set_option maxRecDepth 100000 in
set_option maxHeartbeats 4000000 in
theorem ct_X7_spell {l : Launch} {D : va_G} {cI cB : ClassId} {Z : (Nat → Nat) × (Nat → Nat)} {ad : Nat → Nat} {S : Mem} {a1 : Int} {r : Int} {S' : Mem} (h : f_X7_spell S a1 = some (r, S')) : Ctr l D cI cB Z ad shsC yX7_spell cX7_spell 3 (some .int) 6 133 [.ref (ad 0), .int (i32 a1)] S (some (.int (i32 r))) S' := by
  refine ctr_of (by decide +kernel) (Nat.le_of_ble_eq_true rfl) rfl ?_
  intro p e s m args below meth c A X
  unfold f_X7_spell at h
  refine go_iload_n (pc := 0) X 1 dX7_spell_0 rfl rfl ?_
  refine go_iconst (pc := 1) X dX7_spell_1 ?_
  refine go_icmp_ge (pc := 2) X 7 dX7_spell_2 rfl (fun c1 => ?_) (fun c1 => ?_)
  · rw [if_neg c1] at h
    refine go_aload_n (pc := 7) X 0 dX7_spell_7 rfl rfl ?_
    refine go_getr (pc := 8) X (fk := 8) sh7 rfl inT_X7 (by decide) fL_X7_56 rfl dX7_spell_8 ?_
    refine go_iload_n (pc := 11) X 1 dX7_spell_11 rfl rfl ?_
    obtain ⟨S2, h3, h⟩ := bind_some h
    refine go_callVv (pc := 12) X 1 [] (ct_X4_seek h3) sh4 rfl gg_X7_317 hd_X4_seek ⟨Nat.le_of_ble_eq_true rfl, Nat.le_of_ble_eq_true rfl⟩ rfl rfl (Nat.le_of_ble_eq_true rfl) dX7_spell_12 ?_
    refine go_aload_n (pc := 15) X 0 dX7_spell_15 rfl rfl ?_
    refine go_getr (pc := 16) X (fk := 8) sh7 rfl inT_X7 (by decide) fL_X7_56 rfl dX7_spell_16 ?_
    refine go_ldcwS (pc := 19) X 4 rfl dX7_spell_19 ?_
    refine go_aload_n (pc := 22) X 0 dX7_spell_22 rfl rfl ?_
    refine go_getr (pc := 23) X (fk := 3) sh7 rfl inT_X7 (by decide) fL_X7_32 rfl dX7_spell_23 ?_
    refine go_get (pc := 26) X (fk := 0) (fi := 0) rfl (shB bk5) rfl inT_X1 (by decide) fL_X7_191 rfl dX7_spell_26 ?_
    obtain ⟨S4, h5, h⟩ := bind_some h
    refine go_callVv (pc := 29) X 2 [] (ct_X4_line (by decide) h5) sh4 rfl gg_X7_322 hd_X4_line ⟨Nat.le_of_ble_eq_true rfl, Nat.le_of_ble_eq_true rfl⟩ rfl rfl (Nat.le_of_ble_eq_true rfl) dX7_spell_29 ?_
    refine go_aload_n (pc := 32) X 0 dX7_spell_32 rfl rfl ?_
    refine go_getr (pc := 33) X (fk := 8) sh7 rfl inT_X7 (by decide) fL_X7_56 rfl dX7_spell_33 ?_
    refine go_ldcwS (pc := 36) X 5 rfl dX7_spell_36 ?_
    refine go_aload_n (pc := 39) X 0 dX7_spell_39 rfl rfl ?_
    refine go_getr (pc := 40) X (fk := 3) sh7 rfl inT_X7 (by decide) fL_X7_32 rfl dX7_spell_40 ?_
    refine go_get (pc := 43) X (fk := 1) (fi := 1) rfl (shB bk5) rfl inT_X1 (by decide) fL_X7_194 rfl dX7_spell_43 ?_
    obtain ⟨S6, h7, h⟩ := bind_some h
    refine go_callVv (pc := 46) X 2 [] (ct_X4_line (by decide) h7) sh4 rfl gg_X7_322 hd_X4_line ⟨Nat.le_of_ble_eq_true rfl, Nat.le_of_ble_eq_true rfl⟩ rfl rfl (Nat.le_of_ble_eq_true rfl) dX7_spell_46 ?_
    refine go_iconst (pc := 49) X dX7_spell_49 ?_
    refine go_istore_n (pc := 50) X [1, 2, 0] (Ls' := [(0, .ref (ad 0)), (1, .int (i32 a1)), (2, .int (i32 0))]) dX7_spell_50 rfl (by decide) rfl ?_
    obtain ⟨r11, h12, h⟩ := bind_some h
    have H13 : ∀ (n : Nat) (t14 : Int × Mem) (z15 : Mem), lp (f_X7_spell_l51) n t14 = some z15 → Go p l e { frames := 6, cells := 0, slots := 0, locals := 133 } s m args below meth c 3 D cI cB ad shsC A (MQ below (cQ D cI cB ad shsC (some (.int (i32 r))) S' A) args s 0 0 A) 73 [(0, .ref (ad 0))] [] z15 → Go p l e { frames := 6, cells := 0, slots := 0, locals := 133 } s m args below meth c 3 D cI cB ad shsC A (MQ below (cQ D cI cB ad shsC (some (.int (i32 r))) S' A) args s 0 0 A) 51 [(0, .ref (ad 0)), (2, .int (i32 t14.1))] [] t14.2 := by
      refine lp_go (fun t14 : Int × Mem => Go p l e { frames := 6, cells := 0, slots := 0, locals := 133 } s m args below meth c 3 D cI cB ad shsC A (MQ below (cQ D cI cB ad shsC (some (.int (i32 r))) S' A) args s 0 0 A) 51 [(0, .ref (ad 0)), (2, .int (i32 t14.1))] [] t14.2) (fun z15 : Mem => Go p l e { frames := 6, cells := 0, slots := 0, locals := 133 } s m args below meth c 3 D cI cB ad shsC A (MQ below (cQ D cI cB ad shsC (some (.int (i32 r))) S' A) args s 0 0 A) 73 [(0, .ref (ad 0))] [] z15) ?_
      intro t14 x16 h hx17
      unfold f_X7_spell_l51 at h
      refine go_iload_n (pc := 51) X 1 dX7_spell_51 rfl rfl ?_
      refine go_aload_n (pc := 52) X 0 dX7_spell_52 rfl rfl ?_
      refine go_getr (pc := 53) X (fk := 3) sh7 rfl inT_X7 (by decide) fL_X7_32 rfl dX7_spell_53 ?_
      refine go_get (pc := 56) X (fk := 2) (fi := 2) rfl (shB bk5) rfl inT_X1 (by decide) fL_X7_94 rfl dX7_spell_56 ?_
      refine go_icmp_ge (pc := 59) X 73 dX7_spell_59 rfl (fun c19 => ?_) (fun c19 => ?_)
      · rw [if_neg c19] at h
        refine go_pick [0] (Ls' := [(0, .ref (ad 0))]) rfl ?_
        exact lp_back h hx17
      · rw [if_pos c19] at h
        refine go_aload_n (pc := 62) X 0 dX7_spell_62 rfl rfl ?_
        refine go_iload_n (pc := 63) X 1 dX7_spell_63 rfl rfl ?_
        obtain ⟨S20, h21, h⟩ := bind_some h
        refine go_callVv (pc := 64) X 1 [] (ct_X7_spellBidder h21) sh7 rfl gg_X7_328 hd_X7_spellBidder ⟨Nat.le_of_ble_eq_true rfl, Nat.le_of_ble_eq_true rfl⟩ rfl rfl (Nat.le_of_ble_eq_true rfl) dX7_spell_64 ?_
        refine go_iinc (pc := 67) X [1, 0] 1 (Ls' := [(0, .ref (ad 0)), (2, .int (i32 (t14.1 + 1)))]) dX7_spell_67 rfl (by decide) rfl ?_
        refine go_goto (pc := 70) X 51 dX7_spell_70 rfl ?_
        exact lp_back h hx17
    refine go_pick [0, 2] (Ls' := [(0, .ref (ad 0)), (2, .int (i32 0))]) rfl ?_
    refine H13 FU (0, S6) r11 h12 ?_
    refine go_aload_n (pc := 73) X 0 dX7_spell_73 rfl rfl ?_
    refine go_getr (pc := 74) X (fk := 8) sh7 rfl inT_X7 (by decide) fL_X7_56 rfl dX7_spell_74 ?_
    obtain ⟨r22, h23, h⟩ := bind_some h
    refine go_callVi (pc := 77) X 0 [] (ct_X4_answer h23) sh4 rfl gg_X7_331 hd_X4_answer ⟨Nat.le_of_ble_eq_true rfl, Nat.le_of_ble_eq_true rfl⟩ rfl rfl (Nat.le_of_ble_eq_true rfl) dX7_spell_77 ?_
    exact go_iret (pc := 80) X h dX7_spell_80
  · rw [if_pos c1] at h
    refine go_iconst (pc := 5) X dX7_spell_5 ?_
    exact go_iret (pc := 6) X h dX7_spell_6
set_option maxRecDepth 100000 in
set_option maxHeartbeats 4000000 in
theorem ct_X7_report {l : Launch} {D : va_G} {cI cB : ClassId} {Z : (Nat → Nat) × (Nat → Nat)} {ad : Nat → Nat} {S : Mem} {a1 : Int} {a2 : Int} {r : Int} {S' : Mem} (h : f_X7_report S a1 a2 = some (r, S')) : Ctr l D cI cB Z ad shsC yX7_report cX7_report 5 (some .int) 6 133 [.ref (ad 0), .int (i32 a1), .int (i32 a2)] S (some (.int (i32 r))) S' := by
  refine ctr_of (by decide +kernel) (Nat.le_of_ble_eq_true rfl) rfl ?_
  intro p e s m args below meth c A X
  unfold f_X7_report at h
  refine go_iload_n (pc := 0) X 1 dX7_report_0 rfl rfl ?_
  obtain ⟨r1, h2, h⟩ := bind_some h
  refine go_callSi (pc := 1) X 1 [] (ct_X7_isKind h2) gg_X7_151 hd_X7_isKind ⟨Nat.le_of_ble_eq_true rfl, Nat.le_of_ble_eq_true rfl⟩ rfl rfl (Nat.le_of_ble_eq_true rfl) dX7_report_1 ?_
  refine go_if_eq (pc := 4) X 12 dX7_report_4 rfl (fun c3 => ?_) (fun c3 => ?_)
  · rw [if_pos c3] at h
    refine go_iconst (pc := 12) X dX7_report_12 ?_
    exact go_iret (pc := 13) X h dX7_report_13
  · rw [if_neg c3] at h
    refine go_iload_n (pc := 7) X 2 dX7_report_7 rfl rfl ?_
    refine go_iconst (pc := 8) X dX7_report_8 ?_
    refine go_icmp_ge (pc := 9) X 14 dX7_report_9 rfl (fun c4 => ?_) (fun c4 => ?_)
    · rw [if_neg c4] at h
      refine go_aload_n (pc := 14) X 0 dX7_report_14 rfl rfl ?_
      obtain ⟨S5, h6, h⟩ := bind_some h
      refine go_callVr (pc := 15) X 0 [] (ct_X7_now h6) sh7 rfl gg_X7_154 hd_X7_now ⟨Nat.le_of_ble_eq_true rfl, Nat.le_of_ble_eq_true rfl⟩ rfl rfl (Nat.le_of_ble_eq_true rfl) dX7_report_15 ?_
      refine go_astore_n (pc := 18) X [1, 2, 3, 0] (Ls' := [(0, .ref (ad 0)), (1, .int (i32 a1)), (2, .int (i32 a2)), (3, .ref (ad 4))]) dX7_report_18 rfl (by decide) rfl ?_
      refine go_aload_n (pc := 19) X 0 dX7_report_19 rfl rfl ?_
      refine go_getr (pc := 20) X (fk := 8) sh7 rfl inT_X7 (by decide) fL_X7_56 rfl dX7_report_20 ?_
      refine go_iload_n (pc := 23) X 2 dX7_report_23 rfl rfl ?_
      obtain ⟨S7, h8, h⟩ := bind_some h
      refine go_callVv (pc := 24) X 1 [] (ct_X4_seek h8) sh4 rfl gg_X7_317 hd_X4_seek ⟨Nat.le_of_ble_eq_true rfl, Nat.le_of_ble_eq_true rfl⟩ rfl rfl (Nat.le_of_ble_eq_true rfl) dX7_report_24 ?_
      refine go_aload_n (pc := 27) X 0 dX7_report_27 rfl rfl ?_
      refine go_getr (pc := 28) X (fk := 8) sh7 rfl inT_X7 (by decide) fL_X7_56 rfl dX7_report_28 ?_
      refine go_ldcwS (pc := 31) X 10 rfl dX7_report_31 ?_
      refine go_aload_n (pc := 34) X 3 dX7_report_34 rfl rfl ?_
      refine go_get (pc := 35) X (fk := 1) (fi := 1) rfl (shA au4) rfl inT_X0 (by decide) fL_X7_158 rfl dX7_report_35 ?_
      obtain ⟨S9, h10, h⟩ := bind_some h
      refine go_callVv (pc := 38) X 2 [] (ct_X4_line (by decide) h10) sh4 rfl gg_X7_322 hd_X4_line ⟨Nat.le_of_ble_eq_true rfl, Nat.le_of_ble_eq_true rfl⟩ rfl rfl (Nat.le_of_ble_eq_true rfl) dX7_report_38 ?_
      refine go_iconst (pc := 41) X dX7_report_41 ?_
      refine go_istore (pc := 42) X [1, 2, 3, 4, 0] (Ls' := [(0, .ref (ad 0)), (1, .int (i32 a1)), (2, .int (i32 a2)), (3, .ref (ad 4)), (4, .int (i32 0))]) dX7_report_42 (by decide) rfl ?_
      obtain ⟨r27, h28, h⟩ := bind_some h
      have H29 : ∀ (n : Nat) (t30 : Int × Mem) (z31 : Mem), lp (f_X7_report_l44 a1) n t30 = some z31 → Go p l e { frames := 6, cells := 0, slots := 0, locals := 133 } s m args below meth c 5 D cI cB ad shsC A (MQ below (cQ D cI cB ad shsC (some (.int (i32 r))) S' A) args s 0 0 A) 122 [(0, .ref (ad 0)), (3, .ref (ad 4))] [] z31 → Go p l e { frames := 6, cells := 0, slots := 0, locals := 133 } s m args below meth c 5 D cI cB ad shsC A (MQ below (cQ D cI cB ad shsC (some (.int (i32 r))) S' A) args s 0 0 A) 44 [(0, .ref (ad 0)), (1, .int (i32 a1)), (3, .ref (ad 4)), (4, .int (i32 t30.1))] [] t30.2 := by
        refine lp_go (fun t30 : Int × Mem => Go p l e { frames := 6, cells := 0, slots := 0, locals := 133 } s m args below meth c 5 D cI cB ad shsC A (MQ below (cQ D cI cB ad shsC (some (.int (i32 r))) S' A) args s 0 0 A) 44 [(0, .ref (ad 0)), (1, .int (i32 a1)), (3, .ref (ad 4)), (4, .int (i32 t30.1))] [] t30.2) (fun z31 : Mem => Go p l e { frames := 6, cells := 0, slots := 0, locals := 133 } s m args below meth c 5 D cI cB ad shsC A (MQ below (cQ D cI cB ad shsC (some (.int (i32 r))) S' A) args s 0 0 A) 122 [(0, .ref (ad 0)), (3, .ref (ad 4))] [] z31) ?_
        intro t30 x32 h hx33
        unfold f_X7_report_l44 at h
        refine go_iload (pc := 44) X 3 dX7_report_44 rfl ?_
        refine go_aload_n (pc := 46) X 0 dX7_report_46 rfl rfl ?_
        refine go_getr (pc := 47) X (fk := 3) sh7 rfl inT_X7 (by decide) fL_X7_32 rfl dX7_report_47 ?_
        refine go_get (pc := 50) X (fk := 2) (fi := 2) rfl (shB bk5) rfl inT_X1 (by decide) fL_X7_94 rfl dX7_report_50 ?_
        refine go_icmp_ge (pc := 53) X 122 dX7_report_53 rfl (fun c35 => ?_) (fun c35 => ?_)
        · rw [if_neg c35] at h
          refine go_pick [0, 2] (Ls' := [(0, .ref (ad 0)), (3, .ref (ad 4))]) rfl ?_
          exact lp_back h hx33
        · rw [if_pos c35] at h
          refine go_aload_n (pc := 56) X 2 dX7_report_56 rfl rfl ?_
          refine go_getr (pc := 57) X (fk := 4) (shA au4) rfl inT_X0 (by decide) fL_X7_172 rfl dX7_report_57 ?_
          refine go_iload (pc := 60) X 3 dX7_report_60 rfl ?_
          obtain ⟨g36, h⟩ := gd_some h
          refine go_iald (pc := 62) X (shA7 au4) (Nat.le_of_ble_eq_true rfl) rfl g36 dX7_report_62 ?_
          obtain ⟨j37, h38, h⟩ := bind_some h
          have k39 : Go p l e { frames := 6, cells := 0, slots := 0, locals := 133 } s m args below meth c 5 D cI cB ad shsC A (MQ below (cQ D cI cB ad shsC (some (.int (i32 r))) S' A) args s 0 0 A) 116 [(0, .ref (ad 0)), (1, .int (i32 a1)), (3, .ref (ad 4)), (4, .int (i32 t30.1))] [] j37 := by
            refine go_iinc (pc := 116) X [1, 2, 3, 0] 3 (Ls' := [(0, .ref (ad 0)), (1, .int (i32 a1)), (3, .ref (ad 4)), (4, .int (i32 (t30.1 + 1)))]) dX7_report_116 rfl (by decide) rfl ?_
            refine go_goto (pc := 119) X 44 dX7_report_119 rfl ?_
            exact lp_back h hx33
          refine go_if_le (pc := 63) X 116 dX7_report_63 rfl (fun c40 => ?_) (fun c40 => ?_)
          · rw [if_neg c40] at h38
            cases h38
            exact k39
          · rw [if_pos c40] at h38
            refine go_aload_n (pc := 66) X 0 dX7_report_66 rfl rfl ?_
            refine go_getr (pc := 67) X (fk := 8) sh7 rfl inT_X7 (by decide) fL_X7_56 rfl dX7_report_67 ?_
            refine go_iload (pc := 70) X 3 dX7_report_70 rfl ?_
            obtain ⟨S41, h42, h38⟩ := bind_some h38
            refine go_callVv (pc := 72) X 1 [] (ct_X4_number h42) sh4 rfl gg_X7_336 hd_X4_number ⟨Nat.le_of_ble_eq_true rfl, Nat.le_of_ble_eq_true rfl⟩ rfl rfl (Nat.le_of_ble_eq_true rfl) dX7_report_72 ?_
            refine go_aload_n (pc := 75) X 0 dX7_report_75 rfl rfl ?_
            refine go_getr (pc := 76) X (fk := 8) sh7 rfl inT_X7 (by decide) fL_X7_56 rfl dX7_report_76 ?_
            refine go_ldcwS (pc := 79) X 11 rfl dX7_report_79 ?_
            obtain ⟨S43, h44, h38⟩ := bind_some h38
            refine go_callVv (pc := 82) X 1 [] (ct_X4_letters (by decide) h44) sh4 rfl gg_X7_341 hd_X4_letters ⟨Nat.le_of_ble_eq_true rfl, Nat.le_of_ble_eq_true rfl⟩ rfl rfl (Nat.le_of_ble_eq_true rfl) dX7_report_82 ?_
            refine go_aload_n (pc := 85) X 0 dX7_report_85 rfl rfl ?_
            refine go_getr (pc := 86) X (fk := 8) sh7 rfl inT_X7 (by decide) fL_X7_56 rfl dX7_report_86 ?_
            refine go_aload_n (pc := 89) X 2 dX7_report_89 rfl rfl ?_
            refine go_getr (pc := 90) X (fk := 4) (shA au4) rfl inT_X0 (by decide) fL_X7_172 rfl dX7_report_90 ?_
            refine go_iload (pc := 93) X 3 dX7_report_93 rfl ?_
            refine go_iald (pc := 95) X (shA7 au4) (Nat.le_of_ble_eq_true rfl) rfl g36 dX7_report_95 ?_
            obtain ⟨S45, h46, h38⟩ := bind_some h38
            refine go_callVv (pc := 96) X 1 [] (ct_X4_number h46) sh4 rfl gg_X7_336 hd_X4_number ⟨Nat.le_of_ble_eq_true rfl, Nat.le_of_ble_eq_true rfl⟩ rfl rfl (Nat.le_of_ble_eq_true rfl) dX7_report_96 ?_
            refine go_aload_n (pc := 99) X 0 dX7_report_99 rfl rfl ?_
            refine go_getr (pc := 100) X (fk := 8) sh7 rfl inT_X7 (by decide) fL_X7_56 rfl dX7_report_100 ?_
            refine go_ldcwS (pc := 103) X 12 rfl dX7_report_103 ?_
            refine go_aload_n (pc := 106) X 2 dX7_report_106 rfl rfl ?_
            refine go_iload (pc := 107) X 3 dX7_report_107 rfl ?_
            refine go_iload_n (pc := 109) X 1 dX7_report_109 rfl rfl ?_
            obtain ⟨u47, h48, h38⟩ := bind_some h38
            refine go_callVi (pc := 110) X 2 [.ref (Z.1 12), .ref (ad 36)] (ct_X0_payment au4 h48) (shA au4) rfl gg_X7_210 hd_X0_payment ⟨Nat.le_of_ble_eq_true rfl, Nat.le_of_ble_eq_true rfl⟩ rfl rfl (Nat.le_of_ble_eq_true rfl) dX7_report_110 ?_
            obtain ⟨S49, h50, h38⟩ := bind_some h38
            refine go_callVv (pc := 113) X 2 [] (ct_X4_line (by decide) h50) sh4 rfl gg_X7_322 hd_X4_line ⟨Nat.le_of_ble_eq_true rfl, Nat.le_of_ble_eq_true rfl⟩ rfl rfl (Nat.le_of_ble_eq_true rfl) dX7_report_113 ?_
            cases h38
            exact k39
      refine go_pick [0, 1, 3, 4] (Ls' := [(0, .ref (ad 0)), (1, .int (i32 a1)), (3, .ref (ad 4)), (4, .int (i32 0))]) rfl ?_
      refine H29 FU (0, S9) r27 h28 ?_
      refine go_aload_n (pc := 122) X 0 dX7_report_122 rfl rfl ?_
      refine go_getr (pc := 123) X (fk := 8) sh7 rfl inT_X7 (by decide) fL_X7_56 rfl dX7_report_123 ?_
      refine go_ldcwS (pc := 126) X 13 rfl dX7_report_126 ?_
      refine go_aload_n (pc := 129) X 1 dX7_report_129 rfl rfl ?_
      obtain ⟨r51, h52, h⟩ := bind_some h
      refine go_callVi (pc := 130) X 0 [.ref (Z.1 13), .ref (ad 36)] (ct_X0_unsold au4 h52) (shA au4) rfl gg_X7_283 hd_X0_unsold ⟨Nat.le_of_ble_eq_true rfl, Nat.le_of_ble_eq_true rfl⟩ rfl rfl (Nat.le_of_ble_eq_true rfl) dX7_report_130 ?_
      obtain ⟨S53, h54, h⟩ := bind_some h
      refine go_callVv (pc := 133) X 2 [] (ct_X4_line (by decide) h54) sh4 rfl gg_X7_322 hd_X4_line ⟨Nat.le_of_ble_eq_true rfl, Nat.le_of_ble_eq_true rfl⟩ rfl rfl (Nat.le_of_ble_eq_true rfl) dX7_report_133 ?_
      refine go_aload_n (pc := 136) X 0 dX7_report_136 rfl rfl ?_
      refine go_getr (pc := 137) X (fk := 8) sh7 rfl inT_X7 (by decide) fL_X7_56 rfl dX7_report_137 ?_
      obtain ⟨r55, h56, h⟩ := bind_some h
      refine go_callVi (pc := 140) X 0 [] (ct_X4_answer h56) sh4 rfl gg_X7_331 hd_X4_answer ⟨Nat.le_of_ble_eq_true rfl, Nat.le_of_ble_eq_true rfl⟩ rfl rfl (Nat.le_of_ble_eq_true rfl) dX7_report_140 ?_
      exact go_iret (pc := 143) X h dX7_report_143
    · rw [if_pos c4] at h
      refine go_iconst (pc := 12) X dX7_report_12 ?_
      exact go_iret (pc := 13) X h dX7_report_13
set_option maxRecDepth 100000 in
set_option maxHeartbeats 4000000 in
theorem ct_X7_count {l : Launch} {D : va_G} {cI cB : ClassId} {Z : (Nat → Nat) × (Nat → Nat)} {ad : Nat → Nat} {S : Mem} {a1 : Int} {r : Int} {S' : Mem} (h : f_X7_count S a1 = some (r, S')) : Ctr l D cI cB Z ad shsC yX7_count cX7_count 2 (some .int) 4 91 [.ref (ad 0), .int (i32 a1)] S (some (.int (i32 r))) S' := by
  refine ctr_of (by decide +kernel) (Nat.le_of_ble_eq_true rfl) rfl ?_
  intro p e s m args below meth c A X
  unfold f_X7_count at h
  refine go_iload_n (pc := 0) X 1 dX7_count_0 rfl rfl ?_
  by_cases c1 : eqb a1 0 = true
  · rw [if_pos c1] at h
    refine go_tab (pc := 1) X 56 dX7_count_1 c1 ⟨by decide, by decide⟩ ⟨by decide, by decide⟩ rfl rfl ?_
    refine go_aload_n (pc := 56) X 0 dX7_count_56 rfl rfl ?_
    refine go_getr (pc := 57) X (fk := 3) sh7 rfl inT_X7 (by decide) fL_X7_32 rfl dX7_count_57 ?_
    refine go_get (pc := 60) X (fk := 2) (fi := 2) rfl (shB bk5) rfl inT_X1 (by decide) fL_X7_94 rfl dX7_count_60 ?_
    exact go_iret (pc := 63) X h dX7_count_63
  · rw [if_neg c1] at h
    by_cases c2 : eqb a1 1 = true
    · rw [if_pos c2] at h
      refine go_tab (pc := 1) X 64 dX7_count_1 c2 ⟨by decide, by decide⟩ ⟨by decide, by decide⟩ rfl rfl ?_
      refine go_aload_n (pc := 64) X 0 dX7_count_64 rfl rfl ?_
      refine go_getr (pc := 65) X (fk := 3) sh7 rfl inT_X7 (by decide) fL_X7_32 rfl dX7_count_65 ?_
      refine go_get (pc := 68) X (fk := 0) (fi := 0) rfl (shB bk5) rfl inT_X1 (by decide) fL_X7_191 rfl dX7_count_68 ?_
      exact go_iret (pc := 71) X h dX7_count_71
    · rw [if_neg c2] at h
      by_cases c3 : eqb a1 2 = true
      · rw [if_pos c3] at h
        refine go_tab (pc := 1) X 72 dX7_count_1 c3 ⟨by decide, by decide⟩ ⟨by decide, by decide⟩ rfl rfl ?_
        refine go_aload_n (pc := 72) X 0 dX7_count_72 rfl rfl ?_
        refine go_getr (pc := 73) X (fk := 3) sh7 rfl inT_X7 (by decide) fL_X7_32 rfl dX7_count_73 ?_
        refine go_get (pc := 76) X (fk := 1) (fi := 1) rfl (shB bk5) rfl inT_X1 (by decide) fL_X7_194 rfl dX7_count_76 ?_
        exact go_iret (pc := 79) X h dX7_count_79
      · rw [if_neg c3] at h
        by_cases c4 : eqb a1 3 = true
        · rw [if_pos c4] at h
          refine go_tab (pc := 1) X 80 dX7_count_1 c4 ⟨by decide, by decide⟩ ⟨by decide, by decide⟩ rfl rfl ?_
          refine go_aload_n (pc := 80) X 0 dX7_count_80 rfl rfl ?_
          refine go_getr (pc := 81) X (fk := 3) sh7 rfl inT_X7 (by decide) fL_X7_32 rfl dX7_count_81 ?_
          obtain ⟨r5, h6, h⟩ := bind_some h
          refine go_callVi (pc := 84) X 0 [] (ct_X1_valuesOfAll bk5 h6) (shB bk5) rfl gg_X7_257 hd_X1_valuesOfAll ⟨Nat.le_of_ble_eq_true rfl, Nat.le_of_ble_eq_true rfl⟩ rfl rfl (Nat.le_of_ble_eq_true rfl) dX7_count_84 ?_
          exact go_iret (pc := 87) X h dX7_count_87
        · rw [if_neg c4] at h
          by_cases c7 : eqb a1 4 = true
          · rw [if_pos c7] at h
            refine go_tab (pc := 1) X 88 dX7_count_1 c7 ⟨by decide, by decide⟩ ⟨by decide, by decide⟩ rfl rfl ?_
            refine go_aload_n (pc := 88) X 0 dX7_count_88 rfl rfl ?_
            refine go_getr (pc := 89) X (fk := 5) sh7 rfl inT_X7 (by decide) fL_X7_43 rfl dX7_count_89 ?_
            refine go_get (pc := 92) X (fk := 0) (fi := 0) rfl sh2 rfl inT_X2 (by decide) fL_X7_91 rfl dX7_count_92 ?_
            exact go_iret (pc := 95) X h dX7_count_95
          · rw [if_neg c7] at h
            by_cases c8 : eqb a1 5 = true
            · rw [if_pos c8] at h
              refine go_tab (pc := 1) X 96 dX7_count_1 c8 ⟨by decide, by decide⟩ ⟨by decide, by decide⟩ rfl rfl ?_
              refine go_aload_n (pc := 96) X 0 dX7_count_96 rfl rfl ?_
              refine go_getr (pc := 97) X (fk := 1) sh7 rfl inT_X7 (by decide) fL_X7_20 rfl dX7_count_97 ?_
              refine go_get (pc := 100) X (fk := 0) (fi := 0) rfl sh5 rfl inT_X5 (by decide) fL_X7_74 rfl dX7_count_100 ?_
              exact go_iret (pc := 103) X h dX7_count_103
            · rw [if_neg c8] at h
              by_cases c9 : eqb a1 6 = true
              · rw [if_pos c9] at h
                refine go_tab (pc := 1) X 104 dX7_count_1 c9 ⟨by decide, by decide⟩ ⟨by decide, by decide⟩ rfl rfl ?_
                refine go_aload_n (pc := 104) X 0 dX7_count_104 rfl rfl ?_
                refine go_getr (pc := 105) X (fk := 3) sh7 rfl inT_X7 (by decide) fL_X7_32 rfl dX7_count_105 ?_
                obtain ⟨r10, h11, h⟩ := bind_some h
                refine go_callVi (pc := 108) X 0 [] (ct_X1_valuesOfAll bk5 h11) (shB bk5) rfl gg_X7_257 hd_X1_valuesOfAll ⟨Nat.le_of_ble_eq_true rfl, Nat.le_of_ble_eq_true rfl⟩ rfl rfl (Nat.le_of_ble_eq_true rfl) dX7_count_108 ?_
                refine go_if_ne (pc := 111) X 119 dX7_count_111 rfl (fun c12 => ?_) (fun c12 => ?_)
                · rw [if_neg c12] at h
                  refine go_aload_n (pc := 119) X 0 dX7_count_119 rfl rfl ?_
                  refine go_getr (pc := 120) X (fk := 3) sh7 rfl inT_X7 (by decide) fL_X7_32 rfl dX7_count_120 ?_
                  refine go_iconst (pc := 123) X dX7_count_123 ?_
                  obtain ⟨u13, h14, h⟩ := bind_some h
                  refine go_callVi (pc := 124) X 1 [] (ct_X1_rankedValue bk5 h14) (shB bk5) rfl gg_X7_263 hd_X1_rankedValue ⟨Nat.le_of_ble_eq_true rfl, Nat.le_of_ble_eq_true rfl⟩ rfl rfl (Nat.le_of_ble_eq_true rfl) dX7_count_124 ?_
                  exact go_iret (pc := 127) X h dX7_count_127
                · rw [if_pos c12] at h
                  refine go_bipush (pc := 114) X dX7_count_114 (by decide) (by decide) ?_
                  refine go_goto (pc := 116) X 127 dX7_count_116 rfl ?_
                  exact go_iret (pc := 127) X h dX7_count_127
              · rw [if_neg c9] at h
                by_cases c15 : eqb a1 7 = true
                · rw [if_pos c15] at h
                  refine go_tab (pc := 1) X 128 dX7_count_1 c15 ⟨by decide, by decide⟩ ⟨by decide, by decide⟩ rfl rfl ?_
                  refine go_aload_n (pc := 128) X 0 dX7_count_128 rfl rfl ?_
                  refine go_getr (pc := 129) X (fk := 4) sh7 rfl inT_X7 (by decide) fL_X7_36 rfl dX7_count_129 ?_
                  refine go_get (pc := 132) X (fk := 0) (fi := 0) rfl sh3 rfl inT_X3 (by decide) fL_X7_88 rfl dX7_count_132 ?_
                  exact go_iret (pc := 135) X h dX7_count_135
                · rw [if_neg c15] at h
                  by_cases c16 : eqb a1 8 = true
                  · rw [if_pos c16] at h
                    refine go_tab (pc := 1) X 136 dX7_count_1 c16 ⟨by decide, by decide⟩ ⟨by decide, by decide⟩ rfl rfl ?_
                    refine go_aload_n (pc := 136) X 0 dX7_count_136 rfl rfl ?_
                    refine go_getr (pc := 137) X (fk := 3) sh7 rfl inT_X7 (by decide) fL_X7_32 rfl dX7_count_137 ?_
                    obtain ⟨r17, h18, h⟩ := bind_some h
                    refine go_callVi (pc := 140) X 0 [] (ct_X1_biddersWithoutValues bk5 h18) (shB bk5) rfl gg_X7_349 hd_X1_biddersWithoutValues ⟨Nat.le_of_ble_eq_true rfl, Nat.le_of_ble_eq_true rfl⟩ rfl rfl (Nat.le_of_ble_eq_true rfl) dX7_count_140 ?_
                    exact go_iret (pc := 143) X h dX7_count_143
                  · rw [if_neg c16] at h
                    by_cases c19 : eqb a1 9 = true
                    · rw [if_pos c19] at h
                      refine go_tab (pc := 1) X 144 dX7_count_1 c19 ⟨by decide, by decide⟩ ⟨by decide, by decide⟩ rfl rfl ?_
                      refine go_aload_n (pc := 144) X 0 dX7_count_144 rfl rfl ?_
                      refine go_getr (pc := 145) X (fk := 3) sh7 rfl inT_X7 (by decide) fL_X7_32 rfl dX7_count_145 ?_
                      obtain ⟨r20, h21, h⟩ := bind_some h
                      refine go_callVi (pc := 148) X 0 [] (ct_X1_usableByAll bk5 h21) (shB bk5) rfl gg_X7_352 hd_X1_usableByAll ⟨Nat.le_of_ble_eq_true rfl, Nat.le_of_ble_eq_true rfl⟩ rfl rfl (Nat.le_of_ble_eq_true rfl) dX7_count_148 ?_
                      exact go_iret (pc := 151) X h dX7_count_151
                    · rw [if_neg c19] at h
                      have nc1 : ¬ (0 : Int) = (i32 a1).toInt := fun z => c1 ((eqb_toInt (by decide) (by decide)).mpr z.symm)
                      have nc2 : ¬ (1 : Int) = (i32 a1).toInt := fun z => c2 ((eqb_toInt (by decide) (by decide)).mpr z.symm)
                      have nc3 : ¬ (2 : Int) = (i32 a1).toInt := fun z => c3 ((eqb_toInt (by decide) (by decide)).mpr z.symm)
                      have nc4 : ¬ (3 : Int) = (i32 a1).toInt := fun z => c4 ((eqb_toInt (by decide) (by decide)).mpr z.symm)
                      have nc7 : ¬ (4 : Int) = (i32 a1).toInt := fun z => c7 ((eqb_toInt (by decide) (by decide)).mpr z.symm)
                      have nc8 : ¬ (5 : Int) = (i32 a1).toInt := fun z => c8 ((eqb_toInt (by decide) (by decide)).mpr z.symm)
                      have nc9 : ¬ (6 : Int) = (i32 a1).toInt := fun z => c9 ((eqb_toInt (by decide) (by decide)).mpr z.symm)
                      have nc15 : ¬ (7 : Int) = (i32 a1).toInt := fun z => c15 ((eqb_toInt (by decide) (by decide)).mpr z.symm)
                      have nc16 : ¬ (8 : Int) = (i32 a1).toInt := fun z => c16 ((eqb_toInt (by decide) (by decide)).mpr z.symm)
                      have nc19 : ¬ (9 : Int) = (i32 a1).toInt := fun z => c19 ((eqb_toInt (by decide) (by decide)).mpr z.symm)
                      refine go_tabx (pc := 1) X 152 dX7_count_1 (by omega) rfl ?_
                      refine go_iconst (pc := 152) X dX7_count_152 ?_
                      exact go_iret (pc := 153) X h dX7_count_153
