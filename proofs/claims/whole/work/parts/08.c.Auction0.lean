set_option maxRecDepth 100000 in
set_option maxHeartbeats 4000000 in
theorem ct_X0_wantNow {l : Launch} {D : va_G} {cI cB : ClassId} {Z : (Nat → Nat) × (Nat → Nat)} {ad : Nat → Nat} {S : Mem} {th : Nat} {a1 : Int} {r : Int} (ho : isAu th) (h : f_X0_wantNow S th a1 = some r) : Ctr l D cI cB Z ad shsC yX0_wantNow cX0_wantNow 2 (some .int) 1 21 [.ref (ad th), .int (i32 a1)] S (some (.int (i32 r))) S := by
  refine ctr_of (by decide +kernel) (Nat.le_of_ble_eq_true rfl) rfl ?_
  intro p e s m args below meth c A X
  unfold f_X0_wantNow at h
  refine go_aload_n (pc := 0) X 0 dX0_wantNow_0 rfl rfl ?_
  refine go_getr (pc := 1) X (fk := 9) (shA ho) rfl inT_X0 (by decide) fL_X0_44 rfl dX0_wantNow_1 ?_
  refine go_iload_n (pc := 4) X 1 dX0_wantNow_4 rfl rfl ?_
  obtain ⟨g1, h⟩ := gd_some h
  refine go_iald (pc := 5) X (shA12 ho) (Nat.le_of_ble_eq_true rfl) rfl g1 dX0_wantNow_5 ?_
  refine go_aload_n (pc := 6) X 0 dX0_wantNow_6 rfl rfl ?_
  refine go_getr (pc := 7) X (fk := 0) (shA ho) rfl inT_X0 (by decide) fL_X0_12 rfl dX0_wantNow_7 ?_
  refine go_getr (pc := 10) X (fk := 4) (shB (auBk ho)) rfl inT_X1 (by decide) fL_X0_87 rfl dX0_wantNow_10 ?_
  refine go_iload_n (pc := 13) X 1 dX0_wantNow_13 rfl rfl ?_
  refine go_iald (pc := 14) X (shB2 (auBk ho)) (Nat.le_of_ble_eq_true rfl) rfl g1 dX0_wantNow_14 ?_
  refine go_mmin (pc := 15) X mL_X0_90 (Nat.le_of_ble_eq_true rfl) (Nat.le_of_ble_eq_true rfl) dX0_wantNow_15 ?_
  exact go_iretP (pc := 18) X h dX0_wantNow_18
set_option maxRecDepth 100000 in
set_option maxHeartbeats 4000000 in
theorem ct_X0_wantsNow {l : Launch} {D : va_G} {cI cB : ClassId} {Z : (Nat → Nat) × (Nat → Nat)} {ad : Nat → Nat} {S : Mem} {th : Nat} {a1 : Int} {r : Int} {S' : Mem} (ho : isAu th) (h : f_X0_wantsNow S th a1 = some (r, S')) : Ctr l D cI cB Z ad shsC yX0_wantsNow cX0_wantsNow 4 (some .int) 2 42 [.ref (ad th), .int (i32 a1)] S (some (.int (i32 r))) S' := by
  refine ctr_of (by decide +kernel) (Nat.le_of_ble_eq_true rfl) rfl ?_
  intro p e s m args below meth c A X
  unfold f_X0_wantsNow at h
  refine go_iconst (pc := 0) X dX0_wantsNow_0 ?_
  refine go_istore_n (pc := 1) X [1, 2, 0] (Ls' := [(0, .ref (ad th)), (1, .int (i32 a1)), (2, .int (i32 0))]) dX0_wantsNow_1 rfl (by decide) rfl ?_
  refine go_iconst (pc := 2) X dX0_wantsNow_2 ?_
  refine go_istore_n (pc := 3) X [1, 2, 3, 0] (Ls' := [(0, .ref (ad th)), (1, .int (i32 a1)), (2, .int (i32 0)), (3, .int (i32 0))]) dX0_wantsNow_3 rfl (by decide) rfl ?_
  obtain ⟨r26, h27, h⟩ := bind_some h
  have H28 : ∀ (n : Nat) (t29 : Int × Int × Mem) (z30 : Int × Mem), lp (f_X0_wantsNow_l4 th a1) n t29 = some z30 → Go p l e { frames := 2, cells := 0, slots := 0, locals := 42 } s m args below meth c 4 D cI cB ad shsC A (MQ below (cQ D cI cB ad shsC (some (.int (i32 r))) S' A) args s 0 0 A) 71 [(2, .int (i32 z30.1))] [] z30.2 → Go p l e { frames := 2, cells := 0, slots := 0, locals := 42 } s m args below meth c 4 D cI cB ad shsC A (MQ below (cQ D cI cB ad shsC (some (.int (i32 r))) S' A) args s 0 0 A) 4 [(0, .ref (ad th)), (1, .int (i32 a1)), (2, .int (i32 t29.1)), (3, .int (i32 t29.2.1))] [] t29.2.2 := by
    refine lp_go (fun t29 : Int × Int × Mem => Go p l e { frames := 2, cells := 0, slots := 0, locals := 42 } s m args below meth c 4 D cI cB ad shsC A (MQ below (cQ D cI cB ad shsC (some (.int (i32 r))) S' A) args s 0 0 A) 4 [(0, .ref (ad th)), (1, .int (i32 a1)), (2, .int (i32 t29.1)), (3, .int (i32 t29.2.1))] [] t29.2.2) (fun z30 : Int × Mem => Go p l e { frames := 2, cells := 0, slots := 0, locals := 42 } s m args below meth c 4 D cI cB ad shsC A (MQ below (cQ D cI cB ad shsC (some (.int (i32 r))) S' A) args s 0 0 A) 71 [(2, .int (i32 z30.1))] [] z30.2) ?_
    intro t29 x31 h hx32
    unfold f_X0_wantsNow_l4 at h
    refine go_iload_n (pc := 4) X 3 dX0_wantsNow_4 rfl rfl ?_
    refine go_aload_n (pc := 5) X 0 dX0_wantsNow_5 rfl rfl ?_
    refine go_getr (pc := 6) X (fk := 0) (shA ho) rfl inT_X0 (by decide) fL_X0_12 rfl dX0_wantsNow_6 ?_
    refine go_get (pc := 9) X (fk := 2) (fi := 2) rfl (shB (auBk ho)) rfl inT_X1 (by decide) fL_X0_50 rfl dX0_wantsNow_9 ?_
    refine go_icmp_ge (pc := 12) X 71 dX0_wantsNow_12 rfl (fun c34 => ?_) (fun c34 => ?_)
    · rw [if_neg c34] at h
      refine go_pick [2] (Ls' := [(2, .int (i32 t29.1))]) rfl ?_
      exact lp_back h hx32
    · rw [if_pos c34] at h
      obtain ⟨r35, h36, h⟩ := bind_some h
      have H37 : ∀ (n : Nat) (t38 : Mem) (z39 : Mem), lp (f_X0_wantsNow_l15 th a1 t29.1 t29.2.1) n t38 = some z39 → Go p l e { frames := 2, cells := 0, slots := 0, locals := 42 } s m args below meth c 4 D cI cB ad shsC A (MQ below (cQ D cI cB ad shsC (some (.int (i32 r))) S' A) args s 0 0 A) 57 [(0, .ref (ad th)), (1, .int (i32 a1)), (2, .int (i32 t29.1)), (3, .int (i32 t29.2.1))] [] z39 → Go p l e { frames := 2, cells := 0, slots := 0, locals := 42 } s m args below meth c 4 D cI cB ad shsC A (MQ below (cQ D cI cB ad shsC (some (.int (i32 r))) S' A) args s 0 0 A) 15 [(0, .ref (ad th)), (1, .int (i32 a1)), (2, .int (i32 t29.1)), (3, .int (i32 t29.2.1))] [] t38 := by
        refine lp_go (fun t38 : Mem => Go p l e { frames := 2, cells := 0, slots := 0, locals := 42 } s m args below meth c 4 D cI cB ad shsC A (MQ below (cQ D cI cB ad shsC (some (.int (i32 r))) S' A) args s 0 0 A) 15 [(0, .ref (ad th)), (1, .int (i32 a1)), (2, .int (i32 t29.1)), (3, .int (i32 t29.2.1))] [] t38) (fun z39 : Mem => Go p l e { frames := 2, cells := 0, slots := 0, locals := 42 } s m args below meth c 4 D cI cB ad shsC A (MQ below (cQ D cI cB ad shsC (some (.int (i32 r))) S' A) args s 0 0 A) 57 [(0, .ref (ad th)), (1, .int (i32 a1)), (2, .int (i32 t29.1)), (3, .int (i32 t29.2.1))] [] z39) ?_
        intro t38 x40 h hx41
        unfold f_X0_wantsNow_l15 at h
        refine go_aload_n (pc := 15) X 0 dX0_wantsNow_15 rfl rfl ?_
        refine go_getr (pc := 16) X (fk := 9) (shA ho) rfl inT_X0 (by decide) fL_X0_44 rfl dX0_wantsNow_16 ?_
        refine go_iload_n (pc := 19) X 3 dX0_wantsNow_19 rfl rfl ?_
        obtain ⟨g43, h⟩ := gd_some h
        refine go_iald (pc := 20) X (shA12 ho) (Nat.le_of_ble_eq_true rfl) rfl g43 dX0_wantsNow_20 ?_
        refine go_if_le (pc := 21) X 57 dX0_wantsNow_21 rfl (fun c44 => ?_) (fun c44 => ?_)
        · rw [if_neg c44] at h
          exact lp_back h hx41
        · rw [if_pos c44] at h
          refine go_aload_n (pc := 24) X 0 dX0_wantsNow_24 rfl rfl ?_
          refine go_getr (pc := 25) X (fk := 0) (shA ho) rfl inT_X0 (by decide) fL_X0_12 rfl dX0_wantsNow_25 ?_
          refine go_iload_n (pc := 28) X 3 dX0_wantsNow_28 rfl rfl ?_
          refine go_aload_n (pc := 29) X 0 dX0_wantsNow_29 rfl rfl ?_
          refine go_getr (pc := 30) X (fk := 9) (shA ho) rfl inT_X0 (by decide) fL_X0_44 rfl dX0_wantsNow_30 ?_
          refine go_iload_n (pc := 33) X 3 dX0_wantsNow_33 rfl rfl ?_
          refine go_iald (pc := 34) X (shA12 ho) (Nat.le_of_ble_eq_true rfl) rfl g43 dX0_wantsNow_34 ?_
          refine go_iconst (pc := 35) X dX0_wantsNow_35 ?_
          refine go_isub (pc := 36) X dX0_wantsNow_36 ?_
          obtain ⟨r45, h46, h⟩ := bind_some h
          refine go_callVi (pc := 37) X 2 [] (ct_X1_valueAt (auBk ho) h46) (shB (auBk ho)) rfl gg_X0_80 hd_X1_valueAt ⟨Nat.le_of_ble_eq_true rfl, Nat.le_of_ble_eq_true rfl⟩ rfl rfl (Nat.le_of_ble_eq_true rfl) dX0_wantsNow_37 ?_
          refine go_iload_n (pc := 40) X 1 dX0_wantsNow_40 rfl rfl ?_
          refine go_icmp_gt (pc := 41) X 57 dX0_wantsNow_41 rfl (fun c47 => ?_) (fun c47 => ?_)
          · rw [if_pos c47] at h
            exact lp_back h hx41
          · rw [if_neg c47] at h
            refine go_aload_n (pc := 44) X 0 dX0_wantsNow_44 rfl rfl ?_
            refine go_getr (pc := 45) X (fk := 9) (shA ho) rfl inT_X0 (by decide) fL_X0_44 rfl dX0_wantsNow_45 ?_
            refine go_iload_n (pc := 48) X 3 dX0_wantsNow_48 rfl rfl ?_
            refine go_dup2 (pc := 49) X dX0_wantsNow_49 rfl rfl ?_
            refine go_iald (pc := 50) X (shA12 ho) (Nat.le_of_ble_eq_true rfl) rfl g43 dX0_wantsNow_50 ?_
            refine go_iconst (pc := 51) X dX0_wantsNow_51 ?_
            refine go_isub (pc := 52) X dX0_wantsNow_52 ?_
            obtain ⟨S48, e49, h⟩ := wrk_some h
            refine go_iastE (pc := 53) X e49 (shA12 ho) (Nat.le_of_ble_eq_true rfl) rfl g43 dX0_wantsNow_53 ?_
            refine go_goto (pc := 54) X 15 dX0_wantsNow_54 rfl ?_
            exact lp_back h hx41
      refine H37 FU t29.2.2 r35 h36 ?_
      refine go_iload_n (pc := 57) X 2 dX0_wantsNow_57 rfl rfl ?_
      refine go_aload_n (pc := 58) X 0 dX0_wantsNow_58 rfl rfl ?_
      refine go_iload_n (pc := 59) X 3 dX0_wantsNow_59 rfl rfl ?_
      obtain ⟨r50, h51, h⟩ := bind_some h
      refine go_callVi (pc := 60) X 1 [.int (i32 t29.1)] (ct_X0_wantNow ho h51) (shA ho) rfl gg_X0_84 hd_X0_wantNow ⟨Nat.le_of_ble_eq_true rfl, Nat.le_of_ble_eq_true rfl⟩ rfl rfl (Nat.le_of_ble_eq_true rfl) dX0_wantsNow_60 ?_
      refine go_iadd (pc := 63) X dX0_wantsNow_63 ?_
      refine go_istore_n (pc := 64) X [1, 2, 0, 3] (Ls' := [(0, .ref (ad th)), (1, .int (i32 a1)), (2, .int (i32 (t29.1 + r50))), (3, .int (i32 t29.2.1))]) dX0_wantsNow_64 rfl (by decide) rfl ?_
      refine go_iinc (pc := 65) X [1, 2, 3, 0] 3 (Ls' := [(0, .ref (ad th)), (1, .int (i32 a1)), (2, .int (i32 (t29.1 + r50))), (3, .int (i32 (t29.2.1 + 1)))]) dX0_wantsNow_65 rfl (by decide) rfl ?_
      refine go_goto (pc := 68) X 4 dX0_wantsNow_68 rfl ?_
      exact lp_back h hx32
  refine H28 FU (0, 0, S) r26 h27 ?_
  refine go_iload_n (pc := 71) X 0 dX0_wantsNow_71 rfl rfl ?_
  exact go_iret (pc := 72) X h dX0_wantsNow_72
set_option maxRecDepth 100000 in
set_option maxHeartbeats 4000000 in
theorem ct_X0_give {l : Launch} {D : va_G} {cI cB : ClassId} {Z : (Nat → Nat) × (Nat → Nat)} {ad : Nat → Nat} {S : Mem} {th : Nat} {a1 : Int} {a2 : Int} {S' : Mem} (ho : isAu th) (h : f_X0_give S th a1 a2 = some S') : Ctr l D cI cB Z ad shsC yX0_give cX0_give 3 none 0 0 [.ref (ad th), .int (i32 a1), .int (i32 a2)] S (none) S' := by
  refine ctr_of (by decide +kernel) (Nat.le_of_ble_eq_true rfl) rfl ?_
  intro p e s m args below meth c A X
  unfold f_X0_give at h
  refine go_aload_n (pc := 0) X 0 dX0_give_0 rfl rfl ?_
  refine go_get (pc := 1) X (fk := 2) (fi := 2) rfl (shA ho) rfl inT_X0 (by decide) fL_X0_22 rfl dX0_give_1 ?_
  refine go_bipush (pc := 4) X dX0_give_4 (by decide) (by decide) ?_
  refine go_icmp_ge (pc := 6) X 20 dX0_give_6 rfl (fun c1 => ?_) (fun c1 => ?_)
  · rw [if_neg c1] at h
    exact go_vret (pc := 20) X h dX0_give_20
  · rw [if_pos c1] at h
    refine go_aload_n (pc := 9) X 0 dX0_give_9 rfl rfl ?_
    refine go_getr (pc := 10) X (fk := 4) (shA ho) rfl inT_X0 (by decide) fL_X0_28 rfl dX0_give_10 ?_
    refine go_iload_n (pc := 13) X 1 dX0_give_13 rfl rfl ?_
    obtain ⟨g2, h⟩ := gd_some h
    refine go_iald (pc := 14) X (shA7 ho) (Nat.le_of_ble_eq_true rfl) rfl g2 dX0_give_14 ?_
    refine go_bipush (pc := 15) X dX0_give_15 (by decide) (by decide) ?_
    refine go_icmp_lt (pc := 17) X 21 dX0_give_17 rfl (fun c3 => ?_) (fun c3 => ?_)
    · rw [if_pos c3] at h
      refine go_aload_n (pc := 21) X 0 dX0_give_21 rfl rfl ?_
      refine go_getr (pc := 22) X (fk := 6) (shA ho) rfl inT_X0 (by decide) fL_X0_35 rfl dX0_give_22 ?_
      refine go_iload_n (pc := 25) X 1 dX0_give_25 rfl rfl ?_
      refine go_bipush (pc := 26) X dX0_give_26 (by decide) (by decide) ?_
      refine go_imul (pc := 28) X dX0_give_28 ?_
      refine go_aload_n (pc := 29) X 0 dX0_give_29 rfl rfl ?_
      refine go_getr (pc := 30) X (fk := 4) (shA ho) rfl inT_X0 (by decide) fL_X0_28 rfl dX0_give_30 ?_
      refine go_iload_n (pc := 33) X 1 dX0_give_33 rfl rfl ?_
      refine go_iald (pc := 34) X (shA7 ho) (Nat.le_of_ble_eq_true rfl) rfl g2 dX0_give_34 ?_
      refine go_iadd (pc := 35) X dX0_give_35 ?_
      refine go_iload_n (pc := 36) X 2 dX0_give_36 rfl rfl ?_
      obtain ⟨g4, h⟩ := gd_some h
      obtain ⟨S5, e6, h⟩ := wrk_some h
      refine go_iastE (pc := 37) X e6 (shA9 ho) (Nat.le_of_ble_eq_true rfl) rfl g4 dX0_give_37 ?_
      refine go_aload_n (pc := 38) X 0 dX0_give_38 rfl rfl ?_
      refine go_getr (pc := 39) X (fk := 4) (shA ho) rfl inT_X0 (by decide) fL_X0_28 rfl dX0_give_39 ?_
      refine go_iload_n (pc := 42) X 1 dX0_give_42 rfl rfl ?_
      refine go_dup2 (pc := 43) X dX0_give_43 rfl rfl ?_
      refine go_iald (pc := 44) X (shA7 ho) (Nat.le_of_ble_eq_true rfl) rfl g2 dX0_give_44 ?_
      refine go_iconst (pc := 45) X dX0_give_45 ?_
      refine go_iadd (pc := 46) X dX0_give_46 ?_
      obtain ⟨S7, e8, h⟩ := wrk_some h
      refine go_iastE (pc := 47) X e8 (shA7 ho) (Nat.le_of_ble_eq_true rfl) rfl g2 dX0_give_47 ?_
      refine go_aload_n (pc := 48) X 0 dX0_give_48 rfl rfl ?_
      refine go_getr (pc := 49) X (fk := 7) (shA ho) rfl inT_X0 (by decide) fL_X0_38 rfl dX0_give_49 ?_
      refine go_aload_n (pc := 52) X 0 dX0_give_52 rfl rfl ?_
      refine go_get (pc := 53) X (fk := 2) (fi := 2) rfl (shA ho) rfl inT_X0 (by decide) fL_X0_22 rfl dX0_give_53 ?_
      refine go_iload_n (pc := 56) X 1 dX0_give_56 rfl rfl ?_
      obtain ⟨g9, h⟩ := gd_some h
      obtain ⟨S10, e11, h⟩ := wrk_some h
      refine go_iastE (pc := 57) X e11 (shA10 ho) (Nat.le_of_ble_eq_true rfl) rfl g9 dX0_give_57 ?_
      refine go_aload_n (pc := 58) X 0 dX0_give_58 rfl rfl ?_
      refine go_getr (pc := 59) X (fk := 8) (shA ho) rfl inT_X0 (by decide) fL_X0_41 rfl dX0_give_59 ?_
      refine go_aload_n (pc := 62) X 0 dX0_give_62 rfl rfl ?_
      refine go_get (pc := 63) X (fk := 2) (fi := 2) rfl (shA ho) rfl inT_X0 (by decide) fL_X0_22 rfl dX0_give_63 ?_
      refine go_iload_n (pc := 66) X 2 dX0_give_66 rfl rfl ?_
      obtain ⟨g12, h⟩ := gd_some h
      obtain ⟨S13, e14, h⟩ := wrk_some h
      refine go_iastE (pc := 67) X e14 (shA11 ho) (Nat.le_of_ble_eq_true rfl) rfl g12 dX0_give_67 ?_
      refine go_aload_n (pc := 68) X 0 dX0_give_68 rfl rfl ?_
      refine go_dup (pc := 69) X dX0_give_69 rfl ?_
      refine go_get (pc := 70) X (fk := 2) (fi := 2) rfl (shA ho) rfl inT_X0 (by decide) fL_X0_22 rfl dX0_give_70 ?_
      refine go_iconst (pc := 73) X dX0_give_73 ?_
      refine go_iadd (pc := 74) X dX0_give_74 ?_
      obtain ⟨S15, e16, h⟩ := wrk_some h
      refine go_putE (pc := 75) X (fk := 2) (fi := 2) rfl e16 (shA ho) rfl inT_X0 tyX0_ok nmX0 (by decide) fL_X0_22 rfl rfl rfl rfl rfl dX0_give_75 ?_
      exact go_vret (pc := 78) X h dX0_give_78
    · rw [if_neg c3] at h
      exact go_vret (pc := 20) X h dX0_give_20
set_option maxRecDepth 100000 in
set_option maxHeartbeats 4000000 in
theorem ct_X0_clinchAll {l : Launch} {D : va_G} {cI cB : ClassId} {Z : (Nat → Nat) × (Nat → Nat)} {ad : Nat → Nat} {S : Mem} {th : Nat} {a1 : Int} {a2 : Int} {S' : Mem} (ho : isAu th) (h : f_X0_clinchAll S th a1 a2 = some S') : Ctr l D cI cB Z ad shsC yX0_clinchAll cX0_clinchAll 7 none 2 42 [.ref (ad th), .int (i32 a1), .int (i32 a2)] S (none) S' := by
  refine ctr_of (by decide +kernel) (Nat.le_of_ble_eq_true rfl) rfl ?_
  intro p e s m args below meth c A X
  unfold f_X0_clinchAll at h
  refine go_iconst (pc := 0) X dX0_clinchAll_0 ?_
  refine go_istore_n (pc := 1) X [1, 2, 3, 0] (Ls' := [(0, .ref (ad th)), (1, .int (i32 a1)), (2, .int (i32 a2)), (3, .int (i32 0))]) dX0_clinchAll_1 rfl (by decide) rfl ?_
  obtain ⟨r19, h20, h⟩ := bind_some h
  have H21 : ∀ (n : Nat) (t22 : Int × Mem) (z23 : Mem), lp (f_X0_clinchAll_l2 th a1 a2) n t22 = some z23 → Go p l e { frames := 2, cells := 0, slots := 0, locals := 42 } s m args below meth c 7 D cI cB ad shsC A (MQ below (cQ D cI cB ad shsC (none) S' A) args s 0 0 A) 72 [] [] z23 → Go p l e { frames := 2, cells := 0, slots := 0, locals := 42 } s m args below meth c 7 D cI cB ad shsC A (MQ below (cQ D cI cB ad shsC (none) S' A) args s 0 0 A) 2 [(0, .ref (ad th)), (1, .int (i32 a1)), (2, .int (i32 a2)), (3, .int (i32 t22.1))] [] t22.2 := by
    refine lp_go (fun t22 : Int × Mem => Go p l e { frames := 2, cells := 0, slots := 0, locals := 42 } s m args below meth c 7 D cI cB ad shsC A (MQ below (cQ D cI cB ad shsC (none) S' A) args s 0 0 A) 2 [(0, .ref (ad th)), (1, .int (i32 a1)), (2, .int (i32 a2)), (3, .int (i32 t22.1))] [] t22.2) (fun z23 : Mem => Go p l e { frames := 2, cells := 0, slots := 0, locals := 42 } s m args below meth c 7 D cI cB ad shsC A (MQ below (cQ D cI cB ad shsC (none) S' A) args s 0 0 A) 72 [] [] z23) ?_
    intro t22 x24 h hx25
    unfold f_X0_clinchAll_l2 at h
    refine go_iload_n (pc := 2) X 3 dX0_clinchAll_2 rfl rfl ?_
    refine go_aload_n (pc := 3) X 0 dX0_clinchAll_3 rfl rfl ?_
    refine go_getr (pc := 4) X (fk := 0) (shA ho) rfl inT_X0 (by decide) fL_X0_12 rfl dX0_clinchAll_4 ?_
    refine go_get (pc := 7) X (fk := 2) (fi := 2) rfl (shB (auBk ho)) rfl inT_X1 (by decide) fL_X0_50 rfl dX0_clinchAll_7 ?_
    refine go_icmp_ge (pc := 10) X 72 dX0_clinchAll_10 rfl (fun c27 => ?_) (fun c27 => ?_)
    · rw [if_neg c27] at h
      refine go_pick [] (Ls' := []) rfl ?_
      exact lp_back h hx25
    · rw [if_pos c27] at h
      refine go_aload_n (pc := 13) X 0 dX0_clinchAll_13 rfl rfl ?_
      refine go_iload_n (pc := 14) X 3 dX0_clinchAll_14 rfl rfl ?_
      obtain ⟨r28, h29, h⟩ := bind_some h
      refine go_callVi (pc := 15) X 1 [] (ct_X0_wantNow ho h29) (shA ho) rfl gg_X0_84 hd_X0_wantNow ⟨Nat.le_of_ble_eq_true rfl, Nat.le_of_ble_eq_true rfl⟩ rfl rfl (Nat.le_of_ble_eq_true rfl) dX0_clinchAll_15 ?_
      refine go_istore (pc := 18) X [1, 2, 3, 4, 0] (Ls' := [(0, .ref (ad th)), (1, .int (i32 a1)), (2, .int (i32 a2)), (3, .int (i32 t22.1)), (4, .int (i32 r28))]) dX0_clinchAll_18 (by decide) rfl ?_
      refine go_iload (pc := 20) X 4 dX0_clinchAll_20 rfl ?_
      refine go_aload_n (pc := 22) X 0 dX0_clinchAll_22 rfl rfl ?_
      refine go_getr (pc := 23) X (fk := 0) (shA ho) rfl inT_X0 (by decide) fL_X0_12 rfl dX0_clinchAll_23 ?_
      refine go_get (pc := 26) X (fk := 0) (fi := 0) rfl (shB (auBk ho)) rfl inT_X1 (by decide) fL_X0_73 rfl dX0_clinchAll_26 ?_
      refine go_iload_n (pc := 29) X 2 dX0_clinchAll_29 rfl rfl ?_
      refine go_iload (pc := 30) X 4 dX0_clinchAll_30 rfl ?_
      refine go_isub (pc := 32) X dX0_clinchAll_32 ?_
      refine go_isub (pc := 33) X dX0_clinchAll_33 ?_
      refine go_mmin (pc := 34) X mL_X0_90 (Nat.le_of_ble_eq_true rfl) (Nat.le_of_ble_eq_true rfl) dX0_clinchAll_34 ?_
      refine go_istore (pc := 37) X [1, 2, 3, 4, 5, 0] (Ls' := [(0, .ref (ad th)), (1, .int (i32 a1)), (2, .int (i32 a2)), (3, .int (i32 t22.1)), (4, .int (i32 r28)), (5, .int (i32 (mnb r28 ((t22.2 (th + 1) 0) - (a2 - r28)))))]) dX0_clinchAll_37 (by decide) rfl ?_
      refine go_aload_n (pc := 39) X 0 dX0_clinchAll_39 rfl rfl ?_
      refine go_getr (pc := 40) X (fk := 4) (shA ho) rfl inT_X0 (by decide) fL_X0_28 rfl dX0_clinchAll_40 ?_
      refine go_iload_n (pc := 43) X 3 dX0_clinchAll_43 rfl rfl ?_
      obtain ⟨g30, h⟩ := gd_some h
      refine go_iald (pc := 44) X (shA7 ho) (Nat.le_of_ble_eq_true rfl) rfl g30 dX0_clinchAll_44 ?_
      refine go_istore (pc := 45) X [1, 2, 3, 4, 5, 6, 0] (Ls' := [(0, .ref (ad th)), (1, .int (i32 a1)), (2, .int (i32 a2)), (3, .int (i32 t22.1)), (4, .int (i32 r28)), (5, .int (i32 (mnb r28 ((t22.2 (th + 1) 0) - (a2 - r28))))), (6, .int (i32 (t22.2 (th + 7) t22.1)))]) dX0_clinchAll_45 (by decide) rfl ?_
      obtain ⟨r31, h32, h⟩ := bind_some h
      have H33 : ∀ (n : Nat) (t34 : Int × Mem) (z35 : Mem), lp (f_X0_clinchAll_l47 th a1 a2 t22.1 (mnb r28 ((t22.2 (th + 1) 0) - (a2 - r28)))) n t34 = some z35 → Go p l e { frames := 2, cells := 0, slots := 0, locals := 42 } s m args below meth c 7 D cI cB ad shsC A (MQ below (cQ D cI cB ad shsC (none) S' A) args s 0 0 A) 66 [(0, .ref (ad th)), (1, .int (i32 a1)), (2, .int (i32 a2)), (3, .int (i32 t22.1))] [] z35 → Go p l e { frames := 2, cells := 0, slots := 0, locals := 42 } s m args below meth c 7 D cI cB ad shsC A (MQ below (cQ D cI cB ad shsC (none) S' A) args s 0 0 A) 47 [(0, .ref (ad th)), (1, .int (i32 a1)), (2, .int (i32 a2)), (3, .int (i32 t22.1)), (5, .int (i32 (mnb r28 ((t22.2 (th + 1) 0) - (a2 - r28))))), (6, .int (i32 t34.1))] [] t34.2 := by
        refine lp_go (fun t34 : Int × Mem => Go p l e { frames := 2, cells := 0, slots := 0, locals := 42 } s m args below meth c 7 D cI cB ad shsC A (MQ below (cQ D cI cB ad shsC (none) S' A) args s 0 0 A) 47 [(0, .ref (ad th)), (1, .int (i32 a1)), (2, .int (i32 a2)), (3, .int (i32 t22.1)), (5, .int (i32 (mnb r28 ((t22.2 (th + 1) 0) - (a2 - r28))))), (6, .int (i32 t34.1))] [] t34.2) (fun z35 : Mem => Go p l e { frames := 2, cells := 0, slots := 0, locals := 42 } s m args below meth c 7 D cI cB ad shsC A (MQ below (cQ D cI cB ad shsC (none) S' A) args s 0 0 A) 66 [(0, .ref (ad th)), (1, .int (i32 a1)), (2, .int (i32 a2)), (3, .int (i32 t22.1))] [] z35) ?_
        intro t34 x36 h hx37
        unfold f_X0_clinchAll_l47 at h
        refine go_iload (pc := 47) X 5 dX0_clinchAll_47 rfl ?_
        refine go_iload (pc := 49) X 4 dX0_clinchAll_49 rfl ?_
        refine go_icmp_ge (pc := 51) X 66 dX0_clinchAll_51 rfl (fun c39 => ?_) (fun c39 => ?_)
        · rw [if_neg c39] at h
          refine go_pick [0, 1, 2, 3] (Ls' := [(0, .ref (ad th)), (1, .int (i32 a1)), (2, .int (i32 a2)), (3, .int (i32 t22.1))]) rfl ?_
          exact lp_back h hx37
        · rw [if_pos c39] at h
          refine go_aload_n (pc := 54) X 0 dX0_clinchAll_54 rfl rfl ?_
          refine go_iload_n (pc := 55) X 3 dX0_clinchAll_55 rfl rfl ?_
          refine go_iload_n (pc := 56) X 1 dX0_clinchAll_56 rfl rfl ?_
          obtain ⟨S40, h41, h⟩ := bind_some h
          refine go_callVv (pc := 57) X 2 [] (ct_X0_give ho h41) (shA ho) rfl gg_X0_95 hd_X0_give ⟨Nat.le_of_ble_eq_true rfl, Nat.le_of_ble_eq_true rfl⟩ rfl rfl (Nat.le_of_ble_eq_true rfl) dX0_clinchAll_57 ?_
          refine go_iinc (pc := 60) X [1, 2, 3, 4, 5, 0] 5 (Ls' := [(0, .ref (ad th)), (1, .int (i32 a1)), (2, .int (i32 a2)), (3, .int (i32 t22.1)), (5, .int (i32 (mnb r28 ((t22.2 (th + 1) 0) - (a2 - r28))))), (6, .int (i32 (t34.1 + 1)))]) dX0_clinchAll_60 rfl (by decide) rfl ?_
          refine go_goto (pc := 63) X 47 dX0_clinchAll_63 rfl ?_
          exact lp_back h hx37
      refine go_pick [0, 1, 2, 3, 5, 6] (Ls' := [(0, .ref (ad th)), (1, .int (i32 a1)), (2, .int (i32 a2)), (3, .int (i32 t22.1)), (5, .int (i32 (mnb r28 ((t22.2 (th + 1) 0) - (a2 - r28))))), (6, .int (i32 (t22.2 (th + 7) t22.1)))]) rfl ?_
      refine H33 FU (t22.2 (th + 7) t22.1, t22.2) r31 h32 ?_
      refine go_iinc (pc := 66) X [1, 2, 3, 0] 3 (Ls' := [(0, .ref (ad th)), (1, .int (i32 a1)), (2, .int (i32 a2)), (3, .int (i32 (t22.1 + 1)))]) dX0_clinchAll_66 rfl (by decide) rfl ?_
      refine go_goto (pc := 69) X 2 dX0_clinchAll_69 rfl ?_
      exact lp_back h hx25
  refine H21 FU (0, S) r19 h20 ?_
  exact go_vret (pc := 72) X h dX0_clinchAll_72
set_option maxRecDepth 100000 in
set_option maxHeartbeats 4000000 in
theorem ct_X0_leastWanted {l : Launch} {D : va_G} {cI cB : ClassId} {Z : (Nat → Nat) × (Nat → Nat)} {ad : Nat → Nat} {S : Mem} {th : Nat} {r : Int} (ho : isAu th) (h : f_X0_leastWanted S th = some r) : Ctr l D cI cB Z ad shsC yX0_leastWanted cX0_leastWanted 3 (some .int) 1 22 [.ref (ad th)] S (some (.int (i32 r))) S := by
  refine ctr_of (by decide +kernel) (Nat.le_of_ble_eq_true rfl) rfl ?_
  intro p e s m args below meth c A X
  unfold f_X0_leastWanted at h
  refine go_bipush (pc := 0) X dX0_leastWanted_0 (by decide) (by decide) ?_
  refine go_istore_n (pc := 2) X [1, 0] (Ls' := [(0, .ref (ad th)), (1, .int (i32 99))]) dX0_leastWanted_2 rfl (by decide) rfl ?_
  refine go_iconst (pc := 3) X dX0_leastWanted_3 ?_
  refine go_istore_n (pc := 4) X [1, 2, 0] (Ls' := [(0, .ref (ad th)), (1, .int (i32 99)), (2, .int (i32 0))]) dX0_leastWanted_4 rfl (by decide) rfl ?_
  obtain ⟨r9, h10, h⟩ := bind_some h
  have H11 : ∀ (n : Nat) (t12 : Int × Int) (z13 : Int), lp (f_X0_leastWanted_l5 S th) n t12 = some z13 → Go p l e { frames := 1, cells := 0, slots := 0, locals := 22 } s m args below meth c 3 D cI cB ad shsC A (MQ below (cQ D cI cB ad shsC (some (.int (i32 r))) S A) args s 0 0 A) 52 [(1, .int (i32 z13))] [] S → Go p l e { frames := 1, cells := 0, slots := 0, locals := 22 } s m args below meth c 3 D cI cB ad shsC A (MQ below (cQ D cI cB ad shsC (some (.int (i32 r))) S A) args s 0 0 A) 5 [(0, .ref (ad th)), (1, .int (i32 t12.1)), (2, .int (i32 t12.2))] [] S := by
    refine lp_go (fun t12 : Int × Int => Go p l e { frames := 1, cells := 0, slots := 0, locals := 22 } s m args below meth c 3 D cI cB ad shsC A (MQ below (cQ D cI cB ad shsC (some (.int (i32 r))) S A) args s 0 0 A) 5 [(0, .ref (ad th)), (1, .int (i32 t12.1)), (2, .int (i32 t12.2))] [] S) (fun z13 : Int => Go p l e { frames := 1, cells := 0, slots := 0, locals := 22 } s m args below meth c 3 D cI cB ad shsC A (MQ below (cQ D cI cB ad shsC (some (.int (i32 r))) S A) args s 0 0 A) 52 [(1, .int (i32 z13))] [] S) ?_
    intro t12 x14 h hx15
    unfold f_X0_leastWanted_l5 at h
    refine go_iload_n (pc := 5) X 2 dX0_leastWanted_5 rfl rfl ?_
    refine go_aload_n (pc := 6) X 0 dX0_leastWanted_6 rfl rfl ?_
    refine go_getr (pc := 7) X (fk := 0) (shA ho) rfl inT_X0 (by decide) fL_X0_12 rfl dX0_leastWanted_7 ?_
    refine go_get (pc := 10) X (fk := 2) (fi := 2) rfl (shB (auBk ho)) rfl inT_X1 (by decide) fL_X0_50 rfl dX0_leastWanted_10 ?_
    refine go_icmp_ge (pc := 13) X 52 dX0_leastWanted_13 rfl (fun c17 => ?_) (fun c17 => ?_)
    · rw [if_neg c17] at h
      refine go_pick [1] (Ls' := [(1, .int (i32 t12.1))]) rfl ?_
      exact lp_back h hx15
    · rw [if_pos c17] at h
      refine go_aload_n (pc := 16) X 0 dX0_leastWanted_16 rfl rfl ?_
      refine go_getr (pc := 17) X (fk := 9) (shA ho) rfl inT_X0 (by decide) fL_X0_44 rfl dX0_leastWanted_17 ?_
      refine go_iload_n (pc := 20) X 2 dX0_leastWanted_20 rfl rfl ?_
      obtain ⟨g18, h⟩ := gd_some h
      refine go_iald (pc := 21) X (shA12 ho) (Nat.le_of_ble_eq_true rfl) rfl g18 dX0_leastWanted_21 ?_
      obtain ⟨j19, h20, h⟩ := bind_some h
      have k21 : Go p l e { frames := 1, cells := 0, slots := 0, locals := 22 } s m args below meth c 3 D cI cB ad shsC A (MQ below (cQ D cI cB ad shsC (some (.int (i32 r))) S A) args s 0 0 A) 46 [(0, .ref (ad th)), (1, .int (i32 j19)), (2, .int (i32 t12.2))] [] S := by
        refine go_iinc (pc := 46) X [1, 2, 0] 2 (Ls' := [(0, .ref (ad th)), (1, .int (i32 j19)), (2, .int (i32 (t12.2 + 1)))]) dX0_leastWanted_46 rfl (by decide) rfl ?_
        refine go_goto (pc := 49) X 5 dX0_leastWanted_49 rfl ?_
        exact lp_back h hx15
      refine go_if_le (pc := 22) X 46 dX0_leastWanted_22 rfl (fun c22 => ?_) (fun c22 => ?_)
      · rw [if_neg c22] at h20
        cases h20
        exact k21
      · rw [if_pos c22] at h20
        refine go_iload_n (pc := 25) X 1 dX0_leastWanted_25 rfl rfl ?_
        refine go_aload_n (pc := 26) X 0 dX0_leastWanted_26 rfl rfl ?_
        refine go_getr (pc := 27) X (fk := 0) (shA ho) rfl inT_X0 (by decide) fL_X0_12 rfl dX0_leastWanted_27 ?_
        refine go_iload_n (pc := 30) X 2 dX0_leastWanted_30 rfl rfl ?_
        refine go_aload_n (pc := 31) X 0 dX0_leastWanted_31 rfl rfl ?_
        refine go_getr (pc := 32) X (fk := 9) (shA ho) rfl inT_X0 (by decide) fL_X0_44 rfl dX0_leastWanted_32 ?_
        refine go_iload_n (pc := 35) X 2 dX0_leastWanted_35 rfl rfl ?_
        refine go_iald (pc := 36) X (shA12 ho) (Nat.le_of_ble_eq_true rfl) rfl g18 dX0_leastWanted_36 ?_
        refine go_iconst (pc := 37) X dX0_leastWanted_37 ?_
        refine go_isub (pc := 38) X dX0_leastWanted_38 ?_
        obtain ⟨r23, h24, h20⟩ := bind_some h20
        refine go_callVi (pc := 39) X 2 [.int (i32 t12.1)] (ct_X1_valueAt (auBk ho) h24) (shB (auBk ho)) rfl gg_X0_80 hd_X1_valueAt ⟨Nat.le_of_ble_eq_true rfl, Nat.le_of_ble_eq_true rfl⟩ rfl rfl (Nat.le_of_ble_eq_true rfl) dX0_leastWanted_39 ?_
        refine go_mmin (pc := 42) X mL_X0_90 (Nat.le_of_ble_eq_true rfl) (Nat.le_of_ble_eq_true rfl) dX0_leastWanted_42 ?_
        refine go_istore_n (pc := 45) X [1, 0, 2] (Ls' := [(0, .ref (ad th)), (1, .int (i32 (mnb t12.1 r23))), (2, .int (i32 t12.2))]) dX0_leastWanted_45 rfl (by decide) rfl ?_
        cases h20
        exact k21
  refine H11 FU (99, 0) r9 h10 ?_
  refine go_iload_n (pc := 52) X 0 dX0_leastWanted_52 rfl rfl ?_
  exact go_iretP (pc := 53) X h dX0_leastWanted_53
set_option maxRecDepth 100000 in
set_option maxHeartbeats 4000000 in
theorem ct_X0_runClock {l : Launch} {D : va_G} {cI cB : ClassId} {Z : (Nat → Nat) × (Nat → Nat)} {ad : Nat → Nat} {S : Mem} {th : Nat} {S' : Mem} (ho : isAu th) (h : f_X0_runClock S th = some S') : Ctr l D cI cB Z ad shsC yX0_runClock cX0_runClock 4 none 3 68 [.ref (ad th)] S (none) S' := by
  refine ctr_of (by decide +kernel) (Nat.le_of_ble_eq_true rfl) rfl ?_
  intro p e s m args below meth c A X
  unfold f_X0_runClock at h
  refine go_aload_n (pc := 0) X 0 dX0_runClock_0 rfl rfl ?_
  refine go_getr (pc := 1) X (fk := 0) (shA ho) rfl inT_X0 (by decide) fL_X0_12 rfl dX0_runClock_1 ?_
  refine go_get (pc := 4) X (fk := 1) (fi := 1) rfl (shB (auBk ho)) rfl inT_X1 (by decide) fL_X0_62 rfl dX0_runClock_4 ?_
  refine go_istore_n (pc := 7) X [1, 0] (Ls' := [(0, .ref (ad th)), (1, .int (i32 (S (th + 1) 1)))]) dX0_runClock_7 rfl (by decide) rfl ?_
  refine go_aload_n (pc := 8) X 0 dX0_runClock_8 rfl rfl ?_
  refine go_iload_n (pc := 9) X 1 dX0_runClock_9 rfl rfl ?_
  obtain ⟨u1, h2, h⟩ := bind_some h
  refine go_callVi (pc := 10) X 1 [] (ct_X0_wantsNow ho h2) (shA ho) rfl gg_X0_65 hd_X0_wantsNow ⟨Nat.le_of_ble_eq_true rfl, Nat.le_of_ble_eq_true rfl⟩ rfl rfl (Nat.le_of_ble_eq_true rfl) dX0_runClock_10 ?_
  refine go_istore_n (pc := 13) X [1, 2, 0] (Ls' := [(0, .ref (ad th)), (1, .int (i32 (S (th + 1) 1))), (2, .int (i32 u1.1))]) dX0_runClock_13 rfl (by decide) rfl ?_
  refine go_aload_n (pc := 14) X 0 dX0_runClock_14 rfl rfl ?_
  refine go_iload_n (pc := 15) X 1 dX0_runClock_15 rfl rfl ?_
  refine go_iload_n (pc := 16) X 2 dX0_runClock_16 rfl rfl ?_
  obtain ⟨S3, h4, h⟩ := bind_some h
  refine go_callVv (pc := 17) X 2 [] (ct_X0_clinchAll ho h4) (shA ho) rfl gg_X0_69 hd_X0_clinchAll ⟨Nat.le_of_ble_eq_true rfl, Nat.le_of_ble_eq_true rfl⟩ rfl rfl (Nat.le_of_ble_eq_true rfl) dX0_runClock_17 ?_
  refine go_iconst (pc := 20) X dX0_runClock_20 ?_
  refine go_istore_n (pc := 21) X [1, 2, 3, 0] (Ls' := [(0, .ref (ad th)), (1, .int (i32 (S (th + 1) 1))), (2, .int (i32 u1.1)), (3, .int (i32 0))]) dX0_runClock_21 rfl (by decide) rfl ?_
  obtain ⟨r13, h14, h⟩ := bind_some h
  have H15 : ∀ (n : Nat) (t16 : Int × Int × Int × Mem) (z17 : Int × Mem), lp (f_X0_runClock_l22 th) n t16 = some z17 → Go p l e { frames := 3, cells := 0, slots := 0, locals := 68 } s m args below meth c 4 D cI cB ad shsC A (MQ below (cQ D cI cB ad shsC (none) S' A) args s 0 0 A) 62 [(0, .ref (ad th)), (1, .int (i32 z17.1))] [] z17.2 → Go p l e { frames := 3, cells := 0, slots := 0, locals := 68 } s m args below meth c 4 D cI cB ad shsC A (MQ below (cQ D cI cB ad shsC (none) S' A) args s 0 0 A) 22 [(0, .ref (ad th)), (1, .int (i32 t16.1)), (2, .int (i32 t16.2.1)), (3, .int (i32 t16.2.2.1))] [] t16.2.2.2 := by
    refine lp_go (fun t16 : Int × Int × Int × Mem => Go p l e { frames := 3, cells := 0, slots := 0, locals := 68 } s m args below meth c 4 D cI cB ad shsC A (MQ below (cQ D cI cB ad shsC (none) S' A) args s 0 0 A) 22 [(0, .ref (ad th)), (1, .int (i32 t16.1)), (2, .int (i32 t16.2.1)), (3, .int (i32 t16.2.2.1))] [] t16.2.2.2) (fun z17 : Int × Mem => Go p l e { frames := 3, cells := 0, slots := 0, locals := 68 } s m args below meth c 4 D cI cB ad shsC A (MQ below (cQ D cI cB ad shsC (none) S' A) args s 0 0 A) 62 [(0, .ref (ad th)), (1, .int (i32 z17.1))] [] z17.2) ?_
    intro t16 x18 h hx19
    unfold f_X0_runClock_l22 at h
    refine go_iload_n (pc := 22) X 3 dX0_runClock_22 rfl rfl ?_
    refine go_bipush (pc := 23) X dX0_runClock_23 (by decide) (by decide) ?_
    refine go_icmp_gt (pc := 25) X 62 dX0_runClock_25 rfl (fun c21 => ?_) (fun c21 => ?_)
    · rw [if_pos c21] at h
      refine go_pick [0, 1] (Ls' := [(0, .ref (ad th)), (1, .int (i32 t16.1))]) rfl ?_
      exact lp_back h hx19
    · rw [if_neg c21] at h
      refine go_iload_n (pc := 28) X 2 dX0_runClock_28 rfl rfl ?_
      refine go_aload_n (pc := 29) X 0 dX0_runClock_29 rfl rfl ?_
      refine go_getr (pc := 30) X (fk := 0) (shA ho) rfl inT_X0 (by decide) fL_X0_12 rfl dX0_runClock_30 ?_
      refine go_get (pc := 33) X (fk := 0) (fi := 0) rfl (shB (auBk ho)) rfl inT_X1 (by decide) fL_X0_73 rfl dX0_runClock_33 ?_
      refine go_icmp_le (pc := 36) X 62 dX0_runClock_36 rfl (fun c22 => ?_) (fun c22 => ?_)
      · rw [if_neg c22] at h
        refine go_pick [0, 1] (Ls' := [(0, .ref (ad th)), (1, .int (i32 t16.1))]) rfl ?_
        exact lp_back h hx19
      · rw [if_pos c22] at h
        refine go_aload_n (pc := 39) X 0 dX0_runClock_39 rfl rfl ?_
        obtain ⟨r23, h24, h⟩ := bind_some h
        refine go_callVi (pc := 40) X 0 [] (ct_X0_leastWanted ho h24) (shA ho) rfl gg_X0_76 hd_X0_leastWanted ⟨Nat.le_of_ble_eq_true rfl, Nat.le_of_ble_eq_true rfl⟩ rfl rfl (Nat.le_of_ble_eq_true rfl) dX0_runClock_40 ?_
        refine go_istore_n (pc := 43) X [1, 0, 2, 3] (Ls' := [(0, .ref (ad th)), (1, .int (i32 r23)), (2, .int (i32 t16.2.1)), (3, .int (i32 t16.2.2.1))]) dX0_runClock_43 rfl (by decide) rfl ?_
        refine go_aload_n (pc := 44) X 0 dX0_runClock_44 rfl rfl ?_
        refine go_iload_n (pc := 45) X 1 dX0_runClock_45 rfl rfl ?_
        obtain ⟨u25, h26, h⟩ := bind_some h
        refine go_callVi (pc := 46) X 1 [] (ct_X0_wantsNow ho h26) (shA ho) rfl gg_X0_65 hd_X0_wantsNow ⟨Nat.le_of_ble_eq_true rfl, Nat.le_of_ble_eq_true rfl⟩ rfl rfl (Nat.le_of_ble_eq_true rfl) dX0_runClock_46 ?_
        refine go_istore_n (pc := 49) X [1, 2, 0, 3] (Ls' := [(0, .ref (ad th)), (1, .int (i32 r23)), (2, .int (i32 u25.1)), (3, .int (i32 t16.2.2.1))]) dX0_runClock_49 rfl (by decide) rfl ?_
        refine go_aload_n (pc := 50) X 0 dX0_runClock_50 rfl rfl ?_
        refine go_iload_n (pc := 51) X 1 dX0_runClock_51 rfl rfl ?_
        refine go_iload_n (pc := 52) X 2 dX0_runClock_52 rfl rfl ?_
        obtain ⟨S27, h28, h⟩ := bind_some h
        refine go_callVv (pc := 53) X 2 [] (ct_X0_clinchAll ho h28) (shA ho) rfl gg_X0_69 hd_X0_clinchAll ⟨Nat.le_of_ble_eq_true rfl, Nat.le_of_ble_eq_true rfl⟩ rfl rfl (Nat.le_of_ble_eq_true rfl) dX0_runClock_53 ?_
        refine go_iinc (pc := 56) X [1, 2, 3, 0] 3 (Ls' := [(0, .ref (ad th)), (1, .int (i32 r23)), (2, .int (i32 u25.1)), (3, .int (i32 (t16.2.2.1 + 1)))]) dX0_runClock_56 rfl (by decide) rfl ?_
        refine go_goto (pc := 59) X 22 dX0_runClock_59 rfl ?_
        exact lp_back h hx19
  refine H15 FU (S (th + 1) 1, u1.1, 0, S3) r13 h14 ?_
  refine go_aload_n (pc := 62) X 0 dX0_runClock_62 rfl rfl ?_
  refine go_iload_n (pc := 63) X 1 dX0_runClock_63 rfl rfl ?_
  obtain ⟨S29, e30, h⟩ := wrk_some h
  refine go_putE (pc := 64) X (fk := 1) (fi := 1) rfl e30 (shA ho) rfl inT_X0 tyX0_ok nmX0 (by decide) fL_X0_18 rfl rfl rfl rfl rfl dX0_runClock_64 ?_
  exact go_vret (pc := 67) X h dX0_runClock_67
set_option maxRecDepth 100000 in
set_option maxHeartbeats 4000000 in
theorem ct_X0_shareOut {l : Launch} {D : va_G} {cI cB : ClassId} {Z : (Nat → Nat) × (Nat → Nat)} {ad : Nat → Nat} {S : Mem} {th : Nat} {S' : Mem} (ho : isAu th) (h : f_X0_shareOut S th = some S') : Ctr l D cI cB Z ad shsC yX0_shareOut cX0_shareOut 3 none 3 67 [.ref (ad th)] S (none) S' := by
  refine ctr_of (by decide +kernel) (Nat.le_of_ble_eq_true rfl) rfl ?_
  intro p e s m args below meth c A X
  unfold f_X0_shareOut at h
  refine go_iconst (pc := 0) X dX0_shareOut_0 ?_
  refine go_istore_n (pc := 1) X [1, 0] (Ls' := [(0, .ref (ad th)), (1, .int (i32 0))]) dX0_shareOut_1 rfl (by decide) rfl ?_
  obtain ⟨r33, h34, h⟩ := bind_some h
  have H35 : ∀ (n : Nat) (t36 : Int × Mem) (z37 : Mem), lp (f_X0_shareOut_l2 th) n t36 = some z37 → Go p l e { frames := 3, cells := 0, slots := 0, locals := 67 } s m args below meth c 3 D cI cB ad shsC A (MQ below (cQ D cI cB ad shsC (none) S' A) args s 0 0 A) 91 [] [] z37 → Go p l e { frames := 3, cells := 0, slots := 0, locals := 67 } s m args below meth c 3 D cI cB ad shsC A (MQ below (cQ D cI cB ad shsC (none) S' A) args s 0 0 A) 2 [(0, .ref (ad th)), (1, .int (i32 t36.1))] [] t36.2 := by
    refine lp_go (fun t36 : Int × Mem => Go p l e { frames := 3, cells := 0, slots := 0, locals := 67 } s m args below meth c 3 D cI cB ad shsC A (MQ below (cQ D cI cB ad shsC (none) S' A) args s 0 0 A) 2 [(0, .ref (ad th)), (1, .int (i32 t36.1))] [] t36.2) (fun z37 : Mem => Go p l e { frames := 3, cells := 0, slots := 0, locals := 67 } s m args below meth c 3 D cI cB ad shsC A (MQ below (cQ D cI cB ad shsC (none) S' A) args s 0 0 A) 91 [] [] z37) ?_
    intro t36 x38 h hx39
    unfold f_X0_shareOut_l2 at h
    refine go_iload_n (pc := 2) X 1 dX0_shareOut_2 rfl rfl ?_
    refine go_bipush (pc := 3) X dX0_shareOut_3 (by decide) (by decide) ?_
    refine go_icmp_ge (pc := 5) X 91 dX0_shareOut_5 rfl (fun c41 => ?_) (fun c41 => ?_)
    · rw [if_neg c41] at h
      refine go_pick [] (Ls' := []) rfl ?_
      exact lp_back h hx39
    · rw [if_pos c41] at h
      refine go_aload_n (pc := 8) X 0 dX0_shareOut_8 rfl rfl ?_
      refine go_get (pc := 9) X (fk := 2) (fi := 2) rfl (shA ho) rfl inT_X0 (by decide) fL_X0_22 rfl dX0_shareOut_9 ?_
      refine go_aload_n (pc := 12) X 0 dX0_shareOut_12 rfl rfl ?_
      refine go_getr (pc := 13) X (fk := 0) (shA ho) rfl inT_X0 (by decide) fL_X0_12 rfl dX0_shareOut_13 ?_
      refine go_get (pc := 16) X (fk := 0) (fi := 0) rfl (shB (auBk ho)) rfl inT_X1 (by decide) fL_X0_73 rfl dX0_shareOut_16 ?_
      refine go_icmp_ge (pc := 19) X 91 dX0_shareOut_19 rfl (fun c42 => ?_) (fun c42 => ?_)
      · rw [if_neg c42] at h
        refine go_pick [] (Ls' := []) rfl ?_
        exact lp_back h hx39
      · rw [if_pos c42] at h
        refine go_iconst (pc := 22) X dX0_shareOut_22 ?_
        refine go_istore_n (pc := 23) X [1, 2, 0] (Ls' := [(0, .ref (ad th)), (1, .int (i32 t36.1)), (2, .int (i32 0))]) dX0_shareOut_23 rfl (by decide) rfl ?_
        obtain ⟨r43, h44, h⟩ := bind_some h
        have H45 : ∀ (n : Nat) (t46 : Int × Mem) (z47 : Mem), lp (f_X0_shareOut_l24 th t36.1) n t46 = some z47 → Go p l e { frames := 3, cells := 0, slots := 0, locals := 67 } s m args below meth c 3 D cI cB ad shsC A (MQ below (cQ D cI cB ad shsC (none) S' A) args s 0 0 A) 85 [(0, .ref (ad th)), (1, .int (i32 t36.1))] [] z47 → Go p l e { frames := 3, cells := 0, slots := 0, locals := 67 } s m args below meth c 3 D cI cB ad shsC A (MQ below (cQ D cI cB ad shsC (none) S' A) args s 0 0 A) 24 [(0, .ref (ad th)), (1, .int (i32 t36.1)), (2, .int (i32 t46.1))] [] t46.2 := by
          refine lp_go (fun t46 : Int × Mem => Go p l e { frames := 3, cells := 0, slots := 0, locals := 67 } s m args below meth c 3 D cI cB ad shsC A (MQ below (cQ D cI cB ad shsC (none) S' A) args s 0 0 A) 24 [(0, .ref (ad th)), (1, .int (i32 t36.1)), (2, .int (i32 t46.1))] [] t46.2) (fun z47 : Mem => Go p l e { frames := 3, cells := 0, slots := 0, locals := 67 } s m args below meth c 3 D cI cB ad shsC A (MQ below (cQ D cI cB ad shsC (none) S' A) args s 0 0 A) 85 [(0, .ref (ad th)), (1, .int (i32 t36.1))] [] z47) ?_
          intro t46 x48 h hx49
          unfold f_X0_shareOut_l24 at h
          refine go_iload_n (pc := 24) X 2 dX0_shareOut_24 rfl rfl ?_
          refine go_aload_n (pc := 25) X 0 dX0_shareOut_25 rfl rfl ?_
          refine go_getr (pc := 26) X (fk := 0) (shA ho) rfl inT_X0 (by decide) fL_X0_12 rfl dX0_shareOut_26 ?_
          refine go_get (pc := 29) X (fk := 2) (fi := 2) rfl (shB (auBk ho)) rfl inT_X1 (by decide) fL_X0_50 rfl dX0_shareOut_29 ?_
          refine go_icmp_ge (pc := 32) X 85 dX0_shareOut_32 rfl (fun c51 => ?_) (fun c51 => ?_)
          · rw [if_neg c51] at h
            refine go_pick [0, 1] (Ls' := [(0, .ref (ad th)), (1, .int (i32 t36.1))]) rfl ?_
            exact lp_back h hx49
          · rw [if_pos c51] at h
            refine go_aload_n (pc := 35) X 0 dX0_shareOut_35 rfl rfl ?_
            refine go_get (pc := 36) X (fk := 2) (fi := 2) rfl (shA ho) rfl inT_X0 (by decide) fL_X0_22 rfl dX0_shareOut_36 ?_
            refine go_aload_n (pc := 39) X 0 dX0_shareOut_39 rfl rfl ?_
            refine go_getr (pc := 40) X (fk := 0) (shA ho) rfl inT_X0 (by decide) fL_X0_12 rfl dX0_shareOut_40 ?_
            refine go_get (pc := 43) X (fk := 0) (fi := 0) rfl (shB (auBk ho)) rfl inT_X1 (by decide) fL_X0_73 rfl dX0_shareOut_43 ?_
            refine go_icmp_ge (pc := 46) X 85 dX0_shareOut_46 rfl (fun c52 => ?_) (fun c52 => ?_)
            · rw [if_neg c52] at h
              refine go_pick [0, 1] (Ls' := [(0, .ref (ad th)), (1, .int (i32 t36.1))]) rfl ?_
              exact lp_back h hx49
            · rw [if_pos c52] at h
              refine go_aload_n (pc := 49) X 0 dX0_shareOut_49 rfl rfl ?_
              refine go_getr (pc := 50) X (fk := 0) (shA ho) rfl inT_X0 (by decide) fL_X0_12 rfl dX0_shareOut_50 ?_
              refine go_iload_n (pc := 53) X 2 dX0_shareOut_53 rfl rfl ?_
              refine go_aload_n (pc := 54) X 0 dX0_shareOut_54 rfl rfl ?_
              refine go_get (pc := 55) X (fk := 1) (fi := 1) rfl (shA ho) rfl inT_X0 (by decide) fL_X0_18 rfl dX0_shareOut_55 ?_
              obtain ⟨r53, h54, h⟩ := bind_some h
              refine go_callVi (pc := 58) X 2 [] (ct_X1_takesOf (auBk ho) h54) (shB (auBk ho)) rfl gg_X0_98 hd_X1_takesOf ⟨Nat.le_of_ble_eq_true rfl, Nat.le_of_ble_eq_true rfl⟩ rfl rfl (Nat.le_of_ble_eq_true rfl) dX0_shareOut_58 ?_
              refine go_aload_n (pc := 61) X 0 dX0_shareOut_61 rfl rfl ?_
              refine go_getr (pc := 62) X (fk := 4) (shA ho) rfl inT_X0 (by decide) fL_X0_28 rfl dX0_shareOut_62 ?_
              refine go_iload_n (pc := 65) X 2 dX0_shareOut_65 rfl rfl ?_
              obtain ⟨g55, h⟩ := gd_some h
              refine go_iald (pc := 66) X (shA7 ho) (Nat.le_of_ble_eq_true rfl) rfl g55 dX0_shareOut_66 ?_
              obtain ⟨j56, h57, h⟩ := bind_some h
              have k58 : Go p l e { frames := 3, cells := 0, slots := 0, locals := 67 } s m args below meth c 3 D cI cB ad shsC A (MQ below (cQ D cI cB ad shsC (none) S' A) args s 0 0 A) 79 [(0, .ref (ad th)), (1, .int (i32 t36.1)), (2, .int (i32 t46.1))] [] j56 := by
                refine go_iinc (pc := 79) X [1, 2, 0] 2 (Ls' := [(0, .ref (ad th)), (1, .int (i32 t36.1)), (2, .int (i32 (t46.1 + 1)))]) dX0_shareOut_79 rfl (by decide) rfl ?_
                refine go_goto (pc := 82) X 24 dX0_shareOut_82 rfl ?_
                exact lp_back h hx49
              refine go_icmp_le (pc := 67) X 79 dX0_shareOut_67 rfl (fun c59 => ?_) (fun c59 => ?_)
              · rw [if_neg c59] at h57
                cases h57
                exact k58
              · rw [if_pos c59] at h57
                refine go_aload_n (pc := 70) X 0 dX0_shareOut_70 rfl rfl ?_
                refine go_iload_n (pc := 71) X 2 dX0_shareOut_71 rfl rfl ?_
                refine go_aload_n (pc := 72) X 0 dX0_shareOut_72 rfl rfl ?_
                refine go_get (pc := 73) X (fk := 1) (fi := 1) rfl (shA ho) rfl inT_X0 (by decide) fL_X0_18 rfl dX0_shareOut_73 ?_
                obtain ⟨S60, h61, h57⟩ := bind_some h57
                refine go_callVv (pc := 76) X 2 [] (ct_X0_give ho h61) (shA ho) rfl gg_X0_95 hd_X0_give ⟨Nat.le_of_ble_eq_true rfl, Nat.le_of_ble_eq_true rfl⟩ rfl rfl (Nat.le_of_ble_eq_true rfl) dX0_shareOut_76 ?_
                cases h57
                exact k58
        refine H45 FU (0, t36.2) r43 h44 ?_
        refine go_iinc (pc := 85) X [1, 0] 1 (Ls' := [(0, .ref (ad th)), (1, .int (i32 (t36.1 + 1)))]) dX0_shareOut_85 rfl (by decide) rfl ?_
        refine go_goto (pc := 88) X 2 dX0_shareOut_88 rfl ?_
        exact lp_back h hx39
  refine H35 FU (0, S) r33 h34 ?_
  exact go_vret (pc := 91) X h dX0_shareOut_91
set_option maxRecDepth 100000 in
set_option maxHeartbeats 4000000 in
theorem ct_X0_run {l : Launch} {D : va_G} {cI cB : ClassId} {Z : (Nat → Nat) × (Nat → Nat)} {ad : Nat → Nat} {S : Mem} {th : Nat} {S' : Mem} (ho : isAu th) (h : f_X0_run S th = some S') : Ctr l D cI cB Z ad shsC yX0_run cX0_run 2 none 4 91 [.ref (ad th)] S (none) S' := by
  refine ctr_of (by decide +kernel) (Nat.le_of_ble_eq_true rfl) rfl ?_
  intro p e s m args below meth c A X
  unfold f_X0_run at h
  refine go_aload_n (pc := 0) X 0 dX0_run_0 rfl rfl ?_
  refine go_iconst (pc := 1) X dX0_run_1 ?_
  obtain ⟨S1, e2, h⟩ := wrk_some h
  refine go_putE (pc := 2) X (fk := 2) (fi := 2) rfl e2 (shA ho) rfl inT_X0 tyX0_ok nmX0 (by decide) fL_X0_22 rfl rfl rfl rfl rfl dX0_run_2 ?_
  refine go_iconst (pc := 5) X dX0_run_5 ?_
  refine go_istore_n (pc := 6) X [1, 0] (Ls' := [(0, .ref (ad th)), (1, .int (i32 0))]) dX0_run_6 rfl (by decide) rfl ?_
  obtain ⟨r9, h10, h⟩ := bind_some h
  have H11 : ∀ (n : Nat) (t12 : Int × Mem) (z13 : Mem), lp (f_X0_run_l7 th) n t12 = some z13 → Go p l e { frames := 4, cells := 0, slots := 0, locals := 91 } s m args below meth c 2 D cI cB ad shsC A (MQ below (cQ D cI cB ad shsC (none) S' A) args s 0 0 A) 46 [(0, .ref (ad th))] [] z13 → Go p l e { frames := 4, cells := 0, slots := 0, locals := 91 } s m args below meth c 2 D cI cB ad shsC A (MQ below (cQ D cI cB ad shsC (none) S' A) args s 0 0 A) 7 [(0, .ref (ad th)), (1, .int (i32 t12.1))] [] t12.2 := by
    refine lp_go (fun t12 : Int × Mem => Go p l e { frames := 4, cells := 0, slots := 0, locals := 91 } s m args below meth c 2 D cI cB ad shsC A (MQ below (cQ D cI cB ad shsC (none) S' A) args s 0 0 A) 7 [(0, .ref (ad th)), (1, .int (i32 t12.1))] [] t12.2) (fun z13 : Mem => Go p l e { frames := 4, cells := 0, slots := 0, locals := 91 } s m args below meth c 2 D cI cB ad shsC A (MQ below (cQ D cI cB ad shsC (none) S' A) args s 0 0 A) 46 [(0, .ref (ad th))] [] z13) ?_
    intro t12 x14 h hx15
    unfold f_X0_run_l7 at h
    refine go_iload_n (pc := 7) X 1 dX0_run_7 rfl rfl ?_
    refine go_aload_n (pc := 8) X 0 dX0_run_8 rfl rfl ?_
    refine go_getr (pc := 9) X (fk := 0) (shA ho) rfl inT_X0 (by decide) fL_X0_12 rfl dX0_run_9 ?_
    refine go_get (pc := 12) X (fk := 2) (fi := 2) rfl (shB (auBk ho)) rfl inT_X1 (by decide) fL_X0_50 rfl dX0_run_12 ?_
    refine go_icmp_ge (pc := 15) X 46 dX0_run_15 rfl (fun c17 => ?_) (fun c17 => ?_)
    · rw [if_neg c17] at h
      refine go_pick [0] (Ls' := [(0, .ref (ad th))]) rfl ?_
      exact lp_back h hx15
    · rw [if_pos c17] at h
      refine go_aload_n (pc := 18) X 0 dX0_run_18 rfl rfl ?_
      refine go_getr (pc := 19) X (fk := 4) (shA ho) rfl inT_X0 (by decide) fL_X0_28 rfl dX0_run_19 ?_
      refine go_iload_n (pc := 22) X 1 dX0_run_22 rfl rfl ?_
      refine go_iconst (pc := 23) X dX0_run_23 ?_
      obtain ⟨g18, h⟩ := gd_some h
      obtain ⟨S19, e20, h⟩ := wrk_some h
      refine go_iastE (pc := 24) X e20 (shA7 ho) (Nat.le_of_ble_eq_true rfl) rfl g18 dX0_run_24 ?_
      refine go_aload_n (pc := 25) X 0 dX0_run_25 rfl rfl ?_
      refine go_getr (pc := 26) X (fk := 9) (shA ho) rfl inT_X0 (by decide) fL_X0_44 rfl dX0_run_26 ?_
      refine go_iload_n (pc := 29) X 1 dX0_run_29 rfl rfl ?_
      refine go_aload_n (pc := 30) X 0 dX0_run_30 rfl rfl ?_
      refine go_getr (pc := 31) X (fk := 0) (shA ho) rfl inT_X0 (by decide) fL_X0_12 rfl dX0_run_31 ?_
      refine go_getr (pc := 34) X (fk := 3) (shB (auBk ho)) rfl inT_X1 (by decide) fL_X0_53 rfl dX0_run_34 ?_
      refine go_iload_n (pc := 37) X 1 dX0_run_37 rfl rfl ?_
      refine go_iald (pc := 38) X (shB1 (auBk ho)) (Nat.le_of_ble_eq_true rfl) rfl g18 dX0_run_38 ?_
      obtain ⟨S21, e22, h⟩ := wrk_some h
      refine go_iastE (pc := 39) X e22 (shA12 ho) (Nat.le_of_ble_eq_true rfl) rfl g18 dX0_run_39 ?_
      refine go_iinc (pc := 40) X [1, 0] 1 (Ls' := [(0, .ref (ad th)), (1, .int (i32 (t12.1 + 1)))]) dX0_run_40 rfl (by decide) rfl ?_
      refine go_goto (pc := 43) X 7 dX0_run_43 rfl ?_
      exact lp_back h hx15
  refine H11 FU (0, S1) r9 h10 ?_
  refine go_aload_n (pc := 46) X 0 dX0_run_46 rfl rfl ?_
  obtain ⟨S23, h24, h⟩ := bind_some h
  refine go_callVv (pc := 47) X 0 [] (ct_X0_runClock ho h24) (shA ho) rfl gg_X0_56 hd_X0_runClock ⟨Nat.le_of_ble_eq_true rfl, Nat.le_of_ble_eq_true rfl⟩ rfl rfl (Nat.le_of_ble_eq_true rfl) dX0_run_47 ?_
  refine go_aload_n (pc := 50) X 0 dX0_run_50 rfl rfl ?_
  refine go_aload_n (pc := 51) X 0 dX0_run_51 rfl rfl ?_
  refine go_get (pc := 52) X (fk := 2) (fi := 2) rfl (shA ho) rfl inT_X0 (by decide) fL_X0_22 rfl dX0_run_52 ?_
  obtain ⟨S25, e26, h⟩ := wrk_some h
  refine go_putE (pc := 55) X (fk := 3) (fi := 3) rfl e26 (shA ho) rfl inT_X0 tyX0_ok nmX0 (by decide) fL_X0_25 rfl rfl rfl rfl rfl dX0_run_55 ?_
  refine go_iconst (pc := 58) X dX0_run_58 ?_
  refine go_istore_n (pc := 59) X [1, 0] (Ls' := [(0, .ref (ad th)), (1, .int (i32 0))]) dX0_run_59 rfl (by decide) rfl ?_
  obtain ⟨r31, h32, h⟩ := bind_some h
  have H33 : ∀ (n : Nat) (t34 : Int × Mem) (z35 : Mem), lp (f_X0_run_l60 th) n t34 = some z35 → Go p l e { frames := 4, cells := 0, slots := 0, locals := 91 } s m args below meth c 2 D cI cB ad shsC A (MQ below (cQ D cI cB ad shsC (none) S' A) args s 0 0 A) 89 [(0, .ref (ad th))] [] z35 → Go p l e { frames := 4, cells := 0, slots := 0, locals := 91 } s m args below meth c 2 D cI cB ad shsC A (MQ below (cQ D cI cB ad shsC (none) S' A) args s 0 0 A) 60 [(0, .ref (ad th)), (1, .int (i32 t34.1))] [] t34.2 := by
    refine lp_go (fun t34 : Int × Mem => Go p l e { frames := 4, cells := 0, slots := 0, locals := 91 } s m args below meth c 2 D cI cB ad shsC A (MQ below (cQ D cI cB ad shsC (none) S' A) args s 0 0 A) 60 [(0, .ref (ad th)), (1, .int (i32 t34.1))] [] t34.2) (fun z35 : Mem => Go p l e { frames := 4, cells := 0, slots := 0, locals := 91 } s m args below meth c 2 D cI cB ad shsC A (MQ below (cQ D cI cB ad shsC (none) S' A) args s 0 0 A) 89 [(0, .ref (ad th))] [] z35) ?_
    intro t34 x36 h hx37
    unfold f_X0_run_l60 at h
    refine go_iload_n (pc := 60) X 1 dX0_run_60 rfl rfl ?_
    refine go_aload_n (pc := 61) X 0 dX0_run_61 rfl rfl ?_
    refine go_getr (pc := 62) X (fk := 0) (shA ho) rfl inT_X0 (by decide) fL_X0_12 rfl dX0_run_62 ?_
    refine go_get (pc := 65) X (fk := 2) (fi := 2) rfl (shB (auBk ho)) rfl inT_X1 (by decide) fL_X0_50 rfl dX0_run_65 ?_
    refine go_icmp_ge (pc := 68) X 89 dX0_run_68 rfl (fun c39 => ?_) (fun c39 => ?_)
    · rw [if_neg c39] at h
      refine go_pick [0] (Ls' := [(0, .ref (ad th))]) rfl ?_
      exact lp_back h hx37
    · rw [if_pos c39] at h
      refine go_aload_n (pc := 71) X 0 dX0_run_71 rfl rfl ?_
      refine go_getr (pc := 72) X (fk := 5) (shA ho) rfl inT_X0 (by decide) fL_X0_32 rfl dX0_run_72 ?_
      refine go_iload_n (pc := 75) X 1 dX0_run_75 rfl rfl ?_
      refine go_aload_n (pc := 76) X 0 dX0_run_76 rfl rfl ?_
      refine go_getr (pc := 77) X (fk := 4) (shA ho) rfl inT_X0 (by decide) fL_X0_28 rfl dX0_run_77 ?_
      refine go_iload_n (pc := 80) X 1 dX0_run_80 rfl rfl ?_
      obtain ⟨g40, h⟩ := gd_some h
      refine go_iald (pc := 81) X (shA7 ho) (Nat.le_of_ble_eq_true rfl) rfl g40 dX0_run_81 ?_
      obtain ⟨S41, e42, h⟩ := wrk_some h
      refine go_iastE (pc := 82) X e42 (shA8 ho) (Nat.le_of_ble_eq_true rfl) rfl g40 dX0_run_82 ?_
      refine go_iinc (pc := 83) X [1, 0] 1 (Ls' := [(0, .ref (ad th)), (1, .int (i32 (t34.1 + 1)))]) dX0_run_83 rfl (by decide) rfl ?_
      refine go_goto (pc := 86) X 60 dX0_run_86 rfl ?_
      exact lp_back h hx37
  refine H33 FU (0, S25) r31 h32 ?_
  refine go_aload_n (pc := 89) X 0 dX0_run_89 rfl rfl ?_
  obtain ⟨S43, h44, h⟩ := bind_some h
  refine go_callVv (pc := 90) X 0 [] (ct_X0_shareOut ho h44) (shA ho) rfl gg_X0_59 hd_X0_shareOut ⟨Nat.le_of_ble_eq_true rfl, Nat.le_of_ble_eq_true rfl⟩ rfl rfl (Nat.le_of_ble_eq_true rfl) dX0_run_90 ?_
  exact go_vret (pc := 93) X h dX0_run_93
set_option maxRecDepth 100000 in
set_option maxHeartbeats 4000000 in
theorem ct_X0_unitPrice {l : Launch} {D : va_G} {cI cB : ClassId} {Z : (Nat → Nat) × (Nat → Nat)} {ad : Nat → Nat} {S : Mem} {th : Nat} {a1 : Int} {a2 : Int} {r : Int} (ho : isAu th) (h : f_X0_unitPrice S th a1 a2 = some r) : Ctr l D cI cB Z ad shsC yX0_unitPrice cX0_unitPrice 3 (some .int) 0 0 [.ref (ad th), .int (i32 a1), .int (i32 a2)] S (some (.int (i32 r))) S := by
  refine ctr_of (by decide +kernel) (Nat.le_of_ble_eq_true rfl) rfl ?_
  intro p e s m args below meth c A X
  unfold f_X0_unitPrice at h
  refine go_aload_n (pc := 0) X 0 dX0_unitPrice_0 rfl rfl ?_
  refine go_getr (pc := 1) X (fk := 6) (shA ho) rfl inT_X0 (by decide) fL_X0_35 rfl dX0_unitPrice_1 ?_
  refine go_iload_n (pc := 4) X 1 dX0_unitPrice_4 rfl rfl ?_
  refine go_bipush (pc := 5) X dX0_unitPrice_5 (by decide) (by decide) ?_
  refine go_imul (pc := 7) X dX0_unitPrice_7 ?_
  refine go_iload_n (pc := 8) X 2 dX0_unitPrice_8 rfl rfl ?_
  refine go_iadd (pc := 9) X dX0_unitPrice_9 ?_
  obtain ⟨g1, h⟩ := gd_some h
  refine go_iald (pc := 10) X (shA9 ho) (Nat.le_of_ble_eq_true rfl) rfl g1 dX0_unitPrice_10 ?_
  exact go_iretP (pc := 11) X h dX0_unitPrice_11
set_option maxRecDepth 100000 in
set_option maxHeartbeats 4000000 in
theorem ct_X0_sumOfPrices {l : Launch} {D : va_G} {cI cB : ClassId} {Z : (Nat → Nat) × (Nat → Nat)} {ad : Nat → Nat} {S : Mem} {th : Nat} {a1 : Int} {r : Int} (ho : isAu th) (h : f_X0_sumOfPrices S th a1 = some r) : Ctr l D cI cB Z ad shsC yX0_sumOfPrices cX0_sumOfPrices 4 (some .int) 1 22 [.ref (ad th), .int (i32 a1)] S (some (.int (i32 r))) S := by
  refine ctr_of (by decide +kernel) (Nat.le_of_ble_eq_true rfl) rfl ?_
  intro p e s m args below meth c A X
  unfold f_X0_sumOfPrices at h
  refine go_iconst (pc := 0) X dX0_sumOfPrices_0 ?_
  refine go_istore_n (pc := 1) X [1, 2, 0] (Ls' := [(0, .ref (ad th)), (1, .int (i32 a1)), (2, .int (i32 0))]) dX0_sumOfPrices_1 rfl (by decide) rfl ?_
  refine go_iconst (pc := 2) X dX0_sumOfPrices_2 ?_
  refine go_istore_n (pc := 3) X [1, 2, 3, 0] (Ls' := [(0, .ref (ad th)), (1, .int (i32 a1)), (2, .int (i32 0)), (3, .int (i32 0))]) dX0_sumOfPrices_3 rfl (by decide) rfl ?_
  obtain ⟨r5, h6, h⟩ := bind_some h
  have H7 : ∀ (n : Nat) (t8 : Int × Int) (z9 : Int), lp (f_X0_sumOfPrices_l4 S th a1) n t8 = some z9 → Go p l e { frames := 1, cells := 0, slots := 0, locals := 22 } s m args below meth c 4 D cI cB ad shsC A (MQ below (cQ D cI cB ad shsC (some (.int (i32 r))) S A) args s 0 0 A) 29 [(2, .int (i32 z9))] [] S → Go p l e { frames := 1, cells := 0, slots := 0, locals := 22 } s m args below meth c 4 D cI cB ad shsC A (MQ below (cQ D cI cB ad shsC (some (.int (i32 r))) S A) args s 0 0 A) 4 [(0, .ref (ad th)), (1, .int (i32 a1)), (2, .int (i32 t8.1)), (3, .int (i32 t8.2))] [] S := by
    refine lp_go (fun t8 : Int × Int => Go p l e { frames := 1, cells := 0, slots := 0, locals := 22 } s m args below meth c 4 D cI cB ad shsC A (MQ below (cQ D cI cB ad shsC (some (.int (i32 r))) S A) args s 0 0 A) 4 [(0, .ref (ad th)), (1, .int (i32 a1)), (2, .int (i32 t8.1)), (3, .int (i32 t8.2))] [] S) (fun z9 : Int => Go p l e { frames := 1, cells := 0, slots := 0, locals := 22 } s m args below meth c 4 D cI cB ad shsC A (MQ below (cQ D cI cB ad shsC (some (.int (i32 r))) S A) args s 0 0 A) 29 [(2, .int (i32 z9))] [] S) ?_
    intro t8 x10 h hx11
    unfold f_X0_sumOfPrices_l4 at h
    refine go_iload_n (pc := 4) X 3 dX0_sumOfPrices_4 rfl rfl ?_
    refine go_aload_n (pc := 5) X 0 dX0_sumOfPrices_5 rfl rfl ?_
    refine go_getr (pc := 6) X (fk := 4) (shA ho) rfl inT_X0 (by decide) fL_X0_28 rfl dX0_sumOfPrices_6 ?_
    refine go_iload_n (pc := 9) X 1 dX0_sumOfPrices_9 rfl rfl ?_
    obtain ⟨g13, h⟩ := gd_some h
    refine go_iald (pc := 10) X (shA7 ho) (Nat.le_of_ble_eq_true rfl) rfl g13 dX0_sumOfPrices_10 ?_
    refine go_icmp_ge (pc := 11) X 29 dX0_sumOfPrices_11 rfl (fun c14 => ?_) (fun c14 => ?_)
    · rw [if_neg c14] at h
      refine go_pick [2] (Ls' := [(2, .int (i32 t8.1))]) rfl ?_
      exact lp_back h hx11
    · rw [if_pos c14] at h
      refine go_iload_n (pc := 14) X 2 dX0_sumOfPrices_14 rfl rfl ?_
      refine go_aload_n (pc := 15) X 0 dX0_sumOfPrices_15 rfl rfl ?_
      refine go_iload_n (pc := 16) X 1 dX0_sumOfPrices_16 rfl rfl ?_
      refine go_iload_n (pc := 17) X 3 dX0_sumOfPrices_17 rfl rfl ?_
      obtain ⟨r15, h16, h⟩ := bind_some h
      refine go_callVi (pc := 18) X 2 [.int (i32 t8.1)] (ct_X0_unitPrice ho h16) (shA ho) rfl gg_X0_104 hd_X0_unitPrice ⟨Nat.le_of_ble_eq_true rfl, Nat.le_of_ble_eq_true rfl⟩ rfl rfl (Nat.le_of_ble_eq_true rfl) dX0_sumOfPrices_18 ?_
      refine go_iadd (pc := 21) X dX0_sumOfPrices_21 ?_
      refine go_istore_n (pc := 22) X [1, 2, 0, 3] (Ls' := [(0, .ref (ad th)), (1, .int (i32 a1)), (2, .int (i32 (t8.1 + r15))), (3, .int (i32 t8.2))]) dX0_sumOfPrices_22 rfl (by decide) rfl ?_
      refine go_iinc (pc := 23) X [1, 2, 3, 0] 3 (Ls' := [(0, .ref (ad th)), (1, .int (i32 a1)), (2, .int (i32 (t8.1 + r15))), (3, .int (i32 (t8.2 + 1)))]) dX0_sumOfPrices_23 rfl (by decide) rfl ?_
      refine go_goto (pc := 26) X 4 dX0_sumOfPrices_26 rfl ?_
      exact lp_back h hx11
  refine H7 FU (0, 0) r5 h6 ?_
  refine go_iload_n (pc := 29) X 0 dX0_sumOfPrices_29 rfl rfl ?_
  exact go_iretP (pc := 30) X h dX0_sumOfPrices_30
set_option maxRecDepth 100000 in
set_option maxHeartbeats 4000000 in
theorem ct_X0_valueOfUnits {l : Launch} {D : va_G} {cI cB : ClassId} {Z : (Nat → Nat) × (Nat → Nat)} {ad : Nat → Nat} {S : Mem} {th : Nat} {a1 : Int} {r : Int} (ho : isAu th) (h : f_X0_valueOfUnits S th a1 = some r) : Ctr l D cI cB Z ad shsC yX0_valueOfUnits cX0_valueOfUnits 2 (some .int) 2 46 [.ref (ad th), .int (i32 a1)] S (some (.int (i32 r))) S := by
  refine ctr_of (by decide +kernel) (Nat.le_of_ble_eq_true rfl) rfl ?_
  intro p e s m args below meth c A X
  unfold f_X0_valueOfUnits at h
  refine go_aload_n (pc := 0) X 0 dX0_valueOfUnits_0 rfl rfl ?_
  refine go_getr (pc := 1) X (fk := 0) (shA ho) rfl inT_X0 (by decide) fL_X0_12 rfl dX0_valueOfUnits_1 ?_
  refine go_iload_n (pc := 4) X 1 dX0_valueOfUnits_4 rfl rfl ?_
  refine go_aload_n (pc := 5) X 0 dX0_valueOfUnits_5 rfl rfl ?_
  refine go_getr (pc := 6) X (fk := 4) (shA ho) rfl inT_X0 (by decide) fL_X0_28 rfl dX0_valueOfUnits_6 ?_
  refine go_iload_n (pc := 9) X 1 dX0_valueOfUnits_9 rfl rfl ?_
  obtain ⟨g1, h⟩ := gd_some h
  refine go_iald (pc := 10) X (shA7 ho) (Nat.le_of_ble_eq_true rfl) rfl g1 dX0_valueOfUnits_10 ?_
  obtain ⟨r2, h3, h⟩ := bind_some h
  refine go_callVi (pc := 11) X 2 [] (ct_X1_sumOfFirst (auBk ho) h3) (shB (auBk ho)) rfl gg_X0_101 hd_X1_sumOfFirst ⟨Nat.le_of_ble_eq_true rfl, Nat.le_of_ble_eq_true rfl⟩ rfl rfl (Nat.le_of_ble_eq_true rfl) dX0_valueOfUnits_11 ?_
  exact go_iretP (pc := 14) X h dX0_valueOfUnits_14
set_option maxRecDepth 100000 in
set_option maxHeartbeats 4000000 in
theorem ct_X0_valueOfAllUnits {l : Launch} {D : va_G} {cI cB : ClassId} {Z : (Nat → Nat) × (Nat → Nat)} {ad : Nat → Nat} {S : Mem} {th : Nat} {r : Int} (ho : isAu th) (h : f_X0_valueOfAllUnits S th = some r) : Ctr l D cI cB Z ad shsC yX0_valueOfAllUnits cX0_valueOfAllUnits 3 (some .int) 2 46 [.ref (ad th)] S (some (.int (i32 r))) S := by
  refine ctr_of (by decide +kernel) (Nat.le_of_ble_eq_true rfl) rfl ?_
  intro p e s m args below meth c A X
  unfold f_X0_valueOfAllUnits at h
  refine go_iconst (pc := 0) X dX0_valueOfAllUnits_0 ?_
  refine go_istore_n (pc := 1) X [1, 0] (Ls' := [(0, .ref (ad th)), (1, .int (i32 0))]) dX0_valueOfAllUnits_1 rfl (by decide) rfl ?_
  refine go_iconst (pc := 2) X dX0_valueOfAllUnits_2 ?_
  refine go_istore_n (pc := 3) X [1, 2, 0] (Ls' := [(0, .ref (ad th)), (1, .int (i32 0)), (2, .int (i32 0))]) dX0_valueOfAllUnits_3 rfl (by decide) rfl ?_
  obtain ⟨r5, h6, h⟩ := bind_some h
  have H7 : ∀ (n : Nat) (t8 : Int × Int) (z9 : Int), lp (f_X0_valueOfAllUnits_l4 S th) n t8 = some z9 → Go p l e { frames := 2, cells := 0, slots := 0, locals := 46 } s m args below meth c 3 D cI cB ad shsC A (MQ below (cQ D cI cB ad shsC (some (.int (i32 r))) S A) args s 0 0 A) 38 [(1, .int (i32 z9))] [] S → Go p l e { frames := 2, cells := 0, slots := 0, locals := 46 } s m args below meth c 3 D cI cB ad shsC A (MQ below (cQ D cI cB ad shsC (some (.int (i32 r))) S A) args s 0 0 A) 4 [(0, .ref (ad th)), (1, .int (i32 t8.1)), (2, .int (i32 t8.2))] [] S := by
    refine lp_go (fun t8 : Int × Int => Go p l e { frames := 2, cells := 0, slots := 0, locals := 46 } s m args below meth c 3 D cI cB ad shsC A (MQ below (cQ D cI cB ad shsC (some (.int (i32 r))) S A) args s 0 0 A) 4 [(0, .ref (ad th)), (1, .int (i32 t8.1)), (2, .int (i32 t8.2))] [] S) (fun z9 : Int => Go p l e { frames := 2, cells := 0, slots := 0, locals := 46 } s m args below meth c 3 D cI cB ad shsC A (MQ below (cQ D cI cB ad shsC (some (.int (i32 r))) S A) args s 0 0 A) 38 [(1, .int (i32 z9))] [] S) ?_
    intro t8 x10 h hx11
    unfold f_X0_valueOfAllUnits_l4 at h
    refine go_iload_n (pc := 4) X 2 dX0_valueOfAllUnits_4 rfl rfl ?_
    refine go_aload_n (pc := 5) X 0 dX0_valueOfAllUnits_5 rfl rfl ?_
    refine go_getr (pc := 6) X (fk := 0) (shA ho) rfl inT_X0 (by decide) fL_X0_12 rfl dX0_valueOfAllUnits_6 ?_
    refine go_get (pc := 9) X (fk := 2) (fi := 2) rfl (shB (auBk ho)) rfl inT_X1 (by decide) fL_X0_50 rfl dX0_valueOfAllUnits_9 ?_
    refine go_icmp_ge (pc := 12) X 38 dX0_valueOfAllUnits_12 rfl (fun c13 => ?_) (fun c13 => ?_)
    · rw [if_neg c13] at h
      refine go_pick [1] (Ls' := [(1, .int (i32 t8.1))]) rfl ?_
      exact lp_back h hx11
    · rw [if_pos c13] at h
      refine go_iload_n (pc := 15) X 1 dX0_valueOfAllUnits_15 rfl rfl ?_
      refine go_aload_n (pc := 16) X 0 dX0_valueOfAllUnits_16 rfl rfl ?_
      refine go_getr (pc := 17) X (fk := 0) (shA ho) rfl inT_X0 (by decide) fL_X0_12 rfl dX0_valueOfAllUnits_17 ?_
      refine go_iload_n (pc := 20) X 2 dX0_valueOfAllUnits_20 rfl rfl ?_
      refine go_aload_n (pc := 21) X 0 dX0_valueOfAllUnits_21 rfl rfl ?_
      refine go_getr (pc := 22) X (fk := 4) (shA ho) rfl inT_X0 (by decide) fL_X0_28 rfl dX0_valueOfAllUnits_22 ?_
      refine go_iload_n (pc := 25) X 2 dX0_valueOfAllUnits_25 rfl rfl ?_
      obtain ⟨g14, h⟩ := gd_some h
      refine go_iald (pc := 26) X (shA7 ho) (Nat.le_of_ble_eq_true rfl) rfl g14 dX0_valueOfAllUnits_26 ?_
      obtain ⟨r15, h16, h⟩ := bind_some h
      refine go_callVi (pc := 27) X 2 [.int (i32 t8.1)] (ct_X1_sumOfFirst (auBk ho) h16) (shB (auBk ho)) rfl gg_X0_101 hd_X1_sumOfFirst ⟨Nat.le_of_ble_eq_true rfl, Nat.le_of_ble_eq_true rfl⟩ rfl rfl (Nat.le_of_ble_eq_true rfl) dX0_valueOfAllUnits_27 ?_
      refine go_iadd (pc := 30) X dX0_valueOfAllUnits_30 ?_
      refine go_istore_n (pc := 31) X [1, 0, 2] (Ls' := [(0, .ref (ad th)), (1, .int (i32 (t8.1 + r15))), (2, .int (i32 t8.2))]) dX0_valueOfAllUnits_31 rfl (by decide) rfl ?_
      refine go_iinc (pc := 32) X [1, 2, 0] 2 (Ls' := [(0, .ref (ad th)), (1, .int (i32 (t8.1 + r15))), (2, .int (i32 (t8.2 + 1)))]) dX0_valueOfAllUnits_32 rfl (by decide) rfl ?_
      refine go_goto (pc := 35) X 4 dX0_valueOfAllUnits_35 rfl ?_
      exact lp_back h hx11
  refine H7 FU (0, 0) r5 h6 ?_
  refine go_iload_n (pc := 38) X 0 dX0_valueOfAllUnits_38 rfl rfl ?_
  exact go_iretP (pc := 39) X h dX0_valueOfAllUnits_39
set_option maxRecDepth 100000 in
set_option maxHeartbeats 4000000 in
theorem ct_X0_unsold {l : Launch} {D : va_G} {cI cB : ClassId} {Z : (Nat → Nat) × (Nat → Nat)} {ad : Nat → Nat} {S : Mem} {th : Nat} {r : Int} (ho : isAu th) (h : f_X0_unsold S th = some r) : Ctr l D cI cB Z ad shsC yX0_unsold cX0_unsold 1 (some .int) 0 0 [.ref (ad th)] S (some (.int (i32 r))) S := by
  refine ctr_of (by decide +kernel) (Nat.le_of_ble_eq_true rfl) rfl ?_
  intro p e s m args below meth c A X
  unfold f_X0_unsold at h
  refine go_aload_n (pc := 0) X 0 dX0_unsold_0 rfl rfl ?_
  refine go_getr (pc := 1) X (fk := 0) (shA ho) rfl inT_X0 (by decide) fL_X0_12 rfl dX0_unsold_1 ?_
  refine go_get (pc := 4) X (fk := 0) (fi := 0) rfl (shB (auBk ho)) rfl inT_X1 (by decide) fL_X0_73 rfl dX0_unsold_4 ?_
  refine go_aload_n (pc := 7) X 0 dX0_unsold_7 rfl rfl ?_
  refine go_get (pc := 8) X (fk := 2) (fi := 2) rfl (shA ho) rfl inT_X0 (by decide) fL_X0_22 rfl dX0_unsold_8 ?_
  refine go_isub (pc := 11) X dX0_unsold_11 ?_
  exact go_iretP (pc := 12) X h dX0_unsold_12
set_option maxRecDepth 100000 in
set_option maxHeartbeats 4000000 in
theorem ct_X0_harmBy {l : Launch} {D : va_G} {cI cB : ClassId} {Z : (Nat → Nat) × (Nat → Nat)} {ad : Nat → Nat} {S : Mem} {th : Nat} {a1 : Int} {r : Int} {S' : Mem} (ho : isAu th) (h : f_X0_harmBy S th a1 = some (r, S')) : Ctr l D cI cB Z ad shsC yX0_harmBy cX0_harmBy 4 (some .int) 3 71 [.ref (ad th), .int (i32 a1)] S (some (.int (i32 r))) S' := by
  refine ctr_of (by decide +kernel) (Nat.le_of_ble_eq_true rfl) rfl ?_
  intro p e s m args below meth c A X
  unfold f_X0_harmBy at h
  refine go_aload_n (pc := 0) X 0 dX0_harmBy_0 rfl rfl ?_
  refine go_getr (pc := 1) X (fk := 0) (shA ho) rfl inT_X0 (by decide) fL_X0_12 rfl dX0_harmBy_1 ?_
  obtain ⟨r1, h2, h⟩ := bind_some h
  refine go_callVi (pc := 4) X 0 [] (ct_X1_everyone (auBk ho) h2) (shB (auBk ho)) rfl gg_X0_122 hd_X1_everyone ⟨Nat.le_of_ble_eq_true rfl, Nat.le_of_ble_eq_true rfl⟩ rfl rfl (Nat.le_of_ble_eq_true rfl) dX0_harmBy_4 ?_
  refine go_iconst (pc := 7) X dX0_harmBy_7 ?_
  refine go_iload_n (pc := 8) X 1 dX0_harmBy_8 rfl rfl ?_
  refine go_ishl (pc := 9) X dX0_harmBy_9 ?_
  refine go_iconst (pc := 10) X dX0_harmBy_10 ?_
  refine go_ixor (pc := 11) X dX0_harmBy_11 ?_
  refine go_iand (pc := 12) X dX0_harmBy_12 ?_
  refine go_istore_n (pc := 13) X [1, 2, 0] (Ls' := [(0, .ref (ad th)), (1, .int (i32 a1)), (2, .int (i32 (andb r1 (xorb (shlb 1 a1) (-1)))))]) dX0_harmBy_13 rfl (by decide) rfl ?_
  refine go_aload_n (pc := 14) X 0 dX0_harmBy_14 rfl rfl ?_
  obtain ⟨r3, h4, h⟩ := bind_some h
  refine go_callVi (pc := 15) X 0 [] (ct_X0_valueOfAllUnits ho h4) (shA ho) rfl gg_X0_125 hd_X0_valueOfAllUnits ⟨Nat.le_of_ble_eq_true rfl, Nat.le_of_ble_eq_true rfl⟩ rfl rfl (Nat.le_of_ble_eq_true rfl) dX0_harmBy_15 ?_
  refine go_aload_n (pc := 18) X 0 dX0_harmBy_18 rfl rfl ?_
  refine go_iload_n (pc := 19) X 1 dX0_harmBy_19 rfl rfl ?_
  obtain ⟨r5, h6, h⟩ := bind_some h
  refine go_callVi (pc := 20) X 1 [.int (i32 r3)] (ct_X0_valueOfUnits ho h6) (shA ho) rfl gg_X0_116 hd_X0_valueOfUnits ⟨Nat.le_of_ble_eq_true rfl, Nat.le_of_ble_eq_true rfl⟩ rfl rfl (Nat.le_of_ble_eq_true rfl) dX0_harmBy_20 ?_
  refine go_isub (pc := 23) X dX0_harmBy_23 ?_
  refine go_istore_n (pc := 24) X [1, 2, 3, 0] (Ls' := [(0, .ref (ad th)), (1, .int (i32 a1)), (2, .int (i32 (andb r1 (xorb (shlb 1 a1) (-1))))), (3, .int (i32 (r3 - r5)))]) dX0_harmBy_24 rfl (by decide) rfl ?_
  refine go_aload_n (pc := 25) X 0 dX0_harmBy_25 rfl rfl ?_
  refine go_getr (pc := 26) X (fk := 0) (shA ho) rfl inT_X0 (by decide) fL_X0_12 rfl dX0_harmBy_26 ?_
  refine go_iload_n (pc := 29) X 2 dX0_harmBy_29 rfl rfl ?_
  refine go_aload_n (pc := 30) X 0 dX0_harmBy_30 rfl rfl ?_
  refine go_getr (pc := 31) X (fk := 0) (shA ho) rfl inT_X0 (by decide) fL_X0_12 rfl dX0_harmBy_31 ?_
  refine go_get (pc := 34) X (fk := 0) (fi := 0) rfl (shB (auBk ho)) rfl inT_X1 (by decide) fL_X0_73 rfl dX0_harmBy_34 ?_
  obtain ⟨u7, h8, h⟩ := bind_some h
  refine go_callVi (pc := 37) X 2 [] (ct_X1_worthTo (auBk ho) h8) (shB (auBk ho)) rfl gg_X0_128 hd_X1_worthTo ⟨Nat.le_of_ble_eq_true rfl, Nat.le_of_ble_eq_true rfl⟩ rfl rfl (Nat.le_of_ble_eq_true rfl) dX0_harmBy_37 ?_
  refine go_iload_n (pc := 40) X 3 dX0_harmBy_40 rfl rfl ?_
  refine go_isub (pc := 41) X dX0_harmBy_41 ?_
  refine go_aload_n (pc := 42) X 0 dX0_harmBy_42 rfl rfl ?_
  refine go_getr (pc := 43) X (fk := 0) (shA ho) rfl inT_X0 (by decide) fL_X0_12 rfl dX0_harmBy_43 ?_
  refine go_get (pc := 46) X (fk := 1) (fi := 1) rfl (shB (auBk ho)) rfl inT_X1 (by decide) fL_X0_62 rfl dX0_harmBy_46 ?_
  refine go_aload_n (pc := 49) X 0 dX0_harmBy_49 rfl rfl ?_
  obtain ⟨r9, h10, h⟩ := bind_some h
  refine go_callVi (pc := 50) X 0 [.int (i32 (u7.2 (th + 1) 1)), .int (i32 (u7.1 - (r3 - r5)))] (ct_X0_unsold ho h10) (shA ho) rfl gg_X0_131 hd_X0_unsold ⟨Nat.le_of_ble_eq_true rfl, Nat.le_of_ble_eq_true rfl⟩ rfl rfl (Nat.le_of_ble_eq_true rfl) dX0_harmBy_50 ?_
  refine go_imul (pc := 53) X dX0_harmBy_53 ?_
  refine go_isub (pc := 54) X dX0_harmBy_54 ?_
  exact go_iret (pc := 55) X h dX0_harmBy_55
set_option maxRecDepth 100000 in
set_option maxHeartbeats 4000000 in
theorem ct_X0_payment {l : Launch} {D : va_G} {cI cB : ClassId} {Z : (Nat → Nat) × (Nat → Nat)} {ad : Nat → Nat} {S : Mem} {th : Nat} {a1 : Int} {a2 : Int} {r : Int} {S' : Mem} (ho : isAu th) (h : f_X0_payment S th a1 a2 = some (r, S')) : Ctr l D cI cB Z ad shsC yX0_payment cX0_payment 3 (some .int) 4 94 [.ref (ad th), .int (i32 a1), .int (i32 a2)] S (some (.int (i32 r))) S' := by
  refine ctr_of (by decide +kernel) (Nat.le_of_ble_eq_true rfl) rfl ?_
  intro p e s m args below meth c A X
  unfold f_X0_payment at h
  refine go_iload_n (pc := 0) X 2 dX0_payment_0 rfl rfl ?_
  by_cases c1 : eqb a2 0 = true
  · rw [if_pos c1] at h
    refine go_tab (pc := 1) X 28 dX0_payment_1 c1 ⟨by decide, by decide⟩ ⟨by decide, by decide⟩ rfl rfl ?_
    refine go_aload_n (pc := 28) X 0 dX0_payment_28 rfl rfl ?_
    refine go_iload_n (pc := 29) X 1 dX0_payment_29 rfl rfl ?_
    obtain ⟨r2, h3, h⟩ := bind_some h
    refine go_callVi (pc := 30) X 1 [] (ct_X0_sumOfPrices ho h3) (shA ho) rfl gg_X0_113 hd_X0_sumOfPrices ⟨Nat.le_of_ble_eq_true rfl, Nat.le_of_ble_eq_true rfl⟩ rfl rfl (Nat.le_of_ble_eq_true rfl) dX0_payment_30 ?_
    exact go_iret (pc := 33) X h dX0_payment_33
  · rw [if_neg c1] at h
    by_cases c4 : eqb a2 1 = true
    · rw [if_pos c4] at h
      refine go_tab (pc := 1) X 34 dX0_payment_1 c4 ⟨by decide, by decide⟩ ⟨by decide, by decide⟩ rfl rfl ?_
      refine go_aload_n (pc := 34) X 0 dX0_payment_34 rfl rfl ?_
      refine go_get (pc := 35) X (fk := 1) (fi := 1) rfl (shA ho) rfl inT_X0 (by decide) fL_X0_18 rfl dX0_payment_35 ?_
      refine go_aload_n (pc := 38) X 0 dX0_payment_38 rfl rfl ?_
      refine go_getr (pc := 39) X (fk := 4) (shA ho) rfl inT_X0 (by decide) fL_X0_28 rfl dX0_payment_39 ?_
      refine go_iload_n (pc := 42) X 1 dX0_payment_42 rfl rfl ?_
      obtain ⟨g5, h⟩ := gd_some h
      refine go_iald (pc := 43) X (shA7 ho) (Nat.le_of_ble_eq_true rfl) rfl g5 dX0_payment_43 ?_
      refine go_imul (pc := 44) X dX0_payment_44 ?_
      exact go_iret (pc := 45) X h dX0_payment_45
    · rw [if_neg c4] at h
      by_cases c6 : eqb a2 2 = true
      · rw [if_pos c6] at h
        refine go_tab (pc := 1) X 46 dX0_payment_1 c6 ⟨by decide, by decide⟩ ⟨by decide, by decide⟩ rfl rfl ?_
        refine go_aload_n (pc := 46) X 0 dX0_payment_46 rfl rfl ?_
        refine go_iload_n (pc := 47) X 1 dX0_payment_47 rfl rfl ?_
        obtain ⟨r7, h8, h⟩ := bind_some h
        refine go_callVi (pc := 48) X 1 [] (ct_X0_valueOfUnits ho h8) (shA ho) rfl gg_X0_116 hd_X0_valueOfUnits ⟨Nat.le_of_ble_eq_true rfl, Nat.le_of_ble_eq_true rfl⟩ rfl rfl (Nat.le_of_ble_eq_true rfl) dX0_payment_48 ?_
        exact go_iret (pc := 51) X h dX0_payment_51
      · rw [if_neg c6] at h
        have nc1 : ¬ (0 : Int) = (i32 a2).toInt := fun z => c1 ((eqb_toInt (by decide) (by decide)).mpr z.symm)
        have nc4 : ¬ (1 : Int) = (i32 a2).toInt := fun z => c4 ((eqb_toInt (by decide) (by decide)).mpr z.symm)
        have nc6 : ¬ (2 : Int) = (i32 a2).toInt := fun z => c6 ((eqb_toInt (by decide) (by decide)).mpr z.symm)
        refine go_tabx (pc := 1) X 52 dX0_payment_1 (by omega) rfl ?_
        refine go_aload_n (pc := 52) X 0 dX0_payment_52 rfl rfl ?_
        refine go_iload_n (pc := 53) X 1 dX0_payment_53 rfl rfl ?_
        obtain ⟨u9, h10, h⟩ := bind_some h
        refine go_callVi (pc := 54) X 1 [] (ct_X0_harmBy ho h10) (shA ho) rfl gg_X0_119 hd_X0_harmBy ⟨Nat.le_of_ble_eq_true rfl, Nat.le_of_ble_eq_true rfl⟩ rfl rfl (Nat.le_of_ble_eq_true rfl) dX0_payment_54 ?_
        exact go_iret (pc := 57) X h dX0_payment_57
set_option maxRecDepth 100000 in
set_option maxHeartbeats 4000000 in
theorem ct_X0_paidByAll {l : Launch} {D : va_G} {cI cB : ClassId} {Z : (Nat → Nat) × (Nat → Nat)} {ad : Nat → Nat} {S : Mem} {th : Nat} {a1 : Int} {r : Int} {S' : Mem} (ho : isAu th) (h : f_X0_paidByAll S th a1 = some (r, S')) : Ctr l D cI cB Z ad shsC yX0_paidByAll cX0_paidByAll 4 (some .int) 5 116 [.ref (ad th), .int (i32 a1)] S (some (.int (i32 r))) S' := by
  refine ctr_of (by decide +kernel) (Nat.le_of_ble_eq_true rfl) rfl ?_
  intro p e s m args below meth c A X
  unfold f_X0_paidByAll at h
  refine go_iconst (pc := 0) X dX0_paidByAll_0 ?_
  refine go_istore_n (pc := 1) X [1, 2, 0] (Ls' := [(0, .ref (ad th)), (1, .int (i32 a1)), (2, .int (i32 0))]) dX0_paidByAll_1 rfl (by decide) rfl ?_
  refine go_iconst (pc := 2) X dX0_paidByAll_2 ?_
  refine go_istore_n (pc := 3) X [1, 2, 3, 0] (Ls' := [(0, .ref (ad th)), (1, .int (i32 a1)), (2, .int (i32 0)), (3, .int (i32 0))]) dX0_paidByAll_3 rfl (by decide) rfl ?_
  obtain ⟨r4, h5, h⟩ := bind_some h
  have H6 : ∀ (n : Nat) (t7 : Int × Int × Mem) (z8 : Int × Mem), lp (f_X0_paidByAll_l4 th a1) n t7 = some z8 → Go p l e { frames := 5, cells := 0, slots := 0, locals := 116 } s m args below meth c 4 D cI cB ad shsC A (MQ below (cQ D cI cB ad shsC (some (.int (i32 r))) S' A) args s 0 0 A) 30 [(2, .int (i32 z8.1))] [] z8.2 → Go p l e { frames := 5, cells := 0, slots := 0, locals := 116 } s m args below meth c 4 D cI cB ad shsC A (MQ below (cQ D cI cB ad shsC (some (.int (i32 r))) S' A) args s 0 0 A) 4 [(0, .ref (ad th)), (1, .int (i32 a1)), (2, .int (i32 t7.1)), (3, .int (i32 t7.2.1))] [] t7.2.2 := by
    refine lp_go (fun t7 : Int × Int × Mem => Go p l e { frames := 5, cells := 0, slots := 0, locals := 116 } s m args below meth c 4 D cI cB ad shsC A (MQ below (cQ D cI cB ad shsC (some (.int (i32 r))) S' A) args s 0 0 A) 4 [(0, .ref (ad th)), (1, .int (i32 a1)), (2, .int (i32 t7.1)), (3, .int (i32 t7.2.1))] [] t7.2.2) (fun z8 : Int × Mem => Go p l e { frames := 5, cells := 0, slots := 0, locals := 116 } s m args below meth c 4 D cI cB ad shsC A (MQ below (cQ D cI cB ad shsC (some (.int (i32 r))) S' A) args s 0 0 A) 30 [(2, .int (i32 z8.1))] [] z8.2) ?_
    intro t7 x9 h hx10
    unfold f_X0_paidByAll_l4 at h
    refine go_iload_n (pc := 4) X 3 dX0_paidByAll_4 rfl rfl ?_
    refine go_aload_n (pc := 5) X 0 dX0_paidByAll_5 rfl rfl ?_
    refine go_getr (pc := 6) X (fk := 0) (shA ho) rfl inT_X0 (by decide) fL_X0_12 rfl dX0_paidByAll_6 ?_
    refine go_get (pc := 9) X (fk := 2) (fi := 2) rfl (shB (auBk ho)) rfl inT_X1 (by decide) fL_X0_50 rfl dX0_paidByAll_9 ?_
    refine go_icmp_ge (pc := 12) X 30 dX0_paidByAll_12 rfl (fun c12 => ?_) (fun c12 => ?_)
    · rw [if_neg c12] at h
      refine go_pick [2] (Ls' := [(2, .int (i32 t7.1))]) rfl ?_
      exact lp_back h hx10
    · rw [if_pos c12] at h
      refine go_iload_n (pc := 15) X 2 dX0_paidByAll_15 rfl rfl ?_
      refine go_aload_n (pc := 16) X 0 dX0_paidByAll_16 rfl rfl ?_
      refine go_iload_n (pc := 17) X 3 dX0_paidByAll_17 rfl rfl ?_
      refine go_iload_n (pc := 18) X 1 dX0_paidByAll_18 rfl rfl ?_
      obtain ⟨u13, h14, h⟩ := bind_some h
      refine go_callVi (pc := 19) X 2 [.int (i32 t7.1)] (ct_X0_payment ho h14) (shA ho) rfl gg_X0_134 hd_X0_payment ⟨Nat.le_of_ble_eq_true rfl, Nat.le_of_ble_eq_true rfl⟩ rfl rfl (Nat.le_of_ble_eq_true rfl) dX0_paidByAll_19 ?_
      refine go_iadd (pc := 22) X dX0_paidByAll_22 ?_
      refine go_istore_n (pc := 23) X [1, 2, 0, 3] (Ls' := [(0, .ref (ad th)), (1, .int (i32 a1)), (2, .int (i32 (t7.1 + u13.1))), (3, .int (i32 t7.2.1))]) dX0_paidByAll_23 rfl (by decide) rfl ?_
      refine go_iinc (pc := 24) X [1, 2, 3, 0] 3 (Ls' := [(0, .ref (ad th)), (1, .int (i32 a1)), (2, .int (i32 (t7.1 + u13.1))), (3, .int (i32 (t7.2.1 + 1)))]) dX0_paidByAll_24 rfl (by decide) rfl ?_
      refine go_goto (pc := 27) X 4 dX0_paidByAll_27 rfl ?_
      exact lp_back h hx10
  refine H6 FU (0, 0, S) r4 h5 ?_
  refine go_iload_n (pc := 30) X 0 dX0_paidByAll_30 rfl rfl ?_
  exact go_iret (pc := 31) X h dX0_paidByAll_31
set_option maxRecDepth 100000 in
set_option maxHeartbeats 4000000 in
theorem ct_X0_gainOf {l : Launch} {D : va_G} {cI cB : ClassId} {Z : (Nat → Nat) × (Nat → Nat)} {ad : Nat → Nat} {S : Mem} {th : Nat} {a1 : Int} {a2 : Int} {r : Int} {S' : Mem} (ho : isAu th) (h : f_X0_gainOf S th a1 a2 = some (r, S')) : Ctr l D cI cB Z ad shsC yX0_gainOf cX0_gainOf 3 (some .int) 5 116 [.ref (ad th), .int (i32 a1), .int (i32 a2)] S (some (.int (i32 r))) S' := by
  refine ctr_of (by decide +kernel) (Nat.le_of_ble_eq_true rfl) rfl ?_
  intro p e s m args below meth c A X
  unfold f_X0_gainOf at h
  refine go_aload_n (pc := 0) X 0 dX0_gainOf_0 rfl rfl ?_
  refine go_iload_n (pc := 1) X 1 dX0_gainOf_1 rfl rfl ?_
  obtain ⟨r1, h2, h⟩ := bind_some h
  refine go_callVi (pc := 2) X 1 [] (ct_X0_valueOfUnits ho h2) (shA ho) rfl gg_X0_116 hd_X0_valueOfUnits ⟨Nat.le_of_ble_eq_true rfl, Nat.le_of_ble_eq_true rfl⟩ rfl rfl (Nat.le_of_ble_eq_true rfl) dX0_gainOf_2 ?_
  refine go_aload_n (pc := 5) X 0 dX0_gainOf_5 rfl rfl ?_
  refine go_iload_n (pc := 6) X 1 dX0_gainOf_6 rfl rfl ?_
  refine go_iload_n (pc := 7) X 2 dX0_gainOf_7 rfl rfl ?_
  obtain ⟨u3, h4, h⟩ := bind_some h
  refine go_callVi (pc := 8) X 2 [.int (i32 r1)] (ct_X0_payment ho h4) (shA ho) rfl gg_X0_134 hd_X0_payment ⟨Nat.le_of_ble_eq_true rfl, Nat.le_of_ble_eq_true rfl⟩ rfl rfl (Nat.le_of_ble_eq_true rfl) dX0_gainOf_8 ?_
  refine go_isub (pc := 11) X dX0_gainOf_11 ?_
  exact go_iret (pc := 12) X h dX0_gainOf_12
set_option maxRecDepth 100000 in
set_option maxHeartbeats 4000000 in
theorem ct_X0_clinchedBy {l : Launch} {D : va_G} {cI cB : ClassId} {Z : (Nat → Nat) × (Nat → Nat)} {ad : Nat → Nat} {S : Mem} {th : Nat} {a1 : Int} {a2 : Int} {r : Int} (ho : isAu th) (h : f_X0_clinchedBy S th a1 a2 = some r) : Ctr l D cI cB Z ad shsC yX0_clinchedBy cX0_clinchedBy 4 (some .int) 1 22 [.ref (ad th), .int (i32 a1), .int (i32 a2)] S (some (.int (i32 r))) S := by
  refine ctr_of (by decide +kernel) (Nat.le_of_ble_eq_true rfl) rfl ?_
  intro p e s m args below meth c A X
  unfold f_X0_clinchedBy at h
  refine go_iconst (pc := 0) X dX0_clinchedBy_0 ?_
  refine go_istore_n (pc := 1) X [1, 2, 3, 0] (Ls' := [(0, .ref (ad th)), (1, .int (i32 a1)), (2, .int (i32 a2)), (3, .int (i32 0))]) dX0_clinchedBy_1 rfl (by decide) rfl ?_
  obtain ⟨r6, h7, h⟩ := bind_some h
  have H8 : ∀ (n : Nat) (t9 : Int) (z10 : Int), lp (f_X0_clinchedBy_l2 S th a1 a2) n t9 = some z10 → Go p l e { frames := 1, cells := 0, slots := 0, locals := 22 } s m args below meth c 4 D cI cB ad shsC A (MQ below (cQ D cI cB ad shsC (some (.int (i32 r))) S A) args s 0 0 A) 28 [(3, .int (i32 z10))] [] S → Go p l e { frames := 1, cells := 0, slots := 0, locals := 22 } s m args below meth c 4 D cI cB ad shsC A (MQ below (cQ D cI cB ad shsC (some (.int (i32 r))) S A) args s 0 0 A) 2 [(0, .ref (ad th)), (1, .int (i32 a1)), (2, .int (i32 a2)), (3, .int (i32 t9))] [] S := by
    refine lp_go (fun t9 : Int => Go p l e { frames := 1, cells := 0, slots := 0, locals := 22 } s m args below meth c 4 D cI cB ad shsC A (MQ below (cQ D cI cB ad shsC (some (.int (i32 r))) S A) args s 0 0 A) 2 [(0, .ref (ad th)), (1, .int (i32 a1)), (2, .int (i32 a2)), (3, .int (i32 t9))] [] S) (fun z10 : Int => Go p l e { frames := 1, cells := 0, slots := 0, locals := 22 } s m args below meth c 4 D cI cB ad shsC A (MQ below (cQ D cI cB ad shsC (some (.int (i32 r))) S A) args s 0 0 A) 28 [(3, .int (i32 z10))] [] S) ?_
    intro t9 x11 h hx12
    unfold f_X0_clinchedBy_l2 at h
    refine go_iload_n (pc := 2) X 3 dX0_clinchedBy_2 rfl rfl ?_
    refine go_aload_n (pc := 3) X 0 dX0_clinchedBy_3 rfl rfl ?_
    refine go_getr (pc := 4) X (fk := 5) (shA ho) rfl inT_X0 (by decide) fL_X0_32 rfl dX0_clinchedBy_4 ?_
    refine go_iload_n (pc := 7) X 1 dX0_clinchedBy_7 rfl rfl ?_
    obtain ⟨g14, h⟩ := gd_some h
    refine go_iald (pc := 8) X (shA8 ho) (Nat.le_of_ble_eq_true rfl) rfl g14 dX0_clinchedBy_8 ?_
    refine go_icmp_ge (pc := 9) X 28 dX0_clinchedBy_9 rfl (fun c15 => ?_) (fun c15 => ?_)
    · rw [if_neg c15] at h
      refine go_pick [3] (Ls' := [(3, .int (i32 t9))]) rfl ?_
      exact lp_back h hx12
    · rw [if_pos c15] at h
      refine go_aload_n (pc := 12) X 0 dX0_clinchedBy_12 rfl rfl ?_
      refine go_iload_n (pc := 13) X 1 dX0_clinchedBy_13 rfl rfl ?_
      refine go_iload_n (pc := 14) X 3 dX0_clinchedBy_14 rfl rfl ?_
      obtain ⟨r16, h17, h⟩ := bind_some h
      refine go_callVi (pc := 15) X 2 [] (ct_X0_unitPrice ho h17) (shA ho) rfl gg_X0_104 hd_X0_unitPrice ⟨Nat.le_of_ble_eq_true rfl, Nat.le_of_ble_eq_true rfl⟩ rfl rfl (Nat.le_of_ble_eq_true rfl) dX0_clinchedBy_15 ?_
      refine go_iload_n (pc := 18) X 2 dX0_clinchedBy_18 rfl rfl ?_
      refine go_icmp_gt (pc := 19) X 28 dX0_clinchedBy_19 rfl (fun c18 => ?_) (fun c18 => ?_)
      · rw [if_pos c18] at h
        refine go_pick [3] (Ls' := [(3, .int (i32 t9))]) rfl ?_
        exact lp_back h hx12
      · rw [if_neg c18] at h
        refine go_iinc (pc := 22) X [1, 2, 3, 0] 3 (Ls' := [(0, .ref (ad th)), (1, .int (i32 a1)), (2, .int (i32 a2)), (3, .int (i32 (t9 + 1)))]) dX0_clinchedBy_22 rfl (by decide) rfl ?_
        refine go_goto (pc := 25) X 2 dX0_clinchedBy_25 rfl ?_
        exact lp_back h hx12
  refine H8 FU 0 r6 h7 ?_
  refine go_iload_n (pc := 28) X 0 dX0_clinchedBy_28 rfl rfl ?_
  exact go_iretP (pc := 29) X h dX0_clinchedBy_29
set_option maxRecDepth 100000 in
set_option maxHeartbeats 4000000 in
theorem ct_X0_biddersWithUnits {l : Launch} {D : va_G} {cI cB : ClassId} {Z : (Nat → Nat) × (Nat → Nat)} {ad : Nat → Nat} {S : Mem} {th : Nat} {r : Int} (ho : isAu th) (h : f_X0_biddersWithUnits S th = some r) : Ctr l D cI cB Z ad shsC yX0_biddersWithUnits cX0_biddersWithUnits 3 (some .int) 0 0 [.ref (ad th)] S (some (.int (i32 r))) S := by
  refine ctr_of (by decide +kernel) (Nat.le_of_ble_eq_true rfl) rfl ?_
  intro p e s m args below meth c A X
  unfold f_X0_biddersWithUnits at h
  refine go_iconst (pc := 0) X dX0_biddersWithUnits_0 ?_
  refine go_istore_n (pc := 1) X [1, 0] (Ls' := [(0, .ref (ad th)), (1, .int (i32 0))]) dX0_biddersWithUnits_1 rfl (by decide) rfl ?_
  refine go_iconst (pc := 2) X dX0_biddersWithUnits_2 ?_
  refine go_istore_n (pc := 3) X [1, 2, 0] (Ls' := [(0, .ref (ad th)), (1, .int (i32 0)), (2, .int (i32 0))]) dX0_biddersWithUnits_3 rfl (by decide) rfl ?_
  obtain ⟨r7, h8, h⟩ := bind_some h
  have H9 : ∀ (n : Nat) (t10 : Int × Int) (z11 : Int), lp (f_X0_biddersWithUnits_l4 S th) n t10 = some z11 → Go p l e { frames := 0, cells := 0, slots := 0, locals := 0 } s m args below meth c 3 D cI cB ad shsC A (MQ below (cQ D cI cB ad shsC (some (.int (i32 r))) S A) args s 0 0 A) 33 [(1, .int (i32 z11))] [] S → Go p l e { frames := 0, cells := 0, slots := 0, locals := 0 } s m args below meth c 3 D cI cB ad shsC A (MQ below (cQ D cI cB ad shsC (some (.int (i32 r))) S A) args s 0 0 A) 4 [(0, .ref (ad th)), (1, .int (i32 t10.1)), (2, .int (i32 t10.2))] [] S := by
    refine lp_go (fun t10 : Int × Int => Go p l e { frames := 0, cells := 0, slots := 0, locals := 0 } s m args below meth c 3 D cI cB ad shsC A (MQ below (cQ D cI cB ad shsC (some (.int (i32 r))) S A) args s 0 0 A) 4 [(0, .ref (ad th)), (1, .int (i32 t10.1)), (2, .int (i32 t10.2))] [] S) (fun z11 : Int => Go p l e { frames := 0, cells := 0, slots := 0, locals := 0 } s m args below meth c 3 D cI cB ad shsC A (MQ below (cQ D cI cB ad shsC (some (.int (i32 r))) S A) args s 0 0 A) 33 [(1, .int (i32 z11))] [] S) ?_
    intro t10 x12 h hx13
    unfold f_X0_biddersWithUnits_l4 at h
    refine go_iload_n (pc := 4) X 2 dX0_biddersWithUnits_4 rfl rfl ?_
    refine go_aload_n (pc := 5) X 0 dX0_biddersWithUnits_5 rfl rfl ?_
    refine go_getr (pc := 6) X (fk := 0) (shA ho) rfl inT_X0 (by decide) fL_X0_12 rfl dX0_biddersWithUnits_6 ?_
    refine go_get (pc := 9) X (fk := 2) (fi := 2) rfl (shB (auBk ho)) rfl inT_X1 (by decide) fL_X0_50 rfl dX0_biddersWithUnits_9 ?_
    refine go_icmp_ge (pc := 12) X 33 dX0_biddersWithUnits_12 rfl (fun c15 => ?_) (fun c15 => ?_)
    · rw [if_neg c15] at h
      refine go_pick [1] (Ls' := [(1, .int (i32 t10.1))]) rfl ?_
      exact lp_back h hx13
    · rw [if_pos c15] at h
      refine go_aload_n (pc := 15) X 0 dX0_biddersWithUnits_15 rfl rfl ?_
      refine go_getr (pc := 16) X (fk := 4) (shA ho) rfl inT_X0 (by decide) fL_X0_28 rfl dX0_biddersWithUnits_16 ?_
      refine go_iload_n (pc := 19) X 2 dX0_biddersWithUnits_19 rfl rfl ?_
      obtain ⟨g16, h⟩ := gd_some h
      refine go_iald (pc := 20) X (shA7 ho) (Nat.le_of_ble_eq_true rfl) rfl g16 dX0_biddersWithUnits_20 ?_
      obtain ⟨j17, h18, h⟩ := bind_some h
      have k19 : Go p l e { frames := 0, cells := 0, slots := 0, locals := 0 } s m args below meth c 3 D cI cB ad shsC A (MQ below (cQ D cI cB ad shsC (some (.int (i32 r))) S A) args s 0 0 A) 27 [(0, .ref (ad th)), (1, .int (i32 j17)), (2, .int (i32 t10.2))] [] S := by
        refine go_iinc (pc := 27) X [1, 2, 0] 2 (Ls' := [(0, .ref (ad th)), (1, .int (i32 j17)), (2, .int (i32 (t10.2 + 1)))]) dX0_biddersWithUnits_27 rfl (by decide) rfl ?_
        refine go_goto (pc := 30) X 4 dX0_biddersWithUnits_30 rfl ?_
        exact lp_back h hx13
      refine go_if_le (pc := 21) X 27 dX0_biddersWithUnits_21 rfl (fun c20 => ?_) (fun c20 => ?_)
      · rw [if_neg c20] at h18
        cases h18
        exact k19
      · rw [if_pos c20] at h18
        refine go_iinc (pc := 24) X [1, 0, 2] 1 (Ls' := [(0, .ref (ad th)), (1, .int (i32 (t10.1 + 1))), (2, .int (i32 t10.2))]) dX0_biddersWithUnits_24 rfl (by decide) rfl ?_
        cases h18
        exact k19
  refine H9 FU (0, 0) r7 h8 ?_
  refine go_iload_n (pc := 33) X 0 dX0_biddersWithUnits_33 rfl rfl ?_
  exact go_iretP (pc := 34) X h dX0_biddersWithUnits_34
set_option maxRecDepth 100000 in
set_option maxHeartbeats 4000000 in
theorem ct_X0_clinchPrices {l : Launch} {D : va_G} {cI cB : ClassId} {Z : (Nat → Nat) × (Nat → Nat)} {ad : Nat → Nat} {S : Mem} {th : Nat} {r : Int} (ho : isAu th) (h : f_X0_clinchPrices S th = some r) : Ctr l D cI cB Z ad shsC yX0_clinchPrices cX0_clinchPrices 3 (some .int) 0 0 [.ref (ad th)] S (some (.int (i32 r))) S := by
  refine ctr_of (by decide +kernel) (Nat.le_of_ble_eq_true rfl) rfl ?_
  intro p e s m args below meth c A X
  unfold f_X0_clinchPrices at h
  refine go_iconst (pc := 0) X dX0_clinchPrices_0 ?_
  refine go_istore_n (pc := 1) X [1, 0] (Ls' := [(0, .ref (ad th)), (1, .int (i32 0))]) dX0_clinchPrices_1 rfl (by decide) rfl ?_
  refine go_iconst (pc := 2) X dX0_clinchPrices_2 ?_
  refine go_istore_n (pc := 3) X [1, 2, 0] (Ls' := [(0, .ref (ad th)), (1, .int (i32 0)), (2, .int (i32 0))]) dX0_clinchPrices_3 rfl (by decide) rfl ?_
  obtain ⟨r9, h10, h⟩ := bind_some h
  have H11 : ∀ (n : Nat) (t12 : Int × Int) (z13 : Int), lp (f_X0_clinchPrices_l4 S th) n t12 = some z13 → Go p l e { frames := 0, cells := 0, slots := 0, locals := 0 } s m args below meth c 3 D cI cB ad shsC A (MQ below (cQ D cI cB ad shsC (some (.int (i32 r))) S A) args s 0 0 A) 42 [(1, .int (i32 z13))] [] S → Go p l e { frames := 0, cells := 0, slots := 0, locals := 0 } s m args below meth c 3 D cI cB ad shsC A (MQ below (cQ D cI cB ad shsC (some (.int (i32 r))) S A) args s 0 0 A) 4 [(0, .ref (ad th)), (1, .int (i32 t12.1)), (2, .int (i32 t12.2))] [] S := by
    refine lp_go (fun t12 : Int × Int => Go p l e { frames := 0, cells := 0, slots := 0, locals := 0 } s m args below meth c 3 D cI cB ad shsC A (MQ below (cQ D cI cB ad shsC (some (.int (i32 r))) S A) args s 0 0 A) 4 [(0, .ref (ad th)), (1, .int (i32 t12.1)), (2, .int (i32 t12.2))] [] S) (fun z13 : Int => Go p l e { frames := 0, cells := 0, slots := 0, locals := 0 } s m args below meth c 3 D cI cB ad shsC A (MQ below (cQ D cI cB ad shsC (some (.int (i32 r))) S A) args s 0 0 A) 42 [(1, .int (i32 z13))] [] S) ?_
    intro t12 x14 h hx15
    unfold f_X0_clinchPrices_l4 at h
    refine go_iload_n (pc := 4) X 2 dX0_clinchPrices_4 rfl rfl ?_
    refine go_aload_n (pc := 5) X 0 dX0_clinchPrices_5 rfl rfl ?_
    refine go_get (pc := 6) X (fk := 3) (fi := 3) rfl (shA ho) rfl inT_X0 (by decide) fL_X0_25 rfl dX0_clinchPrices_6 ?_
    refine go_icmp_ge (pc := 9) X 42 dX0_clinchPrices_9 rfl (fun c17 => ?_) (fun c17 => ?_)
    · rw [if_neg c17] at h
      refine go_pick [1] (Ls' := [(1, .int (i32 t12.1))]) rfl ?_
      exact lp_back h hx15
    · rw [if_pos c17] at h
      refine go_iload_n (pc := 12) X 2 dX0_clinchPrices_12 rfl rfl ?_
      obtain ⟨j18, h19, h⟩ := bind_some h
      have k20 : Go p l e { frames := 0, cells := 0, slots := 0, locals := 0 } s m args below meth c 3 D cI cB ad shsC A (MQ below (cQ D cI cB ad shsC (some (.int (i32 r))) S A) args s 0 0 A) 36 [(0, .ref (ad th)), (1, .int (i32 j18)), (2, .int (i32 t12.2))] [] S := by
        refine go_iinc (pc := 36) X [1, 2, 0] 2 (Ls' := [(0, .ref (ad th)), (1, .int (i32 j18)), (2, .int (i32 (t12.2 + 1)))]) dX0_clinchPrices_36 rfl (by decide) rfl ?_
        refine go_goto (pc := 39) X 4 dX0_clinchPrices_39 rfl ?_
        exact lp_back h hx15
      refine go_if_eq (pc := 13) X 33 dX0_clinchPrices_13 rfl (fun c21 => ?_) (fun c21 => ?_)
      · rw [if_pos c21] at h19
        refine go_iinc (pc := 33) X [1, 0, 2] 1 (Ls' := [(0, .ref (ad th)), (1, .int (i32 (t12.1 + 1))), (2, .int (i32 t12.2))]) dX0_clinchPrices_33 rfl (by decide) rfl ?_
        cases h19
        exact k20
      · rw [if_neg c21] at h19
        refine go_aload_n (pc := 16) X 0 dX0_clinchPrices_16 rfl rfl ?_
        refine go_getr (pc := 17) X (fk := 8) (shA ho) rfl inT_X0 (by decide) fL_X0_41 rfl dX0_clinchPrices_17 ?_
        refine go_iload_n (pc := 20) X 2 dX0_clinchPrices_20 rfl rfl ?_
        obtain ⟨g22, h19⟩ := gd_some h19
        refine go_iald (pc := 21) X (shA11 ho) (Nat.le_of_ble_eq_true rfl) rfl g22 dX0_clinchPrices_21 ?_
        refine go_aload_n (pc := 22) X 0 dX0_clinchPrices_22 rfl rfl ?_
        refine go_getr (pc := 23) X (fk := 8) (shA ho) rfl inT_X0 (by decide) fL_X0_41 rfl dX0_clinchPrices_23 ?_
        refine go_iload_n (pc := 26) X 2 dX0_clinchPrices_26 rfl rfl ?_
        refine go_iconst (pc := 27) X dX0_clinchPrices_27 ?_
        refine go_isub (pc := 28) X dX0_clinchPrices_28 ?_
        obtain ⟨g23, h19⟩ := gd_some h19
        refine go_iald (pc := 29) X (shA11 ho) (Nat.le_of_ble_eq_true rfl) rfl g23 dX0_clinchPrices_29 ?_
        refine go_icmp_eq (pc := 30) X 36 dX0_clinchPrices_30 rfl (fun c24 => ?_) (fun c24 => ?_)
        · rw [if_pos c24] at h19
          cases h19
          exact k20
        · rw [if_neg c24] at h19
          refine go_iinc (pc := 33) X [1, 0, 2] 1 (Ls' := [(0, .ref (ad th)), (1, .int (i32 (t12.1 + 1))), (2, .int (i32 t12.2))]) dX0_clinchPrices_33 rfl (by decide) rfl ?_
          cases h19
          exact k20
  refine H11 FU (0, 0) r9 h10 ?_
  refine go_iload_n (pc := 42) X 0 dX0_clinchPrices_42 rfl rfl ?_
  exact go_iretP (pc := 43) X h dX0_clinchPrices_43
set_option maxRecDepth 100000 in
set_option maxHeartbeats 4000000 in
theorem ct_X0_tell {l : Launch} {D : va_G} {cI cB : ClassId} {Z : (Nat → Nat) × (Nat → Nat)} {ad : Nat → Nat} {S : Mem} {th : Nat} {a1 : Int} {r : Int} {S' : Mem} (ho : isAu th) (h : f_X0_tell S th a1 = some (r, S')) : Ctr l D cI cB Z ad shsC yX0_tell cX0_tell 2 (some .int) 3 71 [.ref (ad th), .int (i32 a1)] S (some (.int (i32 r))) S' := by
  refine ctr_of (by decide +kernel) (Nat.le_of_ble_eq_true rfl) rfl ?_
  intro p e s m args below meth c A X
  unfold f_X0_tell at h
  refine go_iload_n (pc := 0) X 1 dX0_tell_0 rfl rfl ?_
  by_cases c1 : eqb a1 0 = true
  · rw [if_pos c1] at h
    refine go_tab (pc := 1) X 56 dX0_tell_1 c1 ⟨by decide, by decide⟩ ⟨by decide, by decide⟩ rfl rfl ?_
    refine go_aload_n (pc := 56) X 0 dX0_tell_56 rfl rfl ?_
    refine go_get (pc := 57) X (fk := 1) (fi := 1) rfl (shA ho) rfl inT_X0 (by decide) fL_X0_18 rfl dX0_tell_57 ?_
    exact go_iret (pc := 60) X h dX0_tell_60
  · rw [if_neg c1] at h
    by_cases c2 : eqb a1 1 = true
    · rw [if_pos c2] at h
      refine go_tab (pc := 1) X 61 dX0_tell_1 c2 ⟨by decide, by decide⟩ ⟨by decide, by decide⟩ rfl rfl ?_
      refine go_aload_n (pc := 61) X 0 dX0_tell_61 rfl rfl ?_
      refine go_get (pc := 62) X (fk := 2) (fi := 2) rfl (shA ho) rfl inT_X0 (by decide) fL_X0_22 rfl dX0_tell_62 ?_
      exact go_iret (pc := 65) X h dX0_tell_65
    · rw [if_neg c2] at h
      by_cases c3 : eqb a1 2 = true
      · rw [if_pos c3] at h
        refine go_tab (pc := 1) X 66 dX0_tell_1 c3 ⟨by decide, by decide⟩ ⟨by decide, by decide⟩ rfl rfl ?_
        refine go_aload_n (pc := 66) X 0 dX0_tell_66 rfl rfl ?_
        obtain ⟨r4, h5, h⟩ := bind_some h
        refine go_callVi (pc := 67) X 0 [] (ct_X0_unsold ho h5) (shA ho) rfl gg_X0_131 hd_X0_unsold ⟨Nat.le_of_ble_eq_true rfl, Nat.le_of_ble_eq_true rfl⟩ rfl rfl (Nat.le_of_ble_eq_true rfl) dX0_tell_67 ?_
        exact go_iret (pc := 70) X h dX0_tell_70
      · rw [if_neg c3] at h
        by_cases c6 : eqb a1 3 = true
        · rw [if_pos c6] at h
          refine go_tab (pc := 1) X 71 dX0_tell_1 c6 ⟨by decide, by decide⟩ ⟨by decide, by decide⟩ rfl rfl ?_
          refine go_aload_n (pc := 71) X 0 dX0_tell_71 rfl rfl ?_
          refine go_get (pc := 72) X (fk := 3) (fi := 3) rfl (shA ho) rfl inT_X0 (by decide) fL_X0_25 rfl dX0_tell_72 ?_
          exact go_iret (pc := 75) X h dX0_tell_75
        · rw [if_neg c6] at h
          by_cases c7 : eqb a1 4 = true
          · rw [if_pos c7] at h
            refine go_tab (pc := 1) X 76 dX0_tell_1 c7 ⟨by decide, by decide⟩ ⟨by decide, by decide⟩ rfl rfl ?_
            refine go_aload_n (pc := 76) X 0 dX0_tell_76 rfl rfl ?_
            obtain ⟨r8, h9, h⟩ := bind_some h
            refine go_callVi (pc := 77) X 0 [] (ct_X0_biddersWithUnits ho h9) (shA ho) rfl gg_X0_140 hd_X0_biddersWithUnits ⟨Nat.le_of_ble_eq_true rfl, Nat.le_of_ble_eq_true rfl⟩ rfl rfl (Nat.le_of_ble_eq_true rfl) dX0_tell_77 ?_
            exact go_iret (pc := 80) X h dX0_tell_80
          · rw [if_neg c7] at h
            by_cases c10 : eqb a1 5 = true
            · rw [if_pos c10] at h
              refine go_tab (pc := 1) X 81 dX0_tell_1 c10 ⟨by decide, by decide⟩ ⟨by decide, by decide⟩ rfl rfl ?_
              refine go_aload_n (pc := 81) X 0 dX0_tell_81 rfl rfl ?_
              obtain ⟨r11, h12, h⟩ := bind_some h
              refine go_callVi (pc := 82) X 0 [] (ct_X0_valueOfAllUnits ho h12) (shA ho) rfl gg_X0_125 hd_X0_valueOfAllUnits ⟨Nat.le_of_ble_eq_true rfl, Nat.le_of_ble_eq_true rfl⟩ rfl rfl (Nat.le_of_ble_eq_true rfl) dX0_tell_82 ?_
              exact go_iret (pc := 85) X h dX0_tell_85
            · rw [if_neg c10] at h
              by_cases c13 : eqb a1 6 = true
              · rw [if_pos c13] at h
                refine go_tab (pc := 1) X 86 dX0_tell_1 c13 ⟨by decide, by decide⟩ ⟨by decide, by decide⟩ rfl rfl ?_
                refine go_aload_n (pc := 86) X 0 dX0_tell_86 rfl rfl ?_
                refine go_getr (pc := 87) X (fk := 0) (shA ho) rfl inT_X0 (by decide) fL_X0_12 rfl dX0_tell_87 ?_
                refine go_aload_n (pc := 90) X 0 dX0_tell_90 rfl rfl ?_
                refine go_getr (pc := 91) X (fk := 0) (shA ho) rfl inT_X0 (by decide) fL_X0_12 rfl dX0_tell_91 ?_
                obtain ⟨r14, h15, h⟩ := bind_some h
                refine go_callVi (pc := 94) X 0 [.ref (ad (th + 1))] (ct_X1_everyone (auBk ho) h15) (shB (auBk ho)) rfl gg_X0_122 hd_X1_everyone ⟨Nat.le_of_ble_eq_true rfl, Nat.le_of_ble_eq_true rfl⟩ rfl rfl (Nat.le_of_ble_eq_true rfl) dX0_tell_94 ?_
                refine go_aload_n (pc := 97) X 0 dX0_tell_97 rfl rfl ?_
                refine go_getr (pc := 98) X (fk := 0) (shA ho) rfl inT_X0 (by decide) fL_X0_12 rfl dX0_tell_98 ?_
                refine go_get (pc := 101) X (fk := 0) (fi := 0) rfl (shB (auBk ho)) rfl inT_X1 (by decide) fL_X0_73 rfl dX0_tell_101 ?_
                obtain ⟨u16, h17, h⟩ := bind_some h
                refine go_callVi (pc := 104) X 2 [] (ct_X1_worthTo (auBk ho) h17) (shB (auBk ho)) rfl gg_X0_128 hd_X1_worthTo ⟨Nat.le_of_ble_eq_true rfl, Nat.le_of_ble_eq_true rfl⟩ rfl rfl (Nat.le_of_ble_eq_true rfl) dX0_tell_104 ?_
                exact go_iret (pc := 107) X h dX0_tell_107
              · rw [if_neg c13] at h
                by_cases c18 : eqb a1 7 = true
                · rw [if_pos c18] at h
                  refine go_tab (pc := 1) X 108 dX0_tell_1 c18 ⟨by decide, by decide⟩ ⟨by decide, by decide⟩ rfl rfl ?_
                  refine go_aload_n (pc := 108) X 0 dX0_tell_108 rfl rfl ?_
                  obtain ⟨r19, h20, h⟩ := bind_some h
                  refine go_callVi (pc := 109) X 0 [] (ct_X0_clinchPrices ho h20) (shA ho) rfl gg_X0_143 hd_X0_clinchPrices ⟨Nat.le_of_ble_eq_true rfl, Nat.le_of_ble_eq_true rfl⟩ rfl rfl (Nat.le_of_ble_eq_true rfl) dX0_tell_109 ?_
                  exact go_iret (pc := 112) X h dX0_tell_112
                · rw [if_neg c18] at h
                  by_cases c21 : eqb a1 8 = true
                  · rw [if_pos c21] at h
                    refine go_tab (pc := 1) X 113 dX0_tell_1 c21 ⟨by decide, by decide⟩ ⟨by decide, by decide⟩ rfl rfl ?_
                    refine go_aload_n (pc := 113) X 0 dX0_tell_113 rfl rfl ?_
                    refine go_get (pc := 114) X (fk := 2) (fi := 2) rfl (shA ho) rfl inT_X0 (by decide) fL_X0_22 rfl dX0_tell_114 ?_
                    refine go_if_ne (pc := 117) X 125 dX0_tell_117 rfl (fun c22 => ?_) (fun c22 => ?_)
                    · rw [if_neg c22] at h
                      refine go_aload_n (pc := 125) X 0 dX0_tell_125 rfl rfl ?_
                      refine go_getr (pc := 126) X (fk := 8) (shA ho) rfl inT_X0 (by decide) fL_X0_41 rfl dX0_tell_126 ?_
                      refine go_aload_n (pc := 129) X 0 dX0_tell_129 rfl rfl ?_
                      refine go_get (pc := 130) X (fk := 2) (fi := 2) rfl (shA ho) rfl inT_X0 (by decide) fL_X0_22 rfl dX0_tell_130 ?_
                      refine go_iconst (pc := 133) X dX0_tell_133 ?_
                      refine go_isub (pc := 134) X dX0_tell_134 ?_
                      obtain ⟨g23, h⟩ := gd_some h
                      refine go_iald (pc := 135) X (shA11 ho) (Nat.le_of_ble_eq_true rfl) rfl g23 dX0_tell_135 ?_
                      exact go_iret (pc := 136) X h dX0_tell_136
                    · rw [if_pos c22] at h
                      refine go_bipush (pc := 120) X dX0_tell_120 (by decide) (by decide) ?_
                      refine go_goto (pc := 122) X 136 dX0_tell_122 rfl ?_
                      exact go_iret (pc := 136) X h dX0_tell_136
                  · rw [if_neg c21] at h
                    by_cases c24 : eqb a1 9 = true
                    · rw [if_pos c24] at h
                      refine go_tab (pc := 1) X 137 dX0_tell_1 c24 ⟨by decide, by decide⟩ ⟨by decide, by decide⟩ rfl rfl ?_
                      refine go_aload_n (pc := 137) X 0 dX0_tell_137 rfl rfl ?_
                      refine go_get (pc := 138) X (fk := 2) (fi := 2) rfl (shA ho) rfl inT_X0 (by decide) fL_X0_22 rfl dX0_tell_138 ?_
                      refine go_if_ne (pc := 141) X 149 dX0_tell_141 rfl (fun c25 => ?_) (fun c25 => ?_)
                      · rw [if_neg c25] at h
                        refine go_aload_n (pc := 149) X 0 dX0_tell_149 rfl rfl ?_
                        refine go_getr (pc := 150) X (fk := 8) (shA ho) rfl inT_X0 (by decide) fL_X0_41 rfl dX0_tell_150 ?_
                        refine go_iconst (pc := 153) X dX0_tell_153 ?_
                        obtain ⟨g26, h⟩ := gd_some h
                        refine go_iald (pc := 154) X (shA11 ho) (Nat.le_of_ble_eq_true rfl) rfl g26 dX0_tell_154 ?_
                        exact go_iret (pc := 155) X h dX0_tell_155
                      · rw [if_pos c25] at h
                        refine go_bipush (pc := 144) X dX0_tell_144 (by decide) (by decide) ?_
                        refine go_goto (pc := 146) X 155 dX0_tell_146 rfl ?_
                        exact go_iret (pc := 155) X h dX0_tell_155
                    · rw [if_neg c24] at h
                      have nc1 : ¬ (0 : Int) = (i32 a1).toInt := fun z => c1 ((eqb_toInt (by decide) (by decide)).mpr z.symm)
                      have nc2 : ¬ (1 : Int) = (i32 a1).toInt := fun z => c2 ((eqb_toInt (by decide) (by decide)).mpr z.symm)
                      have nc3 : ¬ (2 : Int) = (i32 a1).toInt := fun z => c3 ((eqb_toInt (by decide) (by decide)).mpr z.symm)
                      have nc6 : ¬ (3 : Int) = (i32 a1).toInt := fun z => c6 ((eqb_toInt (by decide) (by decide)).mpr z.symm)
                      have nc7 : ¬ (4 : Int) = (i32 a1).toInt := fun z => c7 ((eqb_toInt (by decide) (by decide)).mpr z.symm)
                      have nc10 : ¬ (5 : Int) = (i32 a1).toInt := fun z => c10 ((eqb_toInt (by decide) (by decide)).mpr z.symm)
                      have nc13 : ¬ (6 : Int) = (i32 a1).toInt := fun z => c13 ((eqb_toInt (by decide) (by decide)).mpr z.symm)
                      have nc18 : ¬ (7 : Int) = (i32 a1).toInt := fun z => c18 ((eqb_toInt (by decide) (by decide)).mpr z.symm)
                      have nc21 : ¬ (8 : Int) = (i32 a1).toInt := fun z => c21 ((eqb_toInt (by decide) (by decide)).mpr z.symm)
                      have nc24 : ¬ (9 : Int) = (i32 a1).toInt := fun z => c24 ((eqb_toInt (by decide) (by decide)).mpr z.symm)
                      refine go_tabx (pc := 1) X 156 dX0_tell_1 (by omega) rfl ?_
                      refine go_iconst (pc := 156) X dX0_tell_156 ?_
                      exact go_iret (pc := 157) X h dX0_tell_157
set_option maxRecDepth 100000 in
set_option maxHeartbeats 4000000 in
theorem ct_X0_firstOfClinch {l : Launch} {D : va_G} {cI cB : ClassId} {Z : (Nat → Nat) × (Nat → Nat)} {ad : Nat → Nat} {S : Mem} {th : Nat} {a1 : Int} {a2 : Int} {r : Int} (ho : isAu th) (h : f_X0_firstOfClinch S th a1 a2 = some r) : Ctr l D cI cB Z ad shsC yX0_firstOfClinch cX0_firstOfClinch 5 (some .int) 2 45 [.ref (ad th), .int (i32 a1), .int (i32 a2)] S (some (.int (i32 r))) S := by
  refine ctr_of (by decide +kernel) (Nat.le_of_ble_eq_true rfl) rfl ?_
  intro p e s m args below meth c A X
  unfold f_X0_firstOfClinch at h
  refine go_iconst (pc := 0) X dX0_firstOfClinch_0 ?_
  refine go_istore_n (pc := 1) X [1, 2, 3, 0] (Ls' := [(0, .ref (ad th)), (1, .int (i32 a1)), (2, .int (i32 a2)), (3, .int (i32 0))]) dX0_firstOfClinch_1 rfl (by decide) rfl ?_
  refine go_iconst (pc := 2) X dX0_firstOfClinch_2 ?_
  refine go_istore (pc := 3) X [1, 2, 3, 4, 0] (Ls' := [(0, .ref (ad th)), (1, .int (i32 a1)), (2, .int (i32 a2)), (3, .int (i32 0)), (4, .int (i32 0))]) dX0_firstOfClinch_3 (by decide) rfl ?_
  obtain ⟨r8, h9, h⟩ := bind_some h
  have H10 : ∀ (n : Nat) (t11 : Int × Int) (z12 : Int), lp (f_X0_firstOfClinch_l5 S th a1 a2) n t11 = some z12 → Go p l e { frames := 2, cells := 0, slots := 0, locals := 45 } s m args below meth c 5 D cI cB ad shsC A (MQ below (cQ D cI cB ad shsC (some (.int (i32 r))) S A) args s 0 0 A) 39 [(0, .ref (ad th)), (1, .int (i32 a1)), (3, .int (i32 z12))] [] S → Go p l e { frames := 2, cells := 0, slots := 0, locals := 45 } s m args below meth c 5 D cI cB ad shsC A (MQ below (cQ D cI cB ad shsC (some (.int (i32 r))) S A) args s 0 0 A) 5 [(0, .ref (ad th)), (1, .int (i32 a1)), (2, .int (i32 a2)), (3, .int (i32 t11.1)), (4, .int (i32 t11.2))] [] S := by
    refine lp_go (fun t11 : Int × Int => Go p l e { frames := 2, cells := 0, slots := 0, locals := 45 } s m args below meth c 5 D cI cB ad shsC A (MQ below (cQ D cI cB ad shsC (some (.int (i32 r))) S A) args s 0 0 A) 5 [(0, .ref (ad th)), (1, .int (i32 a1)), (2, .int (i32 a2)), (3, .int (i32 t11.1)), (4, .int (i32 t11.2))] [] S) (fun z12 : Int => Go p l e { frames := 2, cells := 0, slots := 0, locals := 45 } s m args below meth c 5 D cI cB ad shsC A (MQ below (cQ D cI cB ad shsC (some (.int (i32 r))) S A) args s 0 0 A) 39 [(0, .ref (ad th)), (1, .int (i32 a1)), (3, .int (i32 z12))] [] S) ?_
    intro t11 x13 h hx14
    unfold f_X0_firstOfClinch_l5 at h
    refine go_iload (pc := 5) X 4 dX0_firstOfClinch_5 rfl ?_
    refine go_iload_n (pc := 7) X 2 dX0_firstOfClinch_7 rfl rfl ?_
    refine go_icmp_ge (pc := 8) X 39 dX0_firstOfClinch_8 rfl (fun c16 => ?_) (fun c16 => ?_)
    · rw [if_neg c16] at h
      refine go_pick [0, 1, 3] (Ls' := [(0, .ref (ad th)), (1, .int (i32 a1)), (3, .int (i32 t11.1))]) rfl ?_
      exact lp_back h hx14
    · rw [if_pos c16] at h
      refine go_iload_n (pc := 11) X 3 dX0_firstOfClinch_11 rfl rfl ?_
      refine go_aload_n (pc := 12) X 0 dX0_firstOfClinch_12 rfl rfl ?_
      refine go_getr (pc := 13) X (fk := 5) (shA ho) rfl inT_X0 (by decide) fL_X0_32 rfl dX0_firstOfClinch_13 ?_
      refine go_iload_n (pc := 16) X 1 dX0_firstOfClinch_16 rfl rfl ?_
      obtain ⟨g17, h⟩ := gd_some h
      refine go_iald (pc := 17) X (shA8 ho) (Nat.le_of_ble_eq_true rfl) rfl g17 dX0_firstOfClinch_17 ?_
      refine go_icmp_ge (pc := 18) X 39 dX0_firstOfClinch_18 rfl (fun c18 => ?_) (fun c18 => ?_)
      · rw [if_neg c18] at h
        refine go_pick [0, 1, 3] (Ls' := [(0, .ref (ad th)), (1, .int (i32 a1)), (3, .int (i32 t11.1))]) rfl ?_
        exact lp_back h hx14
      · rw [if_pos c18] at h
        refine go_aload_n (pc := 21) X 0 dX0_firstOfClinch_21 rfl rfl ?_
        refine go_iload_n (pc := 22) X 1 dX0_firstOfClinch_22 rfl rfl ?_
        refine go_aload_n (pc := 23) X 0 dX0_firstOfClinch_23 rfl rfl ?_
        refine go_iload_n (pc := 24) X 1 dX0_firstOfClinch_24 rfl rfl ?_
        refine go_iload_n (pc := 25) X 3 dX0_firstOfClinch_25 rfl rfl ?_
        obtain ⟨r19, h20, h⟩ := bind_some h
        refine go_callVi (pc := 26) X 2 [.int (i32 a1), .ref (ad th)] (ct_X0_unitPrice ho h20) (shA ho) rfl gg_X0_104 hd_X0_unitPrice ⟨Nat.le_of_ble_eq_true rfl, Nat.le_of_ble_eq_true rfl⟩ rfl rfl (Nat.le_of_ble_eq_true rfl) dX0_firstOfClinch_26 ?_
        obtain ⟨r21, h22, h⟩ := bind_some h
        refine go_callVi (pc := 29) X 2 [] (ct_X0_clinchedBy ho h22) (shA ho) rfl gg_X0_110 hd_X0_clinchedBy ⟨Nat.le_of_ble_eq_true rfl, Nat.le_of_ble_eq_true rfl⟩ rfl rfl (Nat.le_of_ble_eq_true rfl) dX0_firstOfClinch_29 ?_
        refine go_istore_n (pc := 32) X [1, 2, 3, 0, 4] (Ls' := [(0, .ref (ad th)), (1, .int (i32 a1)), (2, .int (i32 a2)), (3, .int (i32 r21)), (4, .int (i32 t11.2))]) dX0_firstOfClinch_32 rfl (by decide) rfl ?_
        refine go_iinc (pc := 33) X [1, 2, 3, 4, 0] 4 (Ls' := [(0, .ref (ad th)), (1, .int (i32 a1)), (2, .int (i32 a2)), (3, .int (i32 r21)), (4, .int (i32 (t11.2 + 1)))]) dX0_firstOfClinch_33 rfl (by decide) rfl ?_
        refine go_goto (pc := 36) X 5 dX0_firstOfClinch_36 rfl ?_
        exact lp_back h hx14
  refine H10 FU (0, 0) r8 h9 ?_
  refine go_iload_n (pc := 39) X 2 dX0_firstOfClinch_39 rfl rfl ?_
  refine go_aload_n (pc := 40) X 0 dX0_firstOfClinch_40 rfl rfl ?_
  refine go_getr (pc := 41) X (fk := 5) (shA ho) rfl inT_X0 (by decide) fL_X0_32 rfl dX0_firstOfClinch_41 ?_
  refine go_iload_n (pc := 44) X 1 dX0_firstOfClinch_44 rfl rfl ?_
  obtain ⟨g23, h⟩ := gd_some h
  refine go_iald (pc := 45) X (shA8 ho) (Nat.le_of_ble_eq_true rfl) rfl g23 dX0_firstOfClinch_45 ?_
  refine go_icmp_ge (pc := 46) X 53 dX0_firstOfClinch_46 rfl (fun c24 => ?_) (fun c24 => ?_)
  · rw [if_neg c24] at h
    refine go_iconst (pc := 53) X dX0_firstOfClinch_53 ?_
    exact go_iretP (pc := 54) X h dX0_firstOfClinch_54
  · rw [if_pos c24] at h
    refine go_iload_n (pc := 49) X 2 dX0_firstOfClinch_49 rfl rfl ?_
    refine go_goto (pc := 50) X 54 dX0_firstOfClinch_50 rfl ?_
    exact go_iretP (pc := 54) X h dX0_firstOfClinch_54
set_option maxRecDepth 100000 in
set_option maxHeartbeats 4000000 in
theorem ct_X0_clinchPrice {l : Launch} {D : va_G} {cI cB : ClassId} {Z : (Nat → Nat) × (Nat → Nat)} {ad : Nat → Nat} {S : Mem} {th : Nat} {a1 : Int} {a2 : Int} {r : Int} (ho : isAu th) (h : f_X0_clinchPrice S th a1 a2 = some r) : Ctr l D cI cB Z ad shsC yX0_clinchPrice cX0_clinchPrice 4 (some .int) 3 69 [.ref (ad th), .int (i32 a1), .int (i32 a2)] S (some (.int (i32 r))) S := by
  refine ctr_of (by decide +kernel) (Nat.le_of_ble_eq_true rfl) rfl ?_
  intro p e s m args below meth c A X
  unfold f_X0_clinchPrice at h
  refine go_aload_n (pc := 0) X 0 dX0_clinchPrice_0 rfl rfl ?_
  refine go_iload_n (pc := 1) X 1 dX0_clinchPrice_1 rfl rfl ?_
  refine go_iload_n (pc := 2) X 2 dX0_clinchPrice_2 rfl rfl ?_
  obtain ⟨r1, h2, h⟩ := bind_some h
  refine go_callVi (pc := 3) X 2 [] (ct_X0_firstOfClinch ho h2) (shA ho) rfl gg_X0_107 hd_X0_firstOfClinch ⟨Nat.le_of_ble_eq_true rfl, Nat.le_of_ble_eq_true rfl⟩ rfl rfl (Nat.le_of_ble_eq_true rfl) dX0_clinchPrice_3 ?_
  refine go_istore_n (pc := 6) X [1, 2, 3, 0] (Ls' := [(0, .ref (ad th)), (1, .int (i32 a1)), (2, .int (i32 a2)), (3, .int (i32 r1))]) dX0_clinchPrice_6 rfl (by decide) rfl ?_
  refine go_iload_n (pc := 7) X 3 dX0_clinchPrice_7 rfl rfl ?_
  refine go_iconst (pc := 8) X dX0_clinchPrice_8 ?_
  refine go_icmp_ne (pc := 9) X 16 dX0_clinchPrice_9 rfl (fun c3 => ?_) (fun c3 => ?_)
  · rw [if_neg c3] at h
    refine go_aload_n (pc := 16) X 0 dX0_clinchPrice_16 rfl rfl ?_
    refine go_iload_n (pc := 17) X 1 dX0_clinchPrice_17 rfl rfl ?_
    refine go_iload_n (pc := 18) X 3 dX0_clinchPrice_18 rfl rfl ?_
    obtain ⟨r4, h5, h⟩ := bind_some h
    refine go_callVi (pc := 19) X 2 [] (ct_X0_unitPrice ho h5) (shA ho) rfl gg_X0_104 hd_X0_unitPrice ⟨Nat.le_of_ble_eq_true rfl, Nat.le_of_ble_eq_true rfl⟩ rfl rfl (Nat.le_of_ble_eq_true rfl) dX0_clinchPrice_19 ?_
    exact go_iretP (pc := 22) X h dX0_clinchPrice_22
  · rw [if_pos c3] at h
    refine go_iconst (pc := 12) X dX0_clinchPrice_12 ?_
    refine go_goto (pc := 13) X 22 dX0_clinchPrice_13 rfl ?_
    exact go_iretP (pc := 22) X h dX0_clinchPrice_22
set_option maxRecDepth 100000 in
set_option maxHeartbeats 4000000 in
theorem ct_X0_clinchSize {l : Launch} {D : va_G} {cI cB : ClassId} {Z : (Nat → Nat) × (Nat → Nat)} {ad : Nat → Nat} {S : Mem} {th : Nat} {a1 : Int} {a2 : Int} {r : Int} (ho : isAu th) (h : f_X0_clinchSize S th a1 a2 = some r) : Ctr l D cI cB Z ad shsC yX0_clinchSize cX0_clinchSize 4 (some .int) 3 69 [.ref (ad th), .int (i32 a1), .int (i32 a2)] S (some (.int (i32 r))) S := by
  refine ctr_of (by decide +kernel) (Nat.le_of_ble_eq_true rfl) rfl ?_
  intro p e s m args below meth c A X
  unfold f_X0_clinchSize at h
  refine go_aload_n (pc := 0) X 0 dX0_clinchSize_0 rfl rfl ?_
  refine go_iload_n (pc := 1) X 1 dX0_clinchSize_1 rfl rfl ?_
  refine go_iload_n (pc := 2) X 2 dX0_clinchSize_2 rfl rfl ?_
  obtain ⟨r1, h2, h⟩ := bind_some h
  refine go_callVi (pc := 3) X 2 [] (ct_X0_firstOfClinch ho h2) (shA ho) rfl gg_X0_107 hd_X0_firstOfClinch ⟨Nat.le_of_ble_eq_true rfl, Nat.le_of_ble_eq_true rfl⟩ rfl rfl (Nat.le_of_ble_eq_true rfl) dX0_clinchSize_3 ?_
  refine go_istore_n (pc := 6) X [1, 2, 3, 0] (Ls' := [(0, .ref (ad th)), (1, .int (i32 a1)), (2, .int (i32 a2)), (3, .int (i32 r1))]) dX0_clinchSize_6 rfl (by decide) rfl ?_
  refine go_iload_n (pc := 7) X 3 dX0_clinchSize_7 rfl rfl ?_
  refine go_iconst (pc := 8) X dX0_clinchSize_8 ?_
  refine go_icmp_ne (pc := 9) X 16 dX0_clinchSize_9 rfl (fun c3 => ?_) (fun c3 => ?_)
  · rw [if_neg c3] at h
    refine go_aload_n (pc := 16) X 0 dX0_clinchSize_16 rfl rfl ?_
    refine go_iload_n (pc := 17) X 1 dX0_clinchSize_17 rfl rfl ?_
    refine go_aload_n (pc := 18) X 0 dX0_clinchSize_18 rfl rfl ?_
    refine go_iload_n (pc := 19) X 1 dX0_clinchSize_19 rfl rfl ?_
    refine go_iload_n (pc := 20) X 3 dX0_clinchSize_20 rfl rfl ?_
    obtain ⟨r4, h5, h⟩ := bind_some h
    refine go_callVi (pc := 21) X 2 [.int (i32 a1), .ref (ad th)] (ct_X0_unitPrice ho h5) (shA ho) rfl gg_X0_104 hd_X0_unitPrice ⟨Nat.le_of_ble_eq_true rfl, Nat.le_of_ble_eq_true rfl⟩ rfl rfl (Nat.le_of_ble_eq_true rfl) dX0_clinchSize_21 ?_
    obtain ⟨r6, h7, h⟩ := bind_some h
    refine go_callVi (pc := 24) X 2 [] (ct_X0_clinchedBy ho h7) (shA ho) rfl gg_X0_110 hd_X0_clinchedBy ⟨Nat.le_of_ble_eq_true rfl, Nat.le_of_ble_eq_true rfl⟩ rfl rfl (Nat.le_of_ble_eq_true rfl) dX0_clinchSize_24 ?_
    refine go_iload_n (pc := 27) X 3 dX0_clinchSize_27 rfl rfl ?_
    refine go_isub (pc := 28) X dX0_clinchSize_28 ?_
    exact go_iretP (pc := 29) X h dX0_clinchSize_29
  · rw [if_pos c3] at h
    refine go_iconst (pc := 12) X dX0_clinchSize_12 ?_
    refine go_goto (pc := 13) X 29 dX0_clinchSize_13 rfl ?_
    exact go_iretP (pc := 29) X h dX0_clinchSize_29
set_option maxRecDepth 100000 in
set_option maxHeartbeats 4000000 in
theorem ct_X0_reckonGains {l : Launch} {D : va_G} {cI cB : ClassId} {Z : (Nat → Nat) × (Nat → Nat)} {ad : Nat → Nat} {S : Mem} {th : Nat} {a1 : Int} {S' : Mem} (ho : isAu th) (h : f_X0_reckonGains S th a1 = some S') : Ctr l D cI cB Z ad shsC yX0_reckonGains cX0_reckonGains 3 none 6 138 [.ref (ad th), .int (i32 a1)] S (none) S' := by
  refine ctr_of (by decide +kernel) (Nat.le_of_ble_eq_true rfl) rfl ?_
  intro p e s m args below meth c A X
  unfold f_X0_reckonGains at h
  refine go_iconst (pc := 0) X dX0_reckonGains_0 ?_
  refine go_istore_n (pc := 1) X [1, 2, 0] (Ls' := [(0, .ref (ad th)), (1, .int (i32 a1)), (2, .int (i32 0))]) dX0_reckonGains_1 rfl (by decide) rfl ?_
  obtain ⟨r7, h8, h⟩ := bind_some h
  have H9 : ∀ (n : Nat) (t10 : Int × Mem) (z11 : Mem), lp (f_X0_reckonGains_l2 th a1) n t10 = some z11 → Go p l e { frames := 6, cells := 0, slots := 0, locals := 138 } s m args below meth c 3 D cI cB ad shsC A (MQ below (cQ D cI cB ad shsC (none) S' A) args s 0 0 A) 31 [] [] z11 → Go p l e { frames := 6, cells := 0, slots := 0, locals := 138 } s m args below meth c 3 D cI cB ad shsC A (MQ below (cQ D cI cB ad shsC (none) S' A) args s 0 0 A) 2 [(0, .ref (ad th)), (1, .int (i32 a1)), (2, .int (i32 t10.1))] [] t10.2 := by
    refine lp_go (fun t10 : Int × Mem => Go p l e { frames := 6, cells := 0, slots := 0, locals := 138 } s m args below meth c 3 D cI cB ad shsC A (MQ below (cQ D cI cB ad shsC (none) S' A) args s 0 0 A) 2 [(0, .ref (ad th)), (1, .int (i32 a1)), (2, .int (i32 t10.1))] [] t10.2) (fun z11 : Mem => Go p l e { frames := 6, cells := 0, slots := 0, locals := 138 } s m args below meth c 3 D cI cB ad shsC A (MQ below (cQ D cI cB ad shsC (none) S' A) args s 0 0 A) 31 [] [] z11) ?_
    intro t10 x12 h hx13
    unfold f_X0_reckonGains_l2 at h
    refine go_iload_n (pc := 2) X 2 dX0_reckonGains_2 rfl rfl ?_
    refine go_aload_n (pc := 3) X 0 dX0_reckonGains_3 rfl rfl ?_
    refine go_getr (pc := 4) X (fk := 0) (shA ho) rfl inT_X0 (by decide) fL_X0_12 rfl dX0_reckonGains_4 ?_
    refine go_get (pc := 7) X (fk := 2) (fi := 2) rfl (shB (auBk ho)) rfl inT_X1 (by decide) fL_X0_50 rfl dX0_reckonGains_7 ?_
    refine go_icmp_ge (pc := 10) X 31 dX0_reckonGains_10 rfl (fun c15 => ?_) (fun c15 => ?_)
    · rw [if_neg c15] at h
      refine go_pick [] (Ls' := []) rfl ?_
      exact lp_back h hx13
    · rw [if_pos c15] at h
      refine go_aload_n (pc := 13) X 0 dX0_reckonGains_13 rfl rfl ?_
      refine go_getr (pc := 14) X (fk := 10) (shA ho) rfl inT_X0 (by decide) fL_X0_47 rfl dX0_reckonGains_14 ?_
      refine go_iload_n (pc := 17) X 2 dX0_reckonGains_17 rfl rfl ?_
      refine go_aload_n (pc := 18) X 0 dX0_reckonGains_18 rfl rfl ?_
      refine go_iload_n (pc := 19) X 2 dX0_reckonGains_19 rfl rfl ?_
      refine go_iload_n (pc := 20) X 1 dX0_reckonGains_20 rfl rfl ?_
      obtain ⟨u16, h17, h⟩ := bind_some h
      refine go_callVi (pc := 21) X 2 [.int (i32 t10.1), .ref (ad (th + 13))] (ct_X0_gainOf ho h17) (shA ho) rfl gg_X0_137 hd_X0_gainOf ⟨Nat.le_of_ble_eq_true rfl, Nat.le_of_ble_eq_true rfl⟩ rfl rfl (Nat.le_of_ble_eq_true rfl) dX0_reckonGains_21 ?_
      obtain ⟨g18, h⟩ := gd_some h
      obtain ⟨S19, e20, h⟩ := wrk_some h
      refine go_iastE (pc := 24) X e20 (shA13 ho) (Nat.le_of_ble_eq_true rfl) rfl g18 dX0_reckonGains_24 ?_
      refine go_iinc (pc := 25) X [1, 2, 0] 2 (Ls' := [(0, .ref (ad th)), (1, .int (i32 a1)), (2, .int (i32 (t10.1 + 1)))]) dX0_reckonGains_25 rfl (by decide) rfl ?_
      refine go_goto (pc := 28) X 2 dX0_reckonGains_28 rfl ?_
      exact lp_back h hx13
  refine H9 FU (0, S) r7 h8 ?_
  exact go_vret (pc := 31) X h dX0_reckonGains_31
set_option maxRecDepth 100000 in
set_option maxHeartbeats 4000000 in
theorem ct_X0_gainOfSet {l : Launch} {D : va_G} {cI cB : ClassId} {Z : (Nat → Nat) × (Nat → Nat)} {ad : Nat → Nat} {S : Mem} {th : Nat} {a1 : Int} {r : Int} (ho : isAu th) (h : f_X0_gainOfSet S th a1 = some r) : Ctr l D cI cB Z ad shsC yX0_gainOfSet cX0_gainOfSet 4 (some .int) 0 0 [.ref (ad th), .int (i32 a1)] S (some (.int (i32 r))) S := by
  refine ctr_of (by decide +kernel) (Nat.le_of_ble_eq_true rfl) rfl ?_
  intro p e s m args below meth c A X
  unfold f_X0_gainOfSet at h
  refine go_iconst (pc := 0) X dX0_gainOfSet_0 ?_
  refine go_istore_n (pc := 1) X [1, 2, 0] (Ls' := [(0, .ref (ad th)), (1, .int (i32 a1)), (2, .int (i32 0))]) dX0_gainOfSet_1 rfl (by decide) rfl ?_
  refine go_iconst (pc := 2) X dX0_gainOfSet_2 ?_
  refine go_istore_n (pc := 3) X [1, 2, 3, 0] (Ls' := [(0, .ref (ad th)), (1, .int (i32 a1)), (2, .int (i32 0)), (3, .int (i32 0))]) dX0_gainOfSet_3 rfl (by decide) rfl ?_
  obtain ⟨r7, h8, h⟩ := bind_some h
  have H9 : ∀ (n : Nat) (t10 : Int × Int) (z11 : Int), lp (f_X0_gainOfSet_l4 S th a1) n t10 = some z11 → Go p l e { frames := 0, cells := 0, slots := 0, locals := 0 } s m args below meth c 4 D cI cB ad shsC A (MQ below (cQ D cI cB ad shsC (some (.int (i32 r))) S A) args s 0 0 A) 39 [(2, .int (i32 z11))] [] S → Go p l e { frames := 0, cells := 0, slots := 0, locals := 0 } s m args below meth c 4 D cI cB ad shsC A (MQ below (cQ D cI cB ad shsC (some (.int (i32 r))) S A) args s 0 0 A) 4 [(0, .ref (ad th)), (1, .int (i32 a1)), (2, .int (i32 t10.1)), (3, .int (i32 t10.2))] [] S := by
    refine lp_go (fun t10 : Int × Int => Go p l e { frames := 0, cells := 0, slots := 0, locals := 0 } s m args below meth c 4 D cI cB ad shsC A (MQ below (cQ D cI cB ad shsC (some (.int (i32 r))) S A) args s 0 0 A) 4 [(0, .ref (ad th)), (1, .int (i32 a1)), (2, .int (i32 t10.1)), (3, .int (i32 t10.2))] [] S) (fun z11 : Int => Go p l e { frames := 0, cells := 0, slots := 0, locals := 0 } s m args below meth c 4 D cI cB ad shsC A (MQ below (cQ D cI cB ad shsC (some (.int (i32 r))) S A) args s 0 0 A) 39 [(2, .int (i32 z11))] [] S) ?_
    intro t10 x12 h hx13
    unfold f_X0_gainOfSet_l4 at h
    refine go_iload_n (pc := 4) X 3 dX0_gainOfSet_4 rfl rfl ?_
    refine go_aload_n (pc := 5) X 0 dX0_gainOfSet_5 rfl rfl ?_
    refine go_getr (pc := 6) X (fk := 0) (shA ho) rfl inT_X0 (by decide) fL_X0_12 rfl dX0_gainOfSet_6 ?_
    refine go_get (pc := 9) X (fk := 2) (fi := 2) rfl (shB (auBk ho)) rfl inT_X1 (by decide) fL_X0_50 rfl dX0_gainOfSet_9 ?_
    refine go_icmp_ge (pc := 12) X 39 dX0_gainOfSet_12 rfl (fun c15 => ?_) (fun c15 => ?_)
    · rw [if_neg c15] at h
      refine go_pick [2] (Ls' := [(2, .int (i32 t10.1))]) rfl ?_
      exact lp_back h hx13
    · rw [if_pos c15] at h
      refine go_iload_n (pc := 15) X 1 dX0_gainOfSet_15 rfl rfl ?_
      refine go_iload_n (pc := 16) X 3 dX0_gainOfSet_16 rfl rfl ?_
      refine go_ishr (pc := 17) X dX0_gainOfSet_17 ?_
      refine go_iconst (pc := 18) X dX0_gainOfSet_18 ?_
      refine go_iand (pc := 19) X dX0_gainOfSet_19 ?_
      refine go_iconst (pc := 20) X dX0_gainOfSet_20 ?_
      obtain ⟨j16, h17, h⟩ := bind_some h
      have k18 : Go p l e { frames := 0, cells := 0, slots := 0, locals := 0 } s m args below meth c 4 D cI cB ad shsC A (MQ below (cQ D cI cB ad shsC (some (.int (i32 r))) S A) args s 0 0 A) 33 [(0, .ref (ad th)), (1, .int (i32 a1)), (2, .int (i32 j16)), (3, .int (i32 t10.2))] [] S := by
        refine go_iinc (pc := 33) X [1, 2, 3, 0] 3 (Ls' := [(0, .ref (ad th)), (1, .int (i32 a1)), (2, .int (i32 j16)), (3, .int (i32 (t10.2 + 1)))]) dX0_gainOfSet_33 rfl (by decide) rfl ?_
        refine go_goto (pc := 36) X 4 dX0_gainOfSet_36 rfl ?_
        exact lp_back h hx13
      refine go_icmp_ne (pc := 21) X 33 dX0_gainOfSet_21 rfl (fun c19 => ?_) (fun c19 => ?_)
      · rw [if_neg c19] at h17
        cases h17
        exact k18
      · rw [if_pos c19] at h17
        refine go_iload_n (pc := 24) X 2 dX0_gainOfSet_24 rfl rfl ?_
        refine go_aload_n (pc := 25) X 0 dX0_gainOfSet_25 rfl rfl ?_
        refine go_getr (pc := 26) X (fk := 10) (shA ho) rfl inT_X0 (by decide) fL_X0_47 rfl dX0_gainOfSet_26 ?_
        refine go_iload_n (pc := 29) X 3 dX0_gainOfSet_29 rfl rfl ?_
        obtain ⟨g20, h17⟩ := gd_some h17
        refine go_iald (pc := 30) X (shA13 ho) (Nat.le_of_ble_eq_true rfl) rfl g20 dX0_gainOfSet_30 ?_
        refine go_iadd (pc := 31) X dX0_gainOfSet_31 ?_
        refine go_istore_n (pc := 32) X [1, 2, 0, 3] (Ls' := [(0, .ref (ad th)), (1, .int (i32 a1)), (2, .int (i32 (t10.1 + (S (th + 13) t10.2)))), (3, .int (i32 t10.2))]) dX0_gainOfSet_32 rfl (by decide) rfl ?_
        cases h17
        exact k18
  refine H9 FU (0, 0) r7 h8 ?_
  refine go_iload_n (pc := 39) X 0 dX0_gainOfSet_39 rfl rfl ?_
  exact go_iretP (pc := 40) X h dX0_gainOfSet_40
