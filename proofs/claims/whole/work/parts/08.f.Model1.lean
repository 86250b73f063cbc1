set_option maxRecDepth 100000 in
set_option maxHeartbeats 4000000 in
theorem ct_X8_runs {l : Launch} {D : va_G} {cI cB : ClassId} {Z : (Nat → Nat) × (Nat → Nat)} {ad : Nat → Nat} {S : Mem} {S' : Mem} (h : f_X8_runs S = some S') : Ctr l D cI cB Z ad shsM yX8_runs cX8_runs 3 none 6 134 [.ref (ad 0)] S (none) S' := by
  refine ctr_of (by decide +kernel) (Nat.le_of_ble_eq_true rfl) rfl ?_
  intro p e s m args below meth c A X
  unfold f_X8_runs at h
  refine go_aload_n (pc := 0) X 0 dX8_runs_0 rfl rfl ?_
  refine go_iconst (pc := 1) X dX8_runs_1 ?_
  obtain ⟨S1, e2, h⟩ := wrk_some h
  refine go_putE (pc := 2) X (fk := 11) (fi := 11) rfl e2 sh8 rfl inT_X8 tyX8_ok nmX8 (by decide) fL_X8_135 rfl rfl rfl rfl rfl dX8_runs_2 ?_
  refine go_iconst (pc := 5) X dX8_runs_5 ?_
  refine go_istore_n (pc := 6) X [1, 0] (Ls' := [(0, .ref (ad 0)), (1, .int (i32 0))]) dX8_runs_6 rfl (by decide) rfl ?_
  obtain ⟨r9, h10, h⟩ := bind_some h
  have H11 : ∀ (n : Nat) (t12 : Int × Mem) (z13 : Mem), lp (f_X8_runs_l7) n t12 = some z13 → Go p l e { frames := 6, cells := 0, slots := 0, locals := 134 } s m args below meth c 3 D cI cB ad shsM A (MQ below (cQ D cI cB ad shsM (none) S' A) args s 0 0 A) 28 [(0, .ref (ad 0))] [] z13 → Go p l e { frames := 6, cells := 0, slots := 0, locals := 134 } s m args below meth c 3 D cI cB ad shsM A (MQ below (cQ D cI cB ad shsM (none) S' A) args s 0 0 A) 7 [(0, .ref (ad 0)), (1, .int (i32 t12.1))] [] t12.2 := by
    refine lp_go (fun t12 : Int × Mem => Go p l e { frames := 6, cells := 0, slots := 0, locals := 134 } s m args below meth c 3 D cI cB ad shsM A (MQ below (cQ D cI cB ad shsM (none) S' A) args s 0 0 A) 7 [(0, .ref (ad 0)), (1, .int (i32 t12.1))] [] t12.2) (fun z13 : Mem => Go p l e { frames := 6, cells := 0, slots := 0, locals := 134 } s m args below meth c 3 D cI cB ad shsM A (MQ below (cQ D cI cB ad shsM (none) S' A) args s 0 0 A) 28 [(0, .ref (ad 0))] [] z13) ?_
    intro t12 x14 h hx15
    unfold f_X8_runs_l7 at h
    refine go_iload_n (pc := 7) X 1 dX8_runs_7 rfl rfl ?_
    refine go_aload_n (pc := 8) X 0 dX8_runs_8 rfl rfl ?_
    obtain ⟨r17, h18, h⟩ := bind_some h
    refine go_callVi (pc := 9) X 0 [.int (i32 t12.1)] (ct_X8_many h18) sh8 rfl gg_X8_61 hd_X8_many ⟨Nat.le_of_ble_eq_true rfl, Nat.le_of_ble_eq_true rfl⟩ rfl rfl (Nat.le_of_ble_eq_true rfl) dX8_runs_9 ?_
    refine go_icmp_ge (pc := 12) X 28 dX8_runs_12 rfl (fun c19 => ?_) (fun c19 => ?_)
    · rw [if_neg c19] at h
      refine go_pick [0] (Ls' := [(0, .ref (ad 0))]) rfl ?_
      exact lp_back h hx15
    · rw [if_pos c19] at h
      refine go_aload_n (pc := 15) X 0 dX8_runs_15 rfl rfl ?_
      refine go_getr (pc := 16) X (fk := 6) sh8 rfl inT_X8 (by decide) fL_X8_26 rfl dX8_runs_16 ?_
      refine go_iload_n (pc := 19) X 1 dX8_runs_19 rfl rfl ?_
      refine go_iconst (pc := 20) X dX8_runs_20 ?_
      obtain ⟨g20, h⟩ := gd_some h
      obtain ⟨S21, e22, h⟩ := wrk_some h
      refine go_iastE (pc := 21) X e22 shM5 (Nat.le_of_ble_eq_true rfl) rfl g20 dX8_runs_21 ?_
      refine go_iinc (pc := 22) X [1, 0] 1 (Ls' := [(0, .ref (ad 0)), (1, .int (i32 (t12.1 + 1)))]) dX8_runs_22 rfl (by decide) rfl ?_
      refine go_goto (pc := 25) X 7 dX8_runs_25 rfl ?_
      exact lp_back h hx15
  refine H11 FU (0, S1) r9 h10 ?_
  refine go_aload_n (pc := 28) X 0 dX8_runs_28 rfl rfl ?_
  refine go_aload_n (pc := 29) X 0 dX8_runs_29 rfl rfl ?_
  refine go_getr (pc := 30) X (fk := 1) sh8 rfl inT_X8 (by decide) fL_X8_13 rfl dX8_runs_30 ?_
  refine go_iconst (pc := 33) X dX8_runs_33 ?_
  obtain ⟨g23, h⟩ := gd_some h
  refine go_iald (pc := 34) X shM1 (Nat.le_of_ble_eq_true rfl) rfl g23 dX8_runs_34 ?_
  obtain ⟨S24, e25, h⟩ := wrk_some h
  refine go_putE (pc := 35) X (fk := 12) (fi := 12) rfl e25 sh8 rfl inT_X8 tyX8_ok nmX8 (by decide) fL_X8_144 rfl rfl rfl rfl rfl dX8_runs_35 ?_
  refine go_aload_n (pc := 38) X 0 dX8_runs_38 rfl rfl ?_
  refine go_aload_n (pc := 39) X 0 dX8_runs_39 rfl rfl ?_
  refine go_get (pc := 40) X (fk := 12) (fi := 12) rfl sh8 rfl inT_X8 (by decide) fL_X8_144 rfl dX8_runs_40 ?_
  obtain ⟨S26, h27, h⟩ := bind_some h
  refine go_callVv (pc := 43) X 1 [] (ct_X8_shows h27) sh8 rfl gg_X8_147 hd_X8_shows ⟨Nat.le_of_ble_eq_true rfl, Nat.le_of_ble_eq_true rfl⟩ rfl rfl (Nat.le_of_ble_eq_true rfl) dX8_runs_43 ?_
  obtain ⟨r36, h37, h⟩ := bind_some h
  have H38 : ∀ (n : Nat) (t39 : Mem) (z40 : Mem), lp (f_X8_runs_l46) n t39 = some z40 → Go p l e { frames := 6, cells := 0, slots := 0, locals := 134 } s m args below meth c 3 D cI cB ad shsM A (MQ below (cQ D cI cB ad shsM (none) S' A) args s 0 0 A) 84 [(0, .ref (ad 0))] [] z40 → Go p l e { frames := 6, cells := 0, slots := 0, locals := 134 } s m args below meth c 3 D cI cB ad shsM A (MQ below (cQ D cI cB ad shsM (none) S' A) args s 0 0 A) 46 [(0, .ref (ad 0))] [] t39 := by
    refine lp_go (fun t39 : Mem => Go p l e { frames := 6, cells := 0, slots := 0, locals := 134 } s m args below meth c 3 D cI cB ad shsM A (MQ below (cQ D cI cB ad shsM (none) S' A) args s 0 0 A) 46 [(0, .ref (ad 0))] [] t39) (fun z40 : Mem => Go p l e { frames := 6, cells := 0, slots := 0, locals := 134 } s m args below meth c 3 D cI cB ad shsM A (MQ below (cQ D cI cB ad shsM (none) S' A) args s 0 0 A) 84 [(0, .ref (ad 0))] [] z40) ?_
    intro t39 x41 h hx42
    unfold f_X8_runs_l46 at h
    refine go_aload_n (pc := 46) X 0 dX8_runs_46 rfl rfl ?_
    refine go_aload_n (pc := 47) X 0 dX8_runs_47 rfl rfl ?_
    refine go_get (pc := 48) X (fk := 12) (fi := 12) rfl sh8 rfl inT_X8 (by decide) fL_X8_144 rfl dX8_runs_48 ?_
    obtain ⟨r44, h45, h⟩ := bind_some h
    refine go_callVi (pc := 51) X 1 [] (ct_X8_wantedAt h45) sh8 rfl gg_X8_132 hd_X8_wantedAt ⟨Nat.le_of_ble_eq_true rfl, Nat.le_of_ble_eq_true rfl⟩ rfl rfl (Nat.le_of_ble_eq_true rfl) dX8_runs_51 ?_
    refine go_aload_n (pc := 54) X 0 dX8_runs_54 rfl rfl ?_
    refine go_getr (pc := 55) X (fk := 1) sh8 rfl inT_X8 (by decide) fL_X8_13 rfl dX8_runs_55 ?_
    refine go_iconst (pc := 58) X dX8_runs_58 ?_
    obtain ⟨g46, h⟩ := gd_some h
    refine go_iald (pc := 59) X shM1 (Nat.le_of_ble_eq_true rfl) rfl g46 dX8_runs_59 ?_
    refine go_icmp_le (pc := 60) X 84 dX8_runs_60 rfl (fun c47 => ?_) (fun c47 => ?_)
    · rw [if_neg c47] at h
      exact lp_back h hx42
    · rw [if_pos c47] at h
      refine go_aload_n (pc := 63) X 0 dX8_runs_63 rfl rfl ?_
      refine go_dup (pc := 64) X dX8_runs_64 rfl ?_
      refine go_get (pc := 65) X (fk := 12) (fi := 12) rfl sh8 rfl inT_X8 (by decide) fL_X8_144 rfl dX8_runs_65 ?_
      refine go_iconst (pc := 68) X dX8_runs_68 ?_
      refine go_iadd (pc := 69) X dX8_runs_69 ?_
      obtain ⟨S48, e49, h⟩ := wrk_some h
      refine go_putE (pc := 70) X (fk := 12) (fi := 12) rfl e49 sh8 rfl inT_X8 tyX8_ok nmX8 (by decide) fL_X8_144 rfl rfl rfl rfl rfl dX8_runs_70 ?_
      refine go_aload_n (pc := 73) X 0 dX8_runs_73 rfl rfl ?_
      refine go_aload_n (pc := 74) X 0 dX8_runs_74 rfl rfl ?_
      refine go_get (pc := 75) X (fk := 12) (fi := 12) rfl sh8 rfl inT_X8 (by decide) fL_X8_144 rfl dX8_runs_75 ?_
      obtain ⟨S50, h51, h⟩ := bind_some h
      refine go_callVv (pc := 78) X 1 [] (ct_X8_shows h51) sh8 rfl gg_X8_147 hd_X8_shows ⟨Nat.le_of_ble_eq_true rfl, Nat.le_of_ble_eq_true rfl⟩ rfl rfl (Nat.le_of_ble_eq_true rfl) dX8_runs_78 ?_
      refine go_goto (pc := 81) X 46 dX8_runs_81 rfl ?_
      exact lp_back h hx42
  refine H38 FU S26 r36 h37 ?_
  refine go_iconst (pc := 84) X dX8_runs_84 ?_
  refine go_istore_n (pc := 85) X [1, 0] (Ls' := [(0, .ref (ad 0)), (1, .int (i32 0))]) dX8_runs_85 rfl (by decide) rfl ?_
  obtain ⟨r58, h59, h⟩ := bind_some h
  have H60 : ∀ (n : Nat) (t61 : Int × Mem) (z62 : Mem), lp (f_X8_runs_l86) n t61 = some z62 → Go p l e { frames := 6, cells := 0, slots := 0, locals := 134 } s m args below meth c 3 D cI cB ad shsM A (MQ below (cQ D cI cB ad shsM (none) S' A) args s 0 0 A) 112 [(0, .ref (ad 0))] [] z62 → Go p l e { frames := 6, cells := 0, slots := 0, locals := 134 } s m args below meth c 3 D cI cB ad shsM A (MQ below (cQ D cI cB ad shsM (none) S' A) args s 0 0 A) 86 [(0, .ref (ad 0)), (1, .int (i32 t61.1))] [] t61.2 := by
    refine lp_go (fun t61 : Int × Mem => Go p l e { frames := 6, cells := 0, slots := 0, locals := 134 } s m args below meth c 3 D cI cB ad shsM A (MQ below (cQ D cI cB ad shsM (none) S' A) args s 0 0 A) 86 [(0, .ref (ad 0)), (1, .int (i32 t61.1))] [] t61.2) (fun z62 : Mem => Go p l e { frames := 6, cells := 0, slots := 0, locals := 134 } s m args below meth c 3 D cI cB ad shsM A (MQ below (cQ D cI cB ad shsM (none) S' A) args s 0 0 A) 112 [(0, .ref (ad 0))] [] z62) ?_
    intro t61 x63 h hx64
    unfold f_X8_runs_l86 at h
    refine go_iload_n (pc := 86) X 1 dX8_runs_86 rfl rfl ?_
    refine go_aload_n (pc := 87) X 0 dX8_runs_87 rfl rfl ?_
    obtain ⟨r66, h67, h⟩ := bind_some h
    refine go_callVi (pc := 88) X 0 [.int (i32 t61.1)] (ct_X8_many h67) sh8 rfl gg_X8_61 hd_X8_many ⟨Nat.le_of_ble_eq_true rfl, Nat.le_of_ble_eq_true rfl⟩ rfl rfl (Nat.le_of_ble_eq_true rfl) dX8_runs_88 ?_
    refine go_icmp_ge (pc := 91) X 112 dX8_runs_91 rfl (fun c68 => ?_) (fun c68 => ?_)
    · rw [if_neg c68] at h
      refine go_pick [0] (Ls' := [(0, .ref (ad 0))]) rfl ?_
      exact lp_back h hx64
    · rw [if_pos c68] at h
      refine go_aload_n (pc := 94) X 0 dX8_runs_94 rfl rfl ?_
      refine go_getr (pc := 95) X (fk := 7) sh8 rfl inT_X8 (by decide) fL_X8_29 rfl dX8_runs_95 ?_
      refine go_iload_n (pc := 98) X 1 dX8_runs_98 rfl rfl ?_
      refine go_aload_n (pc := 99) X 0 dX8_runs_99 rfl rfl ?_
      refine go_getr (pc := 100) X (fk := 6) sh8 rfl inT_X8 (by decide) fL_X8_26 rfl dX8_runs_100 ?_
      refine go_iload_n (pc := 103) X 1 dX8_runs_103 rfl rfl ?_
      obtain ⟨g69, h⟩ := gd_some h
      refine go_iald (pc := 104) X shM5 (Nat.le_of_ble_eq_true rfl) rfl g69 dX8_runs_104 ?_
      obtain ⟨S70, e71, h⟩ := wrk_some h
      refine go_iastE (pc := 105) X e71 shM6 (Nat.le_of_ble_eq_true rfl) rfl g69 dX8_runs_105 ?_
      refine go_iinc (pc := 106) X [1, 0] 1 (Ls' := [(0, .ref (ad 0)), (1, .int (i32 (t61.1 + 1)))]) dX8_runs_106 rfl (by decide) rfl ?_
      refine go_goto (pc := 109) X 86 dX8_runs_109 rfl ?_
      exact lp_back h hx64
  refine H60 FU (0, r36) r58 h59 ?_
  refine go_iconst (pc := 112) X dX8_runs_112 ?_
  refine go_istore_n (pc := 113) X [1, 0] (Ls' := [(0, .ref (ad 0)), (1, .int (i32 1))]) dX8_runs_113 rfl (by decide) rfl ?_
  obtain ⟨r109, h110, h⟩ := bind_some h
  have H111 : ∀ (n : Nat) (t112 : Int × Mem) (z113 : Mem), lp (f_X8_runs_l114) n t112 = some z113 → Go p l e { frames := 6, cells := 0, slots := 0, locals := 134 } s m args below meth c 3 D cI cB ad shsM A (MQ below (cQ D cI cB ad shsM (none) S' A) args s 0 0 A) 186 [] [] z113 → Go p l e { frames := 6, cells := 0, slots := 0, locals := 134 } s m args below meth c 3 D cI cB ad shsM A (MQ below (cQ D cI cB ad shsM (none) S' A) args s 0 0 A) 114 [(0, .ref (ad 0)), (1, .int (i32 t112.1))] [] t112.2 := by
    refine lp_go (fun t112 : Int × Mem => Go p l e { frames := 6, cells := 0, slots := 0, locals := 134 } s m args below meth c 3 D cI cB ad shsM A (MQ below (cQ D cI cB ad shsM (none) S' A) args s 0 0 A) 114 [(0, .ref (ad 0)), (1, .int (i32 t112.1))] [] t112.2) (fun z113 : Mem => Go p l e { frames := 6, cells := 0, slots := 0, locals := 134 } s m args below meth c 3 D cI cB ad shsM A (MQ below (cQ D cI cB ad shsM (none) S' A) args s 0 0 A) 186 [] [] z113) ?_
    intro t112 x114 h hx115
    unfold f_X8_runs_l114 at h
    refine go_iload_n (pc := 114) X 1 dX8_runs_114 rfl rfl ?_
    refine go_if_eq (pc := 115) X 186 dX8_runs_115 rfl (fun c117 => ?_) (fun c117 => ?_)
    · rw [if_pos c117] at h
      refine go_pick [] (Ls' := []) rfl ?_
      exact lp_back h hx115
    · rw [if_neg c117] at h
      refine go_iconst (pc := 118) X dX8_runs_118 ?_
      refine go_istore_n (pc := 119) X [1, 0] (Ls' := [(0, .ref (ad 0)), (1, .int (i32 0))]) dX8_runs_119 rfl (by decide) rfl ?_
      refine go_iconst (pc := 120) X dX8_runs_120 ?_
      refine go_istore_n (pc := 121) X [1, 2, 0] (Ls' := [(0, .ref (ad 0)), (1, .int (i32 0)), (2, .int (i32 0))]) dX8_runs_121 rfl (by decide) rfl ?_
      obtain ⟨r118, h119, h⟩ := bind_some h
      have H120 : ∀ (n : Nat) (t121 : Int × Int × Mem) (z122 : Int × Mem), lp (f_X8_runs_l122) n t121 = some z122 → Go p l e { frames := 6, cells := 0, slots := 0, locals := 134 } s m args below meth c 3 D cI cB ad shsM A (MQ below (cQ D cI cB ad shsM (none) S' A) args s 0 0 A) 183 [(0, .ref (ad 0)), (1, .int (i32 z122.1))] [] z122.2 → Go p l e { frames := 6, cells := 0, slots := 0, locals := 134 } s m args below meth c 3 D cI cB ad shsM A (MQ below (cQ D cI cB ad shsM (none) S' A) args s 0 0 A) 122 [(0, .ref (ad 0)), (1, .int (i32 t121.1)), (2, .int (i32 t121.2.1))] [] t121.2.2 := by
        refine lp_go (fun t121 : Int × Int × Mem => Go p l e { frames := 6, cells := 0, slots := 0, locals := 134 } s m args below meth c 3 D cI cB ad shsM A (MQ below (cQ D cI cB ad shsM (none) S' A) args s 0 0 A) 122 [(0, .ref (ad 0)), (1, .int (i32 t121.1)), (2, .int (i32 t121.2.1))] [] t121.2.2) (fun z122 : Int × Mem => Go p l e { frames := 6, cells := 0, slots := 0, locals := 134 } s m args below meth c 3 D cI cB ad shsM A (MQ below (cQ D cI cB ad shsM (none) S' A) args s 0 0 A) 183 [(0, .ref (ad 0)), (1, .int (i32 z122.1))] [] z122.2) ?_
        intro t121 x123 h hx124
        unfold f_X8_runs_l122 at h
        refine go_iload_n (pc := 122) X 2 dX8_runs_122 rfl rfl ?_
        refine go_aload_n (pc := 123) X 0 dX8_runs_123 rfl rfl ?_
        obtain ⟨r126, h127, h⟩ := bind_some h
        refine go_callVi (pc := 124) X 0 [.int (i32 t121.2.1)] (ct_X8_many h127) sh8 rfl gg_X8_61 hd_X8_many ⟨Nat.le_of_ble_eq_true rfl, Nat.le_of_ble_eq_true rfl⟩ rfl rfl (Nat.le_of_ble_eq_true rfl) dX8_runs_124 ?_
        refine go_icmp_ge (pc := 127) X 183 dX8_runs_127 rfl (fun c128 => ?_) (fun c128 => ?_)
        · rw [if_neg c128] at h
          refine go_pick [0, 1] (Ls' := [(0, .ref (ad 0)), (1, .int (i32 t121.1))]) rfl ?_
          exact lp_back h hx124
        · rw [if_pos c128] at h
          refine go_aload_n (pc := 130) X 0 dX8_runs_130 rfl rfl ?_
          refine go_get (pc := 131) X (fk := 11) (fi := 11) rfl sh8 rfl inT_X8 (by decide) fL_X8_135 rfl dX8_runs_131 ?_
          refine go_aload_n (pc := 134) X 0 dX8_runs_134 rfl rfl ?_
          refine go_getr (pc := 135) X (fk := 1) sh8 rfl inT_X8 (by decide) fL_X8_13 rfl dX8_runs_135 ?_
          refine go_iconst (pc := 138) X dX8_runs_138 ?_
          obtain ⟨g129, h⟩ := gd_some h
          refine go_iald (pc := 139) X shM1 (Nat.le_of_ble_eq_true rfl) rfl g129 dX8_runs_139 ?_
          refine go_icmp_ge (pc := 140) X 183 dX8_runs_140 rfl (fun c130 => ?_) (fun c130 => ?_)
          · rw [if_neg c130] at h
            refine go_pick [0, 1] (Ls' := [(0, .ref (ad 0)), (1, .int (i32 t121.1))]) rfl ?_
            exact lp_back h hx124
          · rw [if_pos c130] at h
            refine go_aload_n (pc := 143) X 0 dX8_runs_143 rfl rfl ?_
            refine go_iload_n (pc := 144) X 2 dX8_runs_144 rfl rfl ?_
            refine go_aload_n (pc := 145) X 0 dX8_runs_145 rfl rfl ?_
            refine go_get (pc := 146) X (fk := 12) (fi := 12) rfl sh8 rfl inT_X8 (by decide) fL_X8_144 rfl dX8_runs_146 ?_
            refine go_iconst (pc := 149) X dX8_runs_149 ?_
            refine go_isub (pc := 150) X dX8_runs_150 ?_
            obtain ⟨r131, h132, h⟩ := bind_some h
            refine go_callVi (pc := 151) X 2 [] (ct_X8_aboveOf h132) sh8 rfl gg_X8_129 hd_X8_aboveOf ⟨Nat.le_of_ble_eq_true rfl, Nat.le_of_ble_eq_true rfl⟩ rfl rfl (Nat.le_of_ble_eq_true rfl) dX8_runs_151 ?_
            refine go_aload_n (pc := 154) X 0 dX8_runs_154 rfl rfl ?_
            refine go_getr (pc := 155) X (fk := 6) sh8 rfl inT_X8 (by decide) fL_X8_26 rfl dX8_runs_155 ?_
            refine go_iload_n (pc := 158) X 2 dX8_runs_158 rfl rfl ?_
            obtain ⟨g133, h⟩ := gd_some h
            refine go_iald (pc := 159) X shM5 (Nat.le_of_ble_eq_true rfl) rfl g133 dX8_runs_159 ?_
            obtain ⟨j134, h135, h⟩ := bind_some h
            have k136 : Go p l e { frames := 6, cells := 0, slots := 0, locals := 134 } s m args below meth c 3 D cI cB ad shsM A (MQ below (cQ D cI cB ad shsM (none) S' A) args s 0 0 A) 177 [(0, .ref (ad 0)), (1, .int (i32 j134.1)), (2, .int (i32 t121.2.1))] [] j134.2 := by
              refine go_iinc (pc := 177) X [1, 2, 0] 2 (Ls' := [(0, .ref (ad 0)), (1, .int (i32 j134.1)), (2, .int (i32 (t121.2.1 + 1)))]) dX8_runs_177 rfl (by decide) rfl ?_
              refine go_goto (pc := 180) X 122 dX8_runs_180 rfl ?_
              exact lp_back h hx124
            refine go_icmp_gt (pc := 160) X 166 dX8_runs_160 rfl (fun c137 => ?_) (fun c137 => ?_)
            · rw [if_pos c137] at h135
              refine go_aload_n (pc := 166) X 0 dX8_runs_166 rfl rfl ?_
              refine go_iload_n (pc := 167) X 2 dX8_runs_167 rfl rfl ?_
              refine go_aload_n (pc := 168) X 0 dX8_runs_168 rfl rfl ?_
              refine go_get (pc := 169) X (fk := 12) (fi := 12) rfl sh8 rfl inT_X8 (by decide) fL_X8_144 rfl dX8_runs_169 ?_
              obtain ⟨S138, h139, h135⟩ := bind_some h135
              refine go_callVv (pc := 172) X 2 [] (ct_X8_gets h139) sh8 rfl gg_X8_141 hd_X8_gets ⟨Nat.le_of_ble_eq_true rfl, Nat.le_of_ble_eq_true rfl⟩ rfl rfl (Nat.le_of_ble_eq_true rfl) dX8_runs_172 ?_
              refine go_iconst (pc := 175) X dX8_runs_175 ?_
              refine go_istore_n (pc := 176) X [1, 0, 2] (Ls' := [(0, .ref (ad 0)), (1, .int (i32 1)), (2, .int (i32 t121.2.1))]) dX8_runs_176 rfl (by decide) rfl ?_
              cases h135
              exact k136
            · rw [if_neg c137] at h135
              refine go_goto (pc := 163) X 177 dX8_runs_163 rfl ?_
              cases h135
              exact k136
      refine H120 FU (0, 0, t112.2) r118 h119 ?_
      refine go_goto (pc := 183) X 114 dX8_runs_183 rfl ?_
      exact lp_back h hx115
  refine H111 FU (1, r58) r109 h110 ?_
  exact go_vret (pc := 186) X h dX8_runs_186
set_option maxRecDepth 100000 in
set_option maxHeartbeats 4000000 in
theorem ct_X8_firstOf {l : Launch} {D : va_G} {cI cB : ClassId} {Z : (Nat → Nat) × (Nat → Nat)} {ad : Nat → Nat} {S : Mem} {a1 : Int} {a2 : Int} {r : Int} (h : f_X8_firstOf S a1 a2 = some r) : Ctr l D cI cB Z ad shsM yX8_firstOf cX8_firstOf 5 (some .int) 1 22 [.ref (ad 0), .int (i32 a1), .int (i32 a2)] S (some (.int (i32 r))) S := by
  refine ctr_of (by decide +kernel) (Nat.le_of_ble_eq_true rfl) rfl ?_
  intro p e s m args below meth c A X
  unfold f_X8_firstOf at h
  refine go_iconst (pc := 0) X dX8_firstOf_0 ?_
  refine go_istore_n (pc := 1) X [1, 2, 3, 0] (Ls' := [(0, .ref (ad 0)), (1, .int (i32 a1)), (2, .int (i32 a2)), (3, .int (i32 0))]) dX8_firstOf_1 rfl (by decide) rfl ?_
  refine go_iconst (pc := 2) X dX8_firstOf_2 ?_
  refine go_istore (pc := 3) X [1, 2, 3, 4, 0] (Ls' := [(0, .ref (ad 0)), (1, .int (i32 a1)), (2, .int (i32 a2)), (3, .int (i32 0)), (4, .int (i32 0))]) dX8_firstOf_3 (by decide) rfl ?_
  obtain ⟨r4, h5, h⟩ := bind_some h
  have H6 : ∀ (n : Nat) (t7 : Int × Int) (z8 : Int), lp (f_X8_firstOf_l5 S a1 a2) n t7 = some z8 → Go p l e { frames := 1, cells := 0, slots := 0, locals := 22 } s m args below meth c 5 D cI cB ad shsM A (MQ below (cQ D cI cB ad shsM (some (.int (i32 r))) S A) args s 0 0 A) 27 [(3, .int (i32 z8))] [] S → Go p l e { frames := 1, cells := 0, slots := 0, locals := 22 } s m args below meth c 5 D cI cB ad shsM A (MQ below (cQ D cI cB ad shsM (some (.int (i32 r))) S A) args s 0 0 A) 5 [(0, .ref (ad 0)), (1, .int (i32 a1)), (2, .int (i32 a2)), (3, .int (i32 t7.1)), (4, .int (i32 t7.2))] [] S := by
    refine lp_go (fun t7 : Int × Int => Go p l e { frames := 1, cells := 0, slots := 0, locals := 22 } s m args below meth c 5 D cI cB ad shsM A (MQ below (cQ D cI cB ad shsM (some (.int (i32 r))) S A) args s 0 0 A) 5 [(0, .ref (ad 0)), (1, .int (i32 a1)), (2, .int (i32 a2)), (3, .int (i32 t7.1)), (4, .int (i32 t7.2))] [] S) (fun z8 : Int => Go p l e { frames := 1, cells := 0, slots := 0, locals := 22 } s m args below meth c 5 D cI cB ad shsM A (MQ below (cQ D cI cB ad shsM (some (.int (i32 r))) S A) args s 0 0 A) 27 [(3, .int (i32 z8))] [] S) ?_
    intro t7 x9 h hx10
    unfold f_X8_firstOf_l5 at h
    refine go_iload (pc := 5) X 4 dX8_firstOf_5 rfl ?_
    refine go_iload_n (pc := 7) X 2 dX8_firstOf_7 rfl rfl ?_
    refine go_icmp_ge (pc := 8) X 27 dX8_firstOf_8 rfl (fun c12 => ?_) (fun c12 => ?_)
    · rw [if_neg c12] at h
      refine go_pick [3] (Ls' := [(3, .int (i32 t7.1))]) rfl ?_
      exact lp_back h hx10
    · rw [if_pos c12] at h
      refine go_iload_n (pc := 11) X 3 dX8_firstOf_11 rfl rfl ?_
      refine go_aload_n (pc := 12) X 0 dX8_firstOf_12 rfl rfl ?_
      refine go_iload_n (pc := 13) X 1 dX8_firstOf_13 rfl rfl ?_
      refine go_iload (pc := 14) X 4 dX8_firstOf_14 rfl ?_
      obtain ⟨r13, h14, h⟩ := bind_some h
      refine go_callVi (pc := 16) X 2 [.int (i32 t7.1)] (ct_X8_valueAt h14) sh8 rfl gg_X8_114 hd_X8_valueAt ⟨Nat.le_of_ble_eq_true rfl, Nat.le_of_ble_eq_true rfl⟩ rfl rfl (Nat.le_of_ble_eq_true rfl) dX8_firstOf_16 ?_
      refine go_iadd (pc := 19) X dX8_firstOf_19 ?_
      refine go_istore_n (pc := 20) X [1, 2, 3, 0, 4] (Ls' := [(0, .ref (ad 0)), (1, .int (i32 a1)), (2, .int (i32 a2)), (3, .int (i32 (t7.1 + r13))), (4, .int (i32 t7.2))]) dX8_firstOf_20 rfl (by decide) rfl ?_
      refine go_iinc (pc := 21) X [1, 2, 3, 4, 0] 4 (Ls' := [(0, .ref (ad 0)), (1, .int (i32 a1)), (2, .int (i32 a2)), (3, .int (i32 (t7.1 + r13))), (4, .int (i32 (t7.2 + 1)))]) dX8_firstOf_21 rfl (by decide) rfl ?_
      refine go_goto (pc := 24) X 5 dX8_firstOf_24 rfl ?_
      exact lp_back h hx10
  refine H6 FU (0, 0) r4 h5 ?_
  refine go_iload_n (pc := 27) X 0 dX8_firstOf_27 rfl rfl ?_
  exact go_iretP (pc := 28) X h dX8_firstOf_28
set_option maxRecDepth 100000 in
set_option maxHeartbeats 4000000 in
theorem ct_X8_unsold {l : Launch} {D : va_G} {cI cB : ClassId} {Z : (Nat → Nat) × (Nat → Nat)} {ad : Nat → Nat} {S : Mem} {r : Int} (h : f_X8_unsold S = some r) : Ctr l D cI cB Z ad shsM yX8_unsold cX8_unsold 1 (some .int) 0 0 [.ref (ad 0)] S (some (.int (i32 r))) S := by
  refine ctr_of (by decide +kernel) (Nat.le_of_ble_eq_true rfl) rfl ?_
  intro p e s m args below meth c A X
  unfold f_X8_unsold at h
  refine go_aload_n (pc := 0) X 0 dX8_unsold_0 rfl rfl ?_
  refine go_getr (pc := 1) X (fk := 1) sh8 rfl inT_X8 (by decide) fL_X8_13 rfl dX8_unsold_1 ?_
  refine go_iconst (pc := 4) X dX8_unsold_4 ?_
  obtain ⟨g1, h⟩ := gd_some h
  refine go_iald (pc := 5) X shM1 (Nat.le_of_ble_eq_true rfl) rfl g1 dX8_unsold_5 ?_
  refine go_aload_n (pc := 6) X 0 dX8_unsold_6 rfl rfl ?_
  refine go_get (pc := 7) X (fk := 11) (fi := 11) rfl sh8 rfl inT_X8 (by decide) fL_X8_135 rfl dX8_unsold_7 ?_
  refine go_isub (pc := 10) X dX8_unsold_10 ?_
  exact go_iretP (pc := 11) X h dX8_unsold_11
set_option maxRecDepth 100000 in
set_option maxHeartbeats 4000000 in
theorem ct_X8_worthTo {l : Launch} {D : va_G} {cI cB : ClassId} {Z : (Nat → Nat) × (Nat → Nat)} {ad : Nat → Nat} {S : Mem} {a1 : Int} {a2 : Int} {r : Int} {S' : Mem} (h : f_X8_worthTo S a1 a2 = some (r, S')) : Ctr l D cI cB Z ad shsM yX8_worthTo cX8_worthTo 7 (some .int) 2 42 [.ref (ad 0), .int (i32 a1), .int (i32 a2)] S (some (.int (i32 r))) S' := by
  refine ctr_of (by decide +kernel) (Nat.le_of_ble_eq_true rfl) rfl ?_
  intro p e s m args below meth c A X
  unfold f_X8_worthTo at h
  refine go_iconst (pc := 0) X dX8_worthTo_0 ?_
  refine go_istore_n (pc := 1) X [1, 2, 3, 0] (Ls' := [(0, .ref (ad 0)), (1, .int (i32 a1)), (2, .int (i32 a2)), (3, .int (i32 0))]) dX8_worthTo_1 rfl (by decide) rfl ?_
  obtain ⟨r5, h6, h⟩ := bind_some h
  have H7 : ∀ (n : Nat) (t8 : Int × Mem) (z9 : Mem), lp (f_X8_worthTo_l2 a1 a2) n t8 = some z9 → Go p l e { frames := 2, cells := 0, slots := 0, locals := 42 } s m args below meth c 7 D cI cB ad shsM A (MQ below (cQ D cI cB ad shsM (some (.int (i32 r))) S' A) args s 0 0 A) 21 [(0, .ref (ad 0)), (1, .int (i32 a1)), (2, .int (i32 a2))] [] z9 → Go p l e { frames := 2, cells := 0, slots := 0, locals := 42 } s m args below meth c 7 D cI cB ad shsM A (MQ below (cQ D cI cB ad shsM (some (.int (i32 r))) S' A) args s 0 0 A) 2 [(0, .ref (ad 0)), (1, .int (i32 a1)), (2, .int (i32 a2)), (3, .int (i32 t8.1))] [] t8.2 := by
    refine lp_go (fun t8 : Int × Mem => Go p l e { frames := 2, cells := 0, slots := 0, locals := 42 } s m args below meth c 7 D cI cB ad shsM A (MQ below (cQ D cI cB ad shsM (some (.int (i32 r))) S' A) args s 0 0 A) 2 [(0, .ref (ad 0)), (1, .int (i32 a1)), (2, .int (i32 a2)), (3, .int (i32 t8.1))] [] t8.2) (fun z9 : Mem => Go p l e { frames := 2, cells := 0, slots := 0, locals := 42 } s m args below meth c 7 D cI cB ad shsM A (MQ below (cQ D cI cB ad shsM (some (.int (i32 r))) S' A) args s 0 0 A) 21 [(0, .ref (ad 0)), (1, .int (i32 a1)), (2, .int (i32 a2))] [] z9) ?_
    intro t8 x10 h hx11
    unfold f_X8_worthTo_l2 at h
    refine go_iload_n (pc := 2) X 3 dX8_worthTo_2 rfl rfl ?_
    refine go_bipush (pc := 3) X dX8_worthTo_3 (by decide) (by decide) ?_
    refine go_icmp_gt (pc := 5) X 21 dX8_worthTo_5 rfl (fun c13 => ?_) (fun c13 => ?_)
    · rw [if_pos c13] at h
      refine go_pick [0, 1, 2] (Ls' := [(0, .ref (ad 0)), (1, .int (i32 a1)), (2, .int (i32 a2))]) rfl ?_
      exact lp_back h hx11
    · rw [if_neg c13] at h
      refine go_aload_n (pc := 8) X 0 dX8_worthTo_8 rfl rfl ?_
      refine go_getr (pc := 9) X (fk := 13) sh8 rfl inT_X8 (by decide) fL_X8_41 rfl dX8_worthTo_9 ?_
      refine go_iload_n (pc := 12) X 3 dX8_worthTo_12 rfl rfl ?_
      refine go_iconst (pc := 13) X dX8_worthTo_13 ?_
      obtain ⟨g14, h⟩ := gd_some h
      obtain ⟨S15, e16, h⟩ := wrk_some h
      refine go_iastE (pc := 14) X e16 shM10 (Nat.le_of_ble_eq_true rfl) rfl g14 dX8_worthTo_14 ?_
      refine go_iinc (pc := 15) X [1, 2, 3, 0] 3 (Ls' := [(0, .ref (ad 0)), (1, .int (i32 a1)), (2, .int (i32 a2)), (3, .int (i32 (t8.1 + 1)))]) dX8_worthTo_15 rfl (by decide) rfl ?_
      refine go_goto (pc := 18) X 2 dX8_worthTo_18 rfl ?_
      exact lp_back h hx11
  refine H7 FU (0, S) r5 h6 ?_
  refine go_iconst (pc := 21) X dX8_worthTo_21 ?_
  refine go_istore_n (pc := 22) X [1, 2, 3, 0] (Ls' := [(0, .ref (ad 0)), (1, .int (i32 a1)), (2, .int (i32 a2)), (3, .int (i32 0))]) dX8_worthTo_22 rfl (by decide) rfl ?_
  obtain ⟨r48, h49, h⟩ := bind_some h
  have H50 : ∀ (n : Nat) (t51 : Int × Mem) (z52 : Mem), lp (f_X8_worthTo_l23 a1 a2) n t51 = some z52 → Go p l e { frames := 2, cells := 0, slots := 0, locals := 42 } s m args below meth c 7 D cI cB ad shsM A (MQ below (cQ D cI cB ad shsM (some (.int (i32 r))) S' A) args s 0 0 A) 83 [(0, .ref (ad 0)), (2, .int (i32 a2))] [] z52 → Go p l e { frames := 2, cells := 0, slots := 0, locals := 42 } s m args below meth c 7 D cI cB ad shsM A (MQ below (cQ D cI cB ad shsM (some (.int (i32 r))) S' A) args s 0 0 A) 23 [(0, .ref (ad 0)), (1, .int (i32 a1)), (2, .int (i32 a2)), (3, .int (i32 t51.1))] [] t51.2 := by
    refine lp_go (fun t51 : Int × Mem => Go p l e { frames := 2, cells := 0, slots := 0, locals := 42 } s m args below meth c 7 D cI cB ad shsM A (MQ below (cQ D cI cB ad shsM (some (.int (i32 r))) S' A) args s 0 0 A) 23 [(0, .ref (ad 0)), (1, .int (i32 a1)), (2, .int (i32 a2)), (3, .int (i32 t51.1))] [] t51.2) (fun z52 : Mem => Go p l e { frames := 2, cells := 0, slots := 0, locals := 42 } s m args below meth c 7 D cI cB ad shsM A (MQ below (cQ D cI cB ad shsM (some (.int (i32 r))) S' A) args s 0 0 A) 83 [(0, .ref (ad 0)), (2, .int (i32 a2))] [] z52) ?_
    intro t51 x53 h hx54
    unfold f_X8_worthTo_l23 at h
    refine go_iload_n (pc := 23) X 3 dX8_worthTo_23 rfl rfl ?_
    refine go_aload_n (pc := 24) X 0 dX8_worthTo_24 rfl rfl ?_
    obtain ⟨r56, h57, h⟩ := bind_some h
    refine go_callVi (pc := 25) X 0 [.int (i32 t51.1)] (ct_X8_many h57) sh8 rfl gg_X8_61 hd_X8_many ⟨Nat.le_of_ble_eq_true rfl, Nat.le_of_ble_eq_true rfl⟩ rfl rfl (Nat.le_of_ble_eq_true rfl) dX8_worthTo_25 ?_
    refine go_icmp_ge (pc := 28) X 83 dX8_worthTo_28 rfl (fun c58 => ?_) (fun c58 => ?_)
    · rw [if_neg c58] at h
      refine go_pick [0, 2] (Ls' := [(0, .ref (ad 0)), (2, .int (i32 a2))]) rfl ?_
      exact lp_back h hx54
    · rw [if_pos c58] at h
      refine go_iload_n (pc := 31) X 1 dX8_worthTo_31 rfl rfl ?_
      refine go_iload_n (pc := 32) X 3 dX8_worthTo_32 rfl rfl ?_
      refine go_ishr (pc := 33) X dX8_worthTo_33 ?_
      refine go_iconst (pc := 34) X dX8_worthTo_34 ?_
      refine go_iand (pc := 35) X dX8_worthTo_35 ?_
      obtain ⟨j59, h60, h⟩ := bind_some h
      have k61 : Go p l e { frames := 2, cells := 0, slots := 0, locals := 42 } s m args below meth c 7 D cI cB ad shsM A (MQ below (cQ D cI cB ad shsM (some (.int (i32 r))) S' A) args s 0 0 A) 77 [(0, .ref (ad 0)), (1, .int (i32 a1)), (2, .int (i32 a2)), (3, .int (i32 t51.1))] [] j59 := by
        refine go_iinc (pc := 77) X [1, 2, 3, 0] 3 (Ls' := [(0, .ref (ad 0)), (1, .int (i32 a1)), (2, .int (i32 a2)), (3, .int (i32 (t51.1 + 1)))]) dX8_worthTo_77 rfl (by decide) rfl ?_
        refine go_goto (pc := 80) X 23 dX8_worthTo_80 rfl ?_
        exact lp_back h hx54
      refine go_if_ne (pc := 36) X 42 dX8_worthTo_36 rfl (fun c62 => ?_) (fun c62 => ?_)
      · rw [if_neg c62] at h60
        refine go_iconst (pc := 42) X dX8_worthTo_42 ?_
        refine go_istore (pc := 43) X [1, 2, 3, 4, 0] (Ls' := [(0, .ref (ad 0)), (1, .int (i32 a1)), (2, .int (i32 a2)), (3, .int (i32 t51.1)), (4, .int (i32 0))]) dX8_worthTo_43 (by decide) rfl ?_
        obtain ⟨r63, h64, h60⟩ := bind_some h60
        have H65 : ∀ (n : Nat) (t66 : Int × Mem) (z67 : Mem), lp (f_X8_worthTo_l45 a1 a2 t51.1) n t66 = some z67 → Go p l e { frames := 2, cells := 0, slots := 0, locals := 42 } s m args below meth c 7 D cI cB ad shsM A (MQ below (cQ D cI cB ad shsM (some (.int (i32 r))) S' A) args s 0 0 A) 77 [(0, .ref (ad 0)), (1, .int (i32 a1)), (2, .int (i32 a2)), (3, .int (i32 t51.1))] [] z67 → Go p l e { frames := 2, cells := 0, slots := 0, locals := 42 } s m args below meth c 7 D cI cB ad shsM A (MQ below (cQ D cI cB ad shsM (some (.int (i32 r))) S' A) args s 0 0 A) 45 [(0, .ref (ad 0)), (1, .int (i32 a1)), (2, .int (i32 a2)), (3, .int (i32 t51.1)), (4, .int (i32 t66.1))] [] t66.2 := by
          refine lp_go (fun t66 : Int × Mem => Go p l e { frames := 2, cells := 0, slots := 0, locals := 42 } s m args below meth c 7 D cI cB ad shsM A (MQ below (cQ D cI cB ad shsM (some (.int (i32 r))) S' A) args s 0 0 A) 45 [(0, .ref (ad 0)), (1, .int (i32 a1)), (2, .int (i32 a2)), (3, .int (i32 t51.1)), (4, .int (i32 t66.1))] [] t66.2) (fun z67 : Mem => Go p l e { frames := 2, cells := 0, slots := 0, locals := 42 } s m args below meth c 7 D cI cB ad shsM A (MQ below (cQ D cI cB ad shsM (some (.int (i32 r))) S' A) args s 0 0 A) 77 [(0, .ref (ad 0)), (1, .int (i32 a1)), (2, .int (i32 a2)), (3, .int (i32 t51.1))] [] z67) ?_
          intro t66 x68 h hx69
          unfold f_X8_worthTo_l45 at h
          refine go_iload (pc := 45) X 4 dX8_worthTo_45 rfl ?_
          refine go_aload_n (pc := 47) X 0 dX8_worthTo_47 rfl rfl ?_
          refine go_iload_n (pc := 48) X 3 dX8_worthTo_48 rfl rfl ?_
          obtain ⟨r71, h72, h⟩ := bind_some h
          refine go_callVi (pc := 49) X 1 [.int (i32 t66.1)] (ct_X8_usedOf h72) sh8 rfl gg_X8_126 hd_X8_usedOf ⟨Nat.le_of_ble_eq_true rfl, Nat.le_of_ble_eq_true rfl⟩ rfl rfl (Nat.le_of_ble_eq_true rfl) dX8_worthTo_49 ?_
          refine go_icmp_ge (pc := 52) X 77 dX8_worthTo_52 rfl (fun c73 => ?_) (fun c73 => ?_)
          · rw [if_neg c73] at h
            refine go_pick [0, 1, 2, 3] (Ls' := [(0, .ref (ad 0)), (1, .int (i32 a1)), (2, .int (i32 a2)), (3, .int (i32 t51.1))]) rfl ?_
            exact lp_back h hx69
          · rw [if_pos c73] at h
            refine go_aload_n (pc := 55) X 0 dX8_worthTo_55 rfl rfl ?_
            refine go_getr (pc := 56) X (fk := 13) sh8 rfl inT_X8 (by decide) fL_X8_41 rfl dX8_worthTo_56 ?_
            refine go_aload_n (pc := 59) X 0 dX8_worthTo_59 rfl rfl ?_
            refine go_iload_n (pc := 60) X 3 dX8_worthTo_60 rfl rfl ?_
            refine go_iload (pc := 61) X 4 dX8_worthTo_61 rfl ?_
            obtain ⟨r74, h75, h⟩ := bind_some h
            refine go_callVi (pc := 63) X 2 [.ref (ad 10)] (ct_X8_valueAt h75) sh8 rfl gg_X8_114 hd_X8_valueAt ⟨Nat.le_of_ble_eq_true rfl, Nat.le_of_ble_eq_true rfl⟩ rfl rfl (Nat.le_of_ble_eq_true rfl) dX8_worthTo_63 ?_
            refine go_dup2 (pc := 66) X dX8_worthTo_66 rfl rfl ?_
            obtain ⟨g76, h⟩ := gd_some h
            refine go_iald (pc := 67) X shM10 (Nat.le_of_ble_eq_true rfl) rfl g76 dX8_worthTo_67 ?_
            refine go_iconst (pc := 68) X dX8_worthTo_68 ?_
            refine go_iadd (pc := 69) X dX8_worthTo_69 ?_
            obtain ⟨S77, e78, h⟩ := wrk_some h
            refine go_iastE (pc := 70) X e78 shM10 (Nat.le_of_ble_eq_true rfl) rfl g76 dX8_worthTo_70 ?_
            refine go_iinc (pc := 71) X [1, 2, 3, 4, 0] 4 (Ls' := [(0, .ref (ad 0)), (1, .int (i32 a1)), (2, .int (i32 a2)), (3, .int (i32 t51.1)), (4, .int (i32 (t66.1 + 1)))]) dX8_worthTo_71 rfl (by decide) rfl ?_
            refine go_goto (pc := 74) X 45 dX8_worthTo_74 rfl ?_
            exact lp_back h hx69
        refine H65 FU (0, t51.2) r63 h64 ?_
        cases h60
        exact k61
      · rw [if_pos c62] at h60
        refine go_goto (pc := 39) X 77 dX8_worthTo_39 rfl ?_
        cases h60
        exact k61
  refine H50 FU (0, r5) r48 h49 ?_
  refine go_aload_n (pc := 83) X 0 dX8_worthTo_83 rfl rfl ?_
  refine go_getr (pc := 84) X (fk := 13) sh8 rfl inT_X8 (by decide) fL_X8_41 rfl dX8_worthTo_84 ?_
  refine go_aload_n (pc := 87) X 0 dX8_worthTo_87 rfl rfl ?_
  refine go_getr (pc := 88) X (fk := 1) sh8 rfl inT_X8 (by decide) fL_X8_13 rfl dX8_worthTo_88 ?_
  refine go_iconst (pc := 91) X dX8_worthTo_91 ?_
  obtain ⟨g79, h⟩ := gd_some h
  refine go_iald (pc := 92) X shM1 (Nat.le_of_ble_eq_true rfl) rfl g79 dX8_worthTo_92 ?_
  refine go_dup2 (pc := 93) X dX8_worthTo_93 rfl rfl ?_
  obtain ⟨g80, h⟩ := gd_some h
  refine go_iald (pc := 94) X shM10 (Nat.le_of_ble_eq_true rfl) rfl g80 dX8_worthTo_94 ?_
  refine go_iload_n (pc := 95) X 1 dX8_worthTo_95 rfl rfl ?_
  refine go_iadd (pc := 96) X dX8_worthTo_96 ?_
  obtain ⟨S81, e82, h⟩ := wrk_some h
  refine go_iastE (pc := 97) X e82 shM10 (Nat.le_of_ble_eq_true rfl) rfl g80 dX8_worthTo_97 ?_
  refine go_iconst (pc := 98) X dX8_worthTo_98 ?_
  refine go_istore_n (pc := 99) X [1, 2, 0] (Ls' := [(0, .ref (ad 0)), (2, .int (i32 a2)), (3, .int (i32 0))]) dX8_worthTo_99 rfl (by decide) rfl ?_
  refine go_iload_n (pc := 100) X 1 dX8_worthTo_100 rfl rfl ?_
  refine go_istore (pc := 101) X [1, 2, 3, 0] (Ls' := [(0, .ref (ad 0)), (2, .int (i32 a2)), (3, .int (i32 0)), (4, .int (i32 a2))]) dX8_worthTo_101 (by decide) rfl ?_
  refine go_bipush (pc := 103) X dX8_worthTo_103 (by decide) (by decide) ?_
  refine go_istore (pc := 105) X [1, 2, 3, 4, 0] (Ls' := [(0, .ref (ad 0)), (2, .int (i32 a2)), (3, .int (i32 0)), (4, .int (i32 a2)), (5, .int (i32 99))]) dX8_worthTo_105 (by decide) rfl ?_
  obtain ⟨r87, h88, h⟩ := bind_some h
  have H89 : ∀ (n : Nat) (t90 : Int × Int × Int) (z91 : Int), lp (f_X8_worthTo_l107 S81) n t90 = some z91 → Go p l e { frames := 2, cells := 0, slots := 0, locals := 42 } s m args below meth c 7 D cI cB ad shsM A (MQ below (cQ D cI cB ad shsM (some (.int (i32 r))) S' A) args s 0 0 A) 147 [(3, .int (i32 z91))] [] S81 → Go p l e { frames := 2, cells := 0, slots := 0, locals := 42 } s m args below meth c 7 D cI cB ad shsM A (MQ below (cQ D cI cB ad shsM (some (.int (i32 r))) S' A) args s 0 0 A) 107 [(0, .ref (ad 0)), (3, .int (i32 t90.1)), (4, .int (i32 t90.2.1)), (5, .int (i32 t90.2.2))] [] S81 := by
    refine lp_go (fun t90 : Int × Int × Int => Go p l e { frames := 2, cells := 0, slots := 0, locals := 42 } s m args below meth c 7 D cI cB ad shsM A (MQ below (cQ D cI cB ad shsM (some (.int (i32 r))) S' A) args s 0 0 A) 107 [(0, .ref (ad 0)), (3, .int (i32 t90.1)), (4, .int (i32 t90.2.1)), (5, .int (i32 t90.2.2))] [] S81) (fun z91 : Int => Go p l e { frames := 2, cells := 0, slots := 0, locals := 42 } s m args below meth c 7 D cI cB ad shsM A (MQ below (cQ D cI cB ad shsM (some (.int (i32 r))) S' A) args s 0 0 A) 147 [(3, .int (i32 z91))] [] S81) ?_
    intro t90 x92 h hx93
    unfold f_X8_worthTo_l107 at h
    refine go_iload (pc := 107) X 3 dX8_worthTo_107 rfl ?_
    refine go_if_lt (pc := 109) X 147 dX8_worthTo_109 rfl (fun c95 => ?_) (fun c95 => ?_)
    · rw [if_pos c95] at h
      refine go_pick [1] (Ls' := [(3, .int (i32 t90.1))]) rfl ?_
      exact lp_back h hx93
    · rw [if_neg c95] at h
      refine go_iload (pc := 112) X 2 dX8_worthTo_112 rfl ?_
      refine go_aload_n (pc := 114) X 0 dX8_worthTo_114 rfl rfl ?_
      refine go_getr (pc := 115) X (fk := 13) sh8 rfl inT_X8 (by decide) fL_X8_41 rfl dX8_worthTo_115 ?_
      refine go_iload (pc := 118) X 3 dX8_worthTo_118 rfl ?_
      obtain ⟨g96, h⟩ := gd_some h
      refine go_iald (pc := 120) X shM10 (Nat.le_of_ble_eq_true rfl) rfl g96 dX8_worthTo_120 ?_
      obtain ⟨r97, h98, h⟩ := bind_some h
      refine go_callSi (pc := 121) X 2 [] (ct_X8_less h98) gg_X8_76 hd_X8_less ⟨Nat.le_of_ble_eq_true rfl, Nat.le_of_ble_eq_true rfl⟩ rfl rfl (Nat.le_of_ble_eq_true rfl) dX8_worthTo_121 ?_
      refine go_istore (pc := 124) X [1, 2, 3, 4, 0] (Ls' := [(0, .ref (ad 0)), (3, .int (i32 t90.1)), (4, .int (i32 t90.2.1)), (5, .int (i32 t90.2.2)), (6, .int (i32 r97))]) dX8_worthTo_124 (by decide) rfl ?_
      refine go_iload_n (pc := 126) X 1 dX8_worthTo_126 rfl rfl ?_
      refine go_iload (pc := 127) X 4 dX8_worthTo_127 rfl ?_
      refine go_iload (pc := 129) X 3 dX8_worthTo_129 rfl ?_
      refine go_imul (pc := 131) X dX8_worthTo_131 ?_
      refine go_iadd (pc := 132) X dX8_worthTo_132 ?_
      refine go_istore_n (pc := 133) X [1, 0, 2, 3, 4] (Ls' := [(0, .ref (ad 0)), (3, .int (i32 (t90.1 + (r97 * t90.2.2)))), (4, .int (i32 t90.2.1)), (5, .int (i32 t90.2.2)), (6, .int (i32 r97))]) dX8_worthTo_133 rfl (by decide) rfl ?_
      refine go_iload (pc := 134) X 2 dX8_worthTo_134 rfl ?_
      refine go_iload (pc := 136) X 4 dX8_worthTo_136 rfl ?_
      refine go_isub (pc := 138) X dX8_worthTo_138 ?_
      refine go_istore (pc := 139) X [1, 2, 0, 3, 4] (Ls' := [(0, .ref (ad 0)), (3, .int (i32 (t90.1 + (r97 * t90.2.2)))), (4, .int (i32 (t90.2.1 - r97))), (5, .int (i32 t90.2.2)), (6, .int (i32 r97))]) dX8_worthTo_139 (by decide) rfl ?_
      refine go_iinc (pc := 141) X [1, 2, 3, 0, 4] 3 (Ls' := [(0, .ref (ad 0)), (3, .int (i32 (t90.1 + (r97 * t90.2.2)))), (4, .int (i32 (t90.2.1 - r97))), (5, .int (i32 (t90.2.2 + (-1)))), (6, .int (i32 r97))]) dX8_worthTo_141 rfl (by decide) rfl ?_
      refine go_goto (pc := 144) X 107 dX8_worthTo_144 rfl ?_
      refine go_pick [0, 1, 2, 3] (Ls' := [(0, .ref (ad 0)), (3, .int (i32 (t90.1 + (r97 * t90.2.2)))), (4, .int (i32 (t90.2.1 - r97))), (5, .int (i32 (t90.2.2 + (-1))))]) rfl ?_
      exact lp_back h hx93
  refine go_pick [0, 2, 3, 4] (Ls' := [(0, .ref (ad 0)), (3, .int (i32 0)), (4, .int (i32 a2)), (5, .int (i32 99))]) rfl ?_
  refine H89 FU (0, a2, 99) r87 h88 ?_
  refine go_iload_n (pc := 147) X 0 dX8_worthTo_147 rfl rfl ?_
  exact go_iret (pc := 148) X h dX8_worthTo_148
set_option maxRecDepth 100000 in
set_option maxHeartbeats 4000000 in
theorem ct_X8_everybody {l : Launch} {D : va_G} {cI cB : ClassId} {Z : (Nat → Nat) × (Nat → Nat)} {ad : Nat → Nat} {S : Mem} {r : Int} (h : f_X8_everybody S = some r) : Ctr l D cI cB Z ad shsM yX8_everybody cX8_everybody 1 (some .int) 1 20 [.ref (ad 0)] S (some (.int (i32 r))) S := by
  refine ctr_of (by decide +kernel) (Nat.le_of_ble_eq_true rfl) rfl ?_
  intro p e s m args below meth c A X
  unfold f_X8_everybody at h
  refine go_iconst (pc := 0) X dX8_everybody_0 ?_
  refine go_aload_n (pc := 1) X 0 dX8_everybody_1 rfl rfl ?_
  obtain ⟨r1, h2, h⟩ := bind_some h
  refine go_callVi (pc := 2) X 0 [.int (i32 1)] (ct_X8_many h2) sh8 rfl gg_X8_61 hd_X8_many ⟨Nat.le_of_ble_eq_true rfl, Nat.le_of_ble_eq_true rfl⟩ rfl rfl (Nat.le_of_ble_eq_true rfl) dX8_everybody_2 ?_
  refine go_ishl (pc := 5) X dX8_everybody_5 ?_
  refine go_iconst (pc := 6) X dX8_everybody_6 ?_
  refine go_isub (pc := 7) X dX8_everybody_7 ?_
  exact go_iretP (pc := 8) X h dX8_everybody_8
set_option maxRecDepth 100000 in
set_option maxHeartbeats 4000000 in
theorem ct_X8_hadBut {l : Launch} {D : va_G} {cI cB : ClassId} {Z : (Nat → Nat) × (Nat → Nat)} {ad : Nat → Nat} {S : Mem} {a1 : Int} {r : Int} (h : f_X8_hadBut S a1 = some r) : Ctr l D cI cB Z ad shsM yX8_hadBut cX8_hadBut 4 (some .int) 2 46 [.ref (ad 0), .int (i32 a1)] S (some (.int (i32 r))) S := by
  refine ctr_of (by decide +kernel) (Nat.le_of_ble_eq_true rfl) rfl ?_
  intro p e s m args below meth c A X
  unfold f_X8_hadBut at h
  refine go_iconst (pc := 0) X dX8_hadBut_0 ?_
  refine go_istore_n (pc := 1) X [1, 2, 0] (Ls' := [(0, .ref (ad 0)), (1, .int (i32 a1)), (2, .int (i32 0))]) dX8_hadBut_1 rfl (by decide) rfl ?_
  refine go_iconst (pc := 2) X dX8_hadBut_2 ?_
  refine go_istore_n (pc := 3) X [1, 2, 3, 0] (Ls' := [(0, .ref (ad 0)), (1, .int (i32 a1)), (2, .int (i32 0)), (3, .int (i32 0))]) dX8_hadBut_3 rfl (by decide) rfl ?_
  obtain ⟨r11, h12, h⟩ := bind_some h
  have H13 : ∀ (n : Nat) (t14 : Int × Int) (z15 : Int), lp (f_X8_hadBut_l4 S a1) n t14 = some z15 → Go p l e { frames := 2, cells := 0, slots := 0, locals := 46 } s m args below meth c 4 D cI cB ad shsM A (MQ below (cQ D cI cB ad shsM (some (.int (i32 r))) S A) args s 0 0 A) 37 [(2, .int (i32 z15))] [] S → Go p l e { frames := 2, cells := 0, slots := 0, locals := 46 } s m args below meth c 4 D cI cB ad shsM A (MQ below (cQ D cI cB ad shsM (some (.int (i32 r))) S A) args s 0 0 A) 4 [(0, .ref (ad 0)), (1, .int (i32 a1)), (2, .int (i32 t14.1)), (3, .int (i32 t14.2))] [] S := by
    refine lp_go (fun t14 : Int × Int => Go p l e { frames := 2, cells := 0, slots := 0, locals := 46 } s m args below meth c 4 D cI cB ad shsM A (MQ below (cQ D cI cB ad shsM (some (.int (i32 r))) S A) args s 0 0 A) 4 [(0, .ref (ad 0)), (1, .int (i32 a1)), (2, .int (i32 t14.1)), (3, .int (i32 t14.2))] [] S) (fun z15 : Int => Go p l e { frames := 2, cells := 0, slots := 0, locals := 46 } s m args below meth c 4 D cI cB ad shsM A (MQ below (cQ D cI cB ad shsM (some (.int (i32 r))) S A) args s 0 0 A) 37 [(2, .int (i32 z15))] [] S) ?_
    intro t14 x16 h hx17
    unfold f_X8_hadBut_l4 at h
    refine go_iload_n (pc := 4) X 3 dX8_hadBut_4 rfl rfl ?_
    refine go_aload_n (pc := 5) X 0 dX8_hadBut_5 rfl rfl ?_
    obtain ⟨r19, h20, h⟩ := bind_some h
    refine go_callVi (pc := 6) X 0 [.int (i32 t14.2)] (ct_X8_many h20) sh8 rfl gg_X8_61 hd_X8_many ⟨Nat.le_of_ble_eq_true rfl, Nat.le_of_ble_eq_true rfl⟩ rfl rfl (Nat.le_of_ble_eq_true rfl) dX8_hadBut_6 ?_
    refine go_icmp_ge (pc := 9) X 37 dX8_hadBut_9 rfl (fun c21 => ?_) (fun c21 => ?_)
    · rw [if_neg c21] at h
      refine go_pick [2] (Ls' := [(2, .int (i32 t14.1))]) rfl ?_
      exact lp_back h hx17
    · rw [if_pos c21] at h
      refine go_iload_n (pc := 12) X 3 dX8_hadBut_12 rfl rfl ?_
      refine go_iload_n (pc := 13) X 1 dX8_hadBut_13 rfl rfl ?_
      obtain ⟨j22, h23, h⟩ := bind_some h
      have k24 : Go p l e { frames := 2, cells := 0, slots := 0, locals := 46 } s m args below meth c 4 D cI cB ad shsM A (MQ below (cQ D cI cB ad shsM (some (.int (i32 r))) S A) args s 0 0 A) 31 [(0, .ref (ad 0)), (1, .int (i32 a1)), (2, .int (i32 j22)), (3, .int (i32 t14.2))] [] S := by
        refine go_iinc (pc := 31) X [1, 2, 3, 0] 3 (Ls' := [(0, .ref (ad 0)), (1, .int (i32 a1)), (2, .int (i32 j22)), (3, .int (i32 (t14.2 + 1)))]) dX8_hadBut_31 rfl (by decide) rfl ?_
        refine go_goto (pc := 34) X 4 dX8_hadBut_34 rfl ?_
        exact lp_back h hx17
      refine go_icmp_eq (pc := 14) X 31 dX8_hadBut_14 rfl (fun c25 => ?_) (fun c25 => ?_)
      · rw [if_pos c25] at h23
        cases h23
        exact k24
      · rw [if_neg c25] at h23
        refine go_iload_n (pc := 17) X 2 dX8_hadBut_17 rfl rfl ?_
        refine go_aload_n (pc := 18) X 0 dX8_hadBut_18 rfl rfl ?_
        refine go_iload_n (pc := 19) X 3 dX8_hadBut_19 rfl rfl ?_
        refine go_aload_n (pc := 20) X 0 dX8_hadBut_20 rfl rfl ?_
        refine go_getr (pc := 21) X (fk := 6) sh8 rfl inT_X8 (by decide) fL_X8_26 rfl dX8_hadBut_21 ?_
        refine go_iload_n (pc := 24) X 3 dX8_hadBut_24 rfl rfl ?_
        obtain ⟨g26, h23⟩ := gd_some h23
        refine go_iald (pc := 25) X shM5 (Nat.le_of_ble_eq_true rfl) rfl g26 dX8_hadBut_25 ?_
        obtain ⟨r27, h28, h23⟩ := bind_some h23
        refine go_callVi (pc := 26) X 2 [.int (i32 t14.1)] (ct_X8_firstOf h28) sh8 rfl gg_X8_150 hd_X8_firstOf ⟨Nat.le_of_ble_eq_true rfl, Nat.le_of_ble_eq_true rfl⟩ rfl rfl (Nat.le_of_ble_eq_true rfl) dX8_hadBut_26 ?_
        refine go_iadd (pc := 29) X dX8_hadBut_29 ?_
        refine go_istore_n (pc := 30) X [1, 2, 0, 3] (Ls' := [(0, .ref (ad 0)), (1, .int (i32 a1)), (2, .int (i32 (t14.1 + r27))), (3, .int (i32 t14.2))]) dX8_hadBut_30 rfl (by decide) rfl ?_
        cases h23
        exact k24
  refine H13 FU (0, 0) r11 h12 ?_
  refine go_iload_n (pc := 37) X 0 dX8_hadBut_37 rfl rfl ?_
  exact go_iretP (pc := 38) X h dX8_hadBut_38
set_option maxRecDepth 100000 in
set_option maxHeartbeats 4000000 in
theorem ct_X8_paysOf {l : Launch} {D : va_G} {cI cB : ClassId} {Z : (Nat → Nat) × (Nat → Nat)} {ad : Nat → Nat} {S : Mem} {a1 : Int} {a2 : Int} {r : Int} {S' : Mem} (h : f_X8_paysOf S a1 a2 = some (r, S')) : Ctr l D cI cB Z ad shsM yX8_paysOf cX8_paysOf 5 (some .int) 3 69 [.ref (ad 0), .int (i32 a1), .int (i32 a2)] S (some (.int (i32 r))) S' := by
  refine ctr_of (by decide +kernel) (Nat.le_of_ble_eq_true rfl) rfl ?_
  intro p e s m args below meth c A X
  unfold f_X8_paysOf at h
  refine go_iload_n (pc := 0) X 2 dX8_paysOf_0 rfl rfl ?_
  by_cases c1 : eqb a2 0 = true
  · rw [if_pos c1] at h
    refine go_tab (pc := 1) X 28 dX8_paysOf_1 c1 ⟨by decide, by decide⟩ ⟨by decide, by decide⟩ rfl rfl ?_
    refine go_iconst (pc := 28) X dX8_paysOf_28 ?_
    refine go_istore_n (pc := 29) X [1, 2, 3, 0] (Ls' := [(0, .ref (ad 0)), (1, .int (i32 a1)), (2, .int (i32 a2)), (3, .int (i32 0))]) dX8_paysOf_29 rfl (by decide) rfl ?_
    refine go_iconst (pc := 30) X dX8_paysOf_30 ?_
    refine go_istore (pc := 31) X [1, 2, 3, 4, 0] (Ls' := [(0, .ref (ad 0)), (1, .int (i32 a1)), (2, .int (i32 a2)), (3, .int (i32 0)), (4, .int (i32 0))]) dX8_paysOf_31 (by decide) rfl ?_
    obtain ⟨r5, h6, h⟩ := bind_some h
    have H7 : ∀ (n : Nat) (t8 : Int × Int) (z9 : Int), lp (f_X8_paysOf_l33 S a1) n t8 = some z9 → Go p l e { frames := 3, cells := 0, slots := 0, locals := 69 } s m args below meth c 5 D cI cB ad shsM A (MQ below (cQ D cI cB ad shsM (some (.int (i32 r))) S' A) args s 0 0 A) 65 [(3, .int (i32 z9))] [] S → Go p l e { frames := 3, cells := 0, slots := 0, locals := 69 } s m args below meth c 5 D cI cB ad shsM A (MQ below (cQ D cI cB ad shsM (some (.int (i32 r))) S' A) args s 0 0 A) 33 [(0, .ref (ad 0)), (1, .int (i32 a1)), (3, .int (i32 t8.1)), (4, .int (i32 t8.2))] [] S := by
      refine lp_go (fun t8 : Int × Int => Go p l e { frames := 3, cells := 0, slots := 0, locals := 69 } s m args below meth c 5 D cI cB ad shsM A (MQ below (cQ D cI cB ad shsM (some (.int (i32 r))) S' A) args s 0 0 A) 33 [(0, .ref (ad 0)), (1, .int (i32 a1)), (3, .int (i32 t8.1)), (4, .int (i32 t8.2))] [] S) (fun z9 : Int => Go p l e { frames := 3, cells := 0, slots := 0, locals := 69 } s m args below meth c 5 D cI cB ad shsM A (MQ below (cQ D cI cB ad shsM (some (.int (i32 r))) S' A) args s 0 0 A) 65 [(3, .int (i32 z9))] [] S) ?_
      intro t8 x10 h hx11
      unfold f_X8_paysOf_l33 at h
      refine go_iload (pc := 33) X 3 dX8_paysOf_33 rfl ?_
      refine go_aload_n (pc := 35) X 0 dX8_paysOf_35 rfl rfl ?_
      refine go_getr (pc := 36) X (fk := 6) sh8 rfl inT_X8 (by decide) fL_X8_26 rfl dX8_paysOf_36 ?_
      refine go_iload_n (pc := 39) X 1 dX8_paysOf_39 rfl rfl ?_
      obtain ⟨g13, h⟩ := gd_some h
      refine go_iald (pc := 40) X shM5 (Nat.le_of_ble_eq_true rfl) rfl g13 dX8_paysOf_40 ?_
      refine go_icmp_ge (pc := 41) X 65 dX8_paysOf_41 rfl (fun c14 => ?_) (fun c14 => ?_)
      · rw [if_neg c14] at h
        refine go_pick [2] (Ls' := [(3, .int (i32 t8.1))]) rfl ?_
        exact lp_back h hx11
      · rw [if_pos c14] at h
        refine go_iload_n (pc := 44) X 2 dX8_paysOf_44 rfl rfl ?_
        refine go_aload_n (pc := 45) X 0 dX8_paysOf_45 rfl rfl ?_
        refine go_getr (pc := 46) X (fk := 8) sh8 rfl inT_X8 (by decide) fL_X8_32 rfl dX8_paysOf_46 ?_
        refine go_bipush (pc := 49) X dX8_paysOf_49 (by decide) (by decide) ?_
        refine go_iload_n (pc := 51) X 1 dX8_paysOf_51 rfl rfl ?_
        refine go_imul (pc := 52) X dX8_paysOf_52 ?_
        refine go_iload (pc := 53) X 3 dX8_paysOf_53 rfl ?_
        refine go_iadd (pc := 55) X dX8_paysOf_55 ?_
        obtain ⟨g15, h⟩ := gd_some h
        refine go_iald (pc := 56) X shM7 (Nat.le_of_ble_eq_true rfl) rfl g15 dX8_paysOf_56 ?_
        refine go_iadd (pc := 57) X dX8_paysOf_57 ?_
        refine go_istore_n (pc := 58) X [1, 2, 0, 3] (Ls' := [(0, .ref (ad 0)), (1, .int (i32 a1)), (3, .int (i32 (t8.1 + (S 7 ((8 * a1) + t8.2))))), (4, .int (i32 t8.2))]) dX8_paysOf_58 rfl (by decide) rfl ?_
        refine go_iinc (pc := 59) X [1, 2, 3, 0] 3 (Ls' := [(0, .ref (ad 0)), (1, .int (i32 a1)), (3, .int (i32 (t8.1 + (S 7 ((8 * a1) + t8.2))))), (4, .int (i32 (t8.2 + 1)))]) dX8_paysOf_59 rfl (by decide) rfl ?_
        refine go_goto (pc := 62) X 33 dX8_paysOf_62 rfl ?_
        exact lp_back h hx11
    refine go_pick [0, 1, 3, 4] (Ls' := [(0, .ref (ad 0)), (1, .int (i32 a1)), (3, .int (i32 0)), (4, .int (i32 0))]) rfl ?_
    refine H7 FU (0, 0) r5 h6 ?_
    refine go_iload_n (pc := 65) X 0 dX8_paysOf_65 rfl rfl ?_
    exact go_iret (pc := 66) X h dX8_paysOf_66
  · rw [if_neg c1] at h
    by_cases c16 : eqb a2 1 = true
    · rw [if_pos c16] at h
      refine go_tab (pc := 1) X 67 dX8_paysOf_1 c16 ⟨by decide, by decide⟩ ⟨by decide, by decide⟩ rfl rfl ?_
      refine go_aload_n (pc := 67) X 0 dX8_paysOf_67 rfl rfl ?_
      refine go_get (pc := 68) X (fk := 12) (fi := 12) rfl sh8 rfl inT_X8 (by decide) fL_X8_144 rfl dX8_paysOf_68 ?_
      refine go_aload_n (pc := 71) X 0 dX8_paysOf_71 rfl rfl ?_
      refine go_getr (pc := 72) X (fk := 6) sh8 rfl inT_X8 (by decide) fL_X8_26 rfl dX8_paysOf_72 ?_
      refine go_iload_n (pc := 75) X 1 dX8_paysOf_75 rfl rfl ?_
      obtain ⟨g17, h⟩ := gd_some h
      refine go_iald (pc := 76) X shM5 (Nat.le_of_ble_eq_true rfl) rfl g17 dX8_paysOf_76 ?_
      refine go_imul (pc := 77) X dX8_paysOf_77 ?_
      exact go_iret (pc := 78) X h dX8_paysOf_78
    · rw [if_neg c16] at h
      by_cases c18 : eqb a2 2 = true
      · rw [if_pos c18] at h
        refine go_tab (pc := 1) X 79 dX8_paysOf_1 c18 ⟨by decide, by decide⟩ ⟨by decide, by decide⟩ rfl rfl ?_
        refine go_aload_n (pc := 79) X 0 dX8_paysOf_79 rfl rfl ?_
        refine go_iload_n (pc := 80) X 1 dX8_paysOf_80 rfl rfl ?_
        refine go_aload_n (pc := 81) X 0 dX8_paysOf_81 rfl rfl ?_
        refine go_getr (pc := 82) X (fk := 6) sh8 rfl inT_X8 (by decide) fL_X8_26 rfl dX8_paysOf_82 ?_
        refine go_iload_n (pc := 85) X 1 dX8_paysOf_85 rfl rfl ?_
        obtain ⟨g19, h⟩ := gd_some h
        refine go_iald (pc := 86) X shM5 (Nat.le_of_ble_eq_true rfl) rfl g19 dX8_paysOf_86 ?_
        obtain ⟨r20, h21, h⟩ := bind_some h
        refine go_callVi (pc := 87) X 2 [] (ct_X8_firstOf h21) sh8 rfl gg_X8_150 hd_X8_firstOf ⟨Nat.le_of_ble_eq_true rfl, Nat.le_of_ble_eq_true rfl⟩ rfl rfl (Nat.le_of_ble_eq_true rfl) dX8_paysOf_87 ?_
        exact go_iret (pc := 90) X h dX8_paysOf_90
      · rw [if_neg c18] at h
        have nc1 : ¬ (0 : Int) = (i32 a2).toInt := fun z => c1 ((eqb_toInt (by decide) (by decide)).mpr z.symm)
        have nc16 : ¬ (1 : Int) = (i32 a2).toInt := fun z => c16 ((eqb_toInt (by decide) (by decide)).mpr z.symm)
        have nc18 : ¬ (2 : Int) = (i32 a2).toInt := fun z => c18 ((eqb_toInt (by decide) (by decide)).mpr z.symm)
        refine go_tabx (pc := 1) X 91 dX8_paysOf_1 (by omega) rfl ?_
        refine go_aload_n (pc := 91) X 0 dX8_paysOf_91 rfl rfl ?_
        refine go_aload_n (pc := 92) X 0 dX8_paysOf_92 rfl rfl ?_
        obtain ⟨r22, h23, h⟩ := bind_some h
        refine go_callVi (pc := 93) X 0 [.ref (ad 0)] (ct_X8_everybody h23) sh8 rfl gg_X8_153 hd_X8_everybody ⟨Nat.le_of_ble_eq_true rfl, Nat.le_of_ble_eq_true rfl⟩ rfl rfl (Nat.le_of_ble_eq_true rfl) dX8_paysOf_93 ?_
        refine go_iconst (pc := 96) X dX8_paysOf_96 ?_
        refine go_iload_n (pc := 97) X 1 dX8_paysOf_97 rfl rfl ?_
        refine go_ishl (pc := 98) X dX8_paysOf_98 ?_
        refine go_ixor (pc := 99) X dX8_paysOf_99 ?_
        refine go_aload_n (pc := 100) X 0 dX8_paysOf_100 rfl rfl ?_
        refine go_getr (pc := 101) X (fk := 1) sh8 rfl inT_X8 (by decide) fL_X8_13 rfl dX8_paysOf_101 ?_
        refine go_iconst (pc := 104) X dX8_paysOf_104 ?_
        obtain ⟨g24, h⟩ := gd_some h
        refine go_iald (pc := 105) X shM1 (Nat.le_of_ble_eq_true rfl) rfl g24 dX8_paysOf_105 ?_
        obtain ⟨u25, h26, h⟩ := bind_some h
        refine go_callVi (pc := 106) X 2 [] (ct_X8_worthTo h26) sh8 rfl gg_X8_156 hd_X8_worthTo ⟨Nat.le_of_ble_eq_true rfl, Nat.le_of_ble_eq_true rfl⟩ rfl rfl (Nat.le_of_ble_eq_true rfl) dX8_paysOf_106 ?_
        refine go_aload_n (pc := 109) X 0 dX8_paysOf_109 rfl rfl ?_
        refine go_iload_n (pc := 110) X 1 dX8_paysOf_110 rfl rfl ?_
        obtain ⟨r27, h28, h⟩ := bind_some h
        refine go_callVi (pc := 111) X 1 [.int (i32 u25.1)] (ct_X8_hadBut h28) sh8 rfl gg_X8_159 hd_X8_hadBut ⟨Nat.le_of_ble_eq_true rfl, Nat.le_of_ble_eq_true rfl⟩ rfl rfl (Nat.le_of_ble_eq_true rfl) dX8_paysOf_111 ?_
        refine go_isub (pc := 114) X dX8_paysOf_114 ?_
        refine go_aload_n (pc := 115) X 0 dX8_paysOf_115 rfl rfl ?_
        refine go_getr (pc := 116) X (fk := 1) sh8 rfl inT_X8 (by decide) fL_X8_13 rfl dX8_paysOf_116 ?_
        refine go_iconst (pc := 119) X dX8_paysOf_119 ?_
        obtain ⟨g29, h⟩ := gd_some h
        refine go_iald (pc := 120) X shM1 (Nat.le_of_ble_eq_true rfl) rfl g29 dX8_paysOf_120 ?_
        refine go_aload_n (pc := 121) X 0 dX8_paysOf_121 rfl rfl ?_
        obtain ⟨r30, h31, h⟩ := bind_some h
        refine go_callVi (pc := 122) X 0 [.int (i32 (u25.2 1 1)), .int (i32 (u25.1 - r27))] (ct_X8_unsold h31) sh8 rfl gg_X8_162 hd_X8_unsold ⟨Nat.le_of_ble_eq_true rfl, Nat.le_of_ble_eq_true rfl⟩ rfl rfl (Nat.le_of_ble_eq_true rfl) dX8_paysOf_122 ?_
        refine go_imul (pc := 125) X dX8_paysOf_125 ?_
        refine go_isub (pc := 126) X dX8_paysOf_126 ?_
        exact go_iret (pc := 127) X h dX8_paysOf_127
set_option maxRecDepth 100000 in
set_option maxHeartbeats 4000000 in
theorem ct_X8_paidAll {l : Launch} {D : va_G} {cI cB : ClassId} {Z : (Nat → Nat) × (Nat → Nat)} {ad : Nat → Nat} {S : Mem} {a1 : Int} {r : Int} {S' : Mem} (h : f_X8_paidAll S a1 = some (r, S')) : Ctr l D cI cB Z ad shsM yX8_paidAll cX8_paidAll 4 (some .int) 4 93 [.ref (ad 0), .int (i32 a1)] S (some (.int (i32 r))) S' := by
  refine ctr_of (by decide +kernel) (Nat.le_of_ble_eq_true rfl) rfl ?_
  intro p e s m args below meth c A X
  unfold f_X8_paidAll at h
  refine go_iconst (pc := 0) X dX8_paidAll_0 ?_
  refine go_istore_n (pc := 1) X [1, 2, 0] (Ls' := [(0, .ref (ad 0)), (1, .int (i32 a1)), (2, .int (i32 0))]) dX8_paidAll_1 rfl (by decide) rfl ?_
  refine go_iconst (pc := 2) X dX8_paidAll_2 ?_
  refine go_istore_n (pc := 3) X [1, 2, 3, 0] (Ls' := [(0, .ref (ad 0)), (1, .int (i32 a1)), (2, .int (i32 0)), (3, .int (i32 0))]) dX8_paidAll_3 rfl (by decide) rfl ?_
  obtain ⟨r6, h7, h⟩ := bind_some h
  have H8 : ∀ (n : Nat) (t9 : Int × Int × Mem) (z10 : Int × Mem), lp (f_X8_paidAll_l4 a1) n t9 = some z10 → Go p l e { frames := 4, cells := 0, slots := 0, locals := 93 } s m args below meth c 4 D cI cB ad shsM A (MQ below (cQ D cI cB ad shsM (some (.int (i32 r))) S' A) args s 0 0 A) 27 [(2, .int (i32 z10.1))] [] z10.2 → Go p l e { frames := 4, cells := 0, slots := 0, locals := 93 } s m args below meth c 4 D cI cB ad shsM A (MQ below (cQ D cI cB ad shsM (some (.int (i32 r))) S' A) args s 0 0 A) 4 [(0, .ref (ad 0)), (1, .int (i32 a1)), (2, .int (i32 t9.1)), (3, .int (i32 t9.2.1))] [] t9.2.2 := by
    refine lp_go (fun t9 : Int × Int × Mem => Go p l e { frames := 4, cells := 0, slots := 0, locals := 93 } s m args below meth c 4 D cI cB ad shsM A (MQ below (cQ D cI cB ad shsM (some (.int (i32 r))) S' A) args s 0 0 A) 4 [(0, .ref (ad 0)), (1, .int (i32 a1)), (2, .int (i32 t9.1)), (3, .int (i32 t9.2.1))] [] t9.2.2) (fun z10 : Int × Mem => Go p l e { frames := 4, cells := 0, slots := 0, locals := 93 } s m args below meth c 4 D cI cB ad shsM A (MQ below (cQ D cI cB ad shsM (some (.int (i32 r))) S' A) args s 0 0 A) 27 [(2, .int (i32 z10.1))] [] z10.2) ?_
    intro t9 x11 h hx12
    unfold f_X8_paidAll_l4 at h
    refine go_iload_n (pc := 4) X 3 dX8_paidAll_4 rfl rfl ?_
    refine go_aload_n (pc := 5) X 0 dX8_paidAll_5 rfl rfl ?_
    obtain ⟨r14, h15, h⟩ := bind_some h
    refine go_callVi (pc := 6) X 0 [.int (i32 t9.2.1)] (ct_X8_many h15) sh8 rfl gg_X8_61 hd_X8_many ⟨Nat.le_of_ble_eq_true rfl, Nat.le_of_ble_eq_true rfl⟩ rfl rfl (Nat.le_of_ble_eq_true rfl) dX8_paidAll_6 ?_
    refine go_icmp_ge (pc := 9) X 27 dX8_paidAll_9 rfl (fun c16 => ?_) (fun c16 => ?_)
    · rw [if_neg c16] at h
      refine go_pick [2] (Ls' := [(2, .int (i32 t9.1))]) rfl ?_
      exact lp_back h hx12
    · rw [if_pos c16] at h
      refine go_iload_n (pc := 12) X 2 dX8_paidAll_12 rfl rfl ?_
      refine go_aload_n (pc := 13) X 0 dX8_paidAll_13 rfl rfl ?_
      refine go_iload_n (pc := 14) X 3 dX8_paidAll_14 rfl rfl ?_
      refine go_iload_n (pc := 15) X 1 dX8_paidAll_15 rfl rfl ?_
      obtain ⟨u17, h18, h⟩ := bind_some h
      refine go_callVi (pc := 16) X 2 [.int (i32 t9.1)] (ct_X8_paysOf h18) sh8 rfl gg_X8_165 hd_X8_paysOf ⟨Nat.le_of_ble_eq_true rfl, Nat.le_of_ble_eq_true rfl⟩ rfl rfl (Nat.le_of_ble_eq_true rfl) dX8_paidAll_16 ?_
      refine go_iadd (pc := 19) X dX8_paidAll_19 ?_
      refine go_istore_n (pc := 20) X [1, 2, 0, 3] (Ls' := [(0, .ref (ad 0)), (1, .int (i32 a1)), (2, .int (i32 (t9.1 + u17.1))), (3, .int (i32 t9.2.1))]) dX8_paidAll_20 rfl (by decide) rfl ?_
      refine go_iinc (pc := 21) X [1, 2, 3, 0] 3 (Ls' := [(0, .ref (ad 0)), (1, .int (i32 a1)), (2, .int (i32 (t9.1 + u17.1))), (3, .int (i32 (t9.2.1 + 1)))]) dX8_paidAll_21 rfl (by decide) rfl ?_
      refine go_goto (pc := 24) X 4 dX8_paidAll_24 rfl ?_
      exact lp_back h hx12
  refine H8 FU (0, 0, S) r6 h7 ?_
  refine go_iload_n (pc := 27) X 0 dX8_paidAll_27 rfl rfl ?_
  exact go_iret (pc := 28) X h dX8_paidAll_28
set_option maxRecDepth 100000 in
set_option maxHeartbeats 4000000 in
theorem ct_X8_gainOf {l : Launch} {D : va_G} {cI cB : ClassId} {Z : (Nat → Nat) × (Nat → Nat)} {ad : Nat → Nat} {S : Mem} {a1 : Int} {a2 : Int} {r : Int} {S' : Mem} (h : f_X8_gainOf S a1 a2 = some (r, S')) : Ctr l D cI cB Z ad shsM yX8_gainOf cX8_gainOf 3 (some .int) 4 93 [.ref (ad 0), .int (i32 a1), .int (i32 a2)] S (some (.int (i32 r))) S' := by
  refine ctr_of (by decide +kernel) (Nat.le_of_ble_eq_true rfl) rfl ?_
  intro p e s m args below meth c A X
  unfold f_X8_gainOf at h
  refine go_aload_n (pc := 0) X 0 dX8_gainOf_0 rfl rfl ?_
  refine go_iload_n (pc := 1) X 1 dX8_gainOf_1 rfl rfl ?_
  refine go_aload_n (pc := 2) X 0 dX8_gainOf_2 rfl rfl ?_
  refine go_getr (pc := 3) X (fk := 6) sh8 rfl inT_X8 (by decide) fL_X8_26 rfl dX8_gainOf_3 ?_
  refine go_iload_n (pc := 6) X 1 dX8_gainOf_6 rfl rfl ?_
  obtain ⟨g1, h⟩ := gd_some h
  refine go_iald (pc := 7) X shM5 (Nat.le_of_ble_eq_true rfl) rfl g1 dX8_gainOf_7 ?_
  obtain ⟨r2, h3, h⟩ := bind_some h
  refine go_callVi (pc := 8) X 2 [] (ct_X8_firstOf h3) sh8 rfl gg_X8_150 hd_X8_firstOf ⟨Nat.le_of_ble_eq_true rfl, Nat.le_of_ble_eq_true rfl⟩ rfl rfl (Nat.le_of_ble_eq_true rfl) dX8_gainOf_8 ?_
  refine go_aload_n (pc := 11) X 0 dX8_gainOf_11 rfl rfl ?_
  refine go_iload_n (pc := 12) X 1 dX8_gainOf_12 rfl rfl ?_
  refine go_iload_n (pc := 13) X 2 dX8_gainOf_13 rfl rfl ?_
  obtain ⟨u4, h5, h⟩ := bind_some h
  refine go_callVi (pc := 14) X 2 [.int (i32 r2)] (ct_X8_paysOf h5) sh8 rfl gg_X8_165 hd_X8_paysOf ⟨Nat.le_of_ble_eq_true rfl, Nat.le_of_ble_eq_true rfl⟩ rfl rfl (Nat.le_of_ble_eq_true rfl) dX8_gainOf_14 ?_
  refine go_isub (pc := 17) X dX8_gainOf_17 ?_
  exact go_iret (pc := 18) X h dX8_gainOf_18
set_option maxRecDepth 100000 in
set_option maxHeartbeats 4000000 in
theorem ct_X8_settles {l : Launch} {D : va_G} {cI cB : ClassId} {Z : (Nat → Nat) × (Nat → Nat)} {ad : Nat → Nat} {S : Mem} {S' : Mem} (h : f_X8_settles S = some S') : Ctr l D cI cB Z ad shsM yX8_settles cX8_settles 3 none 2 45 [.ref (ad 0)] S (none) S' := by
  refine ctr_of (by decide +kernel) (Nat.le_of_ble_eq_true rfl) rfl ?_
  intro p e s m args below meth c A X
  unfold f_X8_settles at h
  refine go_iconst (pc := 0) X dX8_settles_0 ?_
  refine go_istore_n (pc := 1) X [1, 0] (Ls' := [(0, .ref (ad 0)), (1, .int (i32 0))]) dX8_settles_1 rfl (by decide) rfl ?_
  obtain ⟨r24, h25, h⟩ := bind_some h
  have H26 : ∀ (n : Nat) (t27 : Int × Mem) (z28 : Mem), lp (f_X8_settles_l2) n t27 = some z28 → Go p l e { frames := 2, cells := 0, slots := 0, locals := 45 } s m args below meth c 3 D cI cB ad shsM A (MQ below (cQ D cI cB ad shsM (none) S' A) args s 0 0 A) 60 [] [] z28 → Go p l e { frames := 2, cells := 0, slots := 0, locals := 45 } s m args below meth c 3 D cI cB ad shsM A (MQ below (cQ D cI cB ad shsM (none) S' A) args s 0 0 A) 2 [(0, .ref (ad 0)), (1, .int (i32 t27.1))] [] t27.2 := by
    refine lp_go (fun t27 : Int × Mem => Go p l e { frames := 2, cells := 0, slots := 0, locals := 45 } s m args below meth c 3 D cI cB ad shsM A (MQ below (cQ D cI cB ad shsM (none) S' A) args s 0 0 A) 2 [(0, .ref (ad 0)), (1, .int (i32 t27.1))] [] t27.2) (fun z28 : Mem => Go p l e { frames := 2, cells := 0, slots := 0, locals := 45 } s m args below meth c 3 D cI cB ad shsM A (MQ below (cQ D cI cB ad shsM (none) S' A) args s 0 0 A) 60 [] [] z28) ?_
    intro t27 x29 h hx30
    unfold f_X8_settles_l2 at h
    refine go_iload_n (pc := 2) X 1 dX8_settles_2 rfl rfl ?_
    refine go_aload_n (pc := 3) X 0 dX8_settles_3 rfl rfl ?_
    obtain ⟨r32, h33, h⟩ := bind_some h
    refine go_callVi (pc := 4) X 0 [.int (i32 t27.1)] (ct_X8_many h33) sh8 rfl gg_X8_61 hd_X8_many ⟨Nat.le_of_ble_eq_true rfl, Nat.le_of_ble_eq_true rfl⟩ rfl rfl (Nat.le_of_ble_eq_true rfl) dX8_settles_4 ?_
    refine go_icmp_ge (pc := 7) X 60 dX8_settles_7 rfl (fun c34 => ?_) (fun c34 => ?_)
    · rw [if_neg c34] at h
      refine go_pick [] (Ls' := []) rfl ?_
      exact lp_back h hx30
    · rw [if_pos c34] at h
      refine go_iconst (pc := 10) X dX8_settles_10 ?_
      refine go_istore_n (pc := 11) X [1, 2, 0] (Ls' := [(0, .ref (ad 0)), (1, .int (i32 t27.1)), (2, .int (i32 0))]) dX8_settles_11 rfl (by decide) rfl ?_
      obtain ⟨r35, h36, h⟩ := bind_some h
      have H37 : ∀ (n : Nat) (t38 : Int × Mem) (z39 : Mem), lp (f_X8_settles_l12 t27.1) n t38 = some z39 → Go p l e { frames := 2, cells := 0, slots := 0, locals := 45 } s m args below meth c 3 D cI cB ad shsM A (MQ below (cQ D cI cB ad shsM (none) S' A) args s 0 0 A) 34 [(0, .ref (ad 0)), (1, .int (i32 t27.1))] [] z39 → Go p l e { frames := 2, cells := 0, slots := 0, locals := 45 } s m args below meth c 3 D cI cB ad shsM A (MQ below (cQ D cI cB ad shsM (none) S' A) args s 0 0 A) 12 [(0, .ref (ad 0)), (1, .int (i32 t27.1)), (2, .int (i32 t38.1))] [] t38.2 := by
        refine lp_go (fun t38 : Int × Mem => Go p l e { frames := 2, cells := 0, slots := 0, locals := 45 } s m args below meth c 3 D cI cB ad shsM A (MQ below (cQ D cI cB ad shsM (none) S' A) args s 0 0 A) 12 [(0, .ref (ad 0)), (1, .int (i32 t27.1)), (2, .int (i32 t38.1))] [] t38.2) (fun z39 : Mem => Go p l e { frames := 2, cells := 0, slots := 0, locals := 45 } s m args below meth c 3 D cI cB ad shsM A (MQ below (cQ D cI cB ad shsM (none) S' A) args s 0 0 A) 34 [(0, .ref (ad 0)), (1, .int (i32 t27.1))] [] z39) ?_
        intro t38 x40 h hx41
        unfold f_X8_settles_l12 at h
        refine go_iload_n (pc := 12) X 2 dX8_settles_12 rfl rfl ?_
        refine go_aload_n (pc := 13) X 0 dX8_settles_13 rfl rfl ?_
        refine go_getr (pc := 14) X (fk := 6) sh8 rfl inT_X8 (by decide) fL_X8_26 rfl dX8_settles_14 ?_
        refine go_iload_n (pc := 17) X 1 dX8_settles_17 rfl rfl ?_
        obtain ⟨g43, h⟩ := gd_some h
        refine go_iald (pc := 18) X shM5 (Nat.le_of_ble_eq_true rfl) rfl g43 dX8_settles_18 ?_
        refine go_icmp_ge (pc := 19) X 34 dX8_settles_19 rfl (fun c44 => ?_) (fun c44 => ?_)
        · rw [if_neg c44] at h
          refine go_pick [0, 1] (Ls' := [(0, .ref (ad 0)), (1, .int (i32 t27.1))]) rfl ?_
          exact lp_back h hx41
        · rw [if_pos c44] at h
          refine go_aload_n (pc := 22) X 0 dX8_settles_22 rfl rfl ?_
          refine go_iload_n (pc := 23) X 1 dX8_settles_23 rfl rfl ?_
          refine go_iconst (pc := 24) X dX8_settles_24 ?_
          obtain ⟨S45, h46, h⟩ := bind_some h
          refine go_callVv (pc := 25) X 2 [] (ct_X8_drops h46) sh8 rfl gg_X8_108 hd_X8_drops ⟨Nat.le_of_ble_eq_true rfl, Nat.le_of_ble_eq_true rfl⟩ rfl rfl (Nat.le_of_ble_eq_true rfl) dX8_settles_25 ?_
          refine go_iinc (pc := 28) X [1, 2, 0] 2 (Ls' := [(0, .ref (ad 0)), (1, .int (i32 t27.1)), (2, .int (i32 (t38.1 + 1)))]) dX8_settles_28 rfl (by decide) rfl ?_
          refine go_goto (pc := 31) X 12 dX8_settles_31 rfl ?_
          exact lp_back h hx41
      refine H37 FU (0, t27.2) r35 h36 ?_
      refine go_aload_n (pc := 34) X 0 dX8_settles_34 rfl rfl ?_
      refine go_getr (pc := 35) X (fk := 1) sh8 rfl inT_X8 (by decide) fL_X8_13 rfl dX8_settles_35 ?_
      refine go_iconst (pc := 38) X dX8_settles_38 ?_
      refine go_bipush (pc := 39) X dX8_settles_39 (by decide) (by decide) ?_
      refine go_iload_n (pc := 41) X 1 dX8_settles_41 rfl rfl ?_
      refine go_imul (pc := 42) X dX8_settles_42 ?_
      refine go_iadd (pc := 43) X dX8_settles_43 ?_
      refine go_dup2 (pc := 44) X dX8_settles_44 rfl rfl ?_
      obtain ⟨g47, h⟩ := gd_some h
      refine go_iald (pc := 45) X shM1 (Nat.le_of_ble_eq_true rfl) rfl g47 dX8_settles_45 ?_
      refine go_aload_n (pc := 46) X 0 dX8_settles_46 rfl rfl ?_
      refine go_getr (pc := 47) X (fk := 6) sh8 rfl inT_X8 (by decide) fL_X8_26 rfl dX8_settles_47 ?_
      refine go_iload_n (pc := 50) X 1 dX8_settles_50 rfl rfl ?_
      obtain ⟨g48, h⟩ := gd_some h
      refine go_iald (pc := 51) X shM5 (Nat.le_of_ble_eq_true rfl) rfl g48 dX8_settles_51 ?_
      refine go_isub (pc := 52) X dX8_settles_52 ?_
      obtain ⟨S49, e50, h⟩ := wrk_some h
      refine go_iastE (pc := 53) X e50 shM1 (Nat.le_of_ble_eq_true rfl) rfl g47 dX8_settles_53 ?_
      refine go_iinc (pc := 54) X [1, 0] 1 (Ls' := [(0, .ref (ad 0)), (1, .int (i32 (t27.1 + 1)))]) dX8_settles_54 rfl (by decide) rfl ?_
      refine go_goto (pc := 57) X 2 dX8_settles_57 rfl ?_
      exact lp_back h hx30
  refine H26 FU (0, S) r24 h25 ?_
  exact go_vret (pc := 60) X h dX8_settles_60
set_option maxRecDepth 100000 in
set_option maxHeartbeats 4000000 in
theorem ct_X8_hold {l : Launch} {D : va_G} {cI cB : ClassId} {Z : (Nat → Nat) × (Nat → Nat)} {ad : Nat → Nat} {S : Mem} {a1 : Int} {r : Int} {S' : Mem} (h : f_X8_hold S a1 = some (r, S')) : Ctr l D cI cB Z ad shsM yX8_hold cX8_hold 4 (some .int) 7 156 [.ref (ad 0), .int (i32 a1)] S (some (.int (i32 r))) S' := by
  refine ctr_of (by decide +kernel) (Nat.le_of_ble_eq_true rfl) rfl ?_
  intro p e s m args below meth c A X
  unfold f_X8_hold at h
  refine go_iload_n (pc := 0) X 1 dX8_hold_0 rfl rfl ?_
  obtain ⟨r1, h2, h⟩ := bind_some h
  refine go_callSi (pc := 1) X 1 [] (ct_X8_isKind h2) gg_X8_168 hd_X8_isKind ⟨Nat.le_of_ble_eq_true rfl, Nat.le_of_ble_eq_true rfl⟩ rfl rfl (Nat.le_of_ble_eq_true rfl) dX8_hold_1 ?_
  refine go_if_ne (pc := 4) X 9 dX8_hold_4 rfl (fun c3 => ?_) (fun c3 => ?_)
  · rw [if_neg c3] at h
    refine go_aload_n (pc := 9) X 0 dX8_hold_9 rfl rfl ?_
    obtain ⟨S4, h5, h⟩ := bind_some h
    refine go_callVv (pc := 10) X 0 [] (ct_X8_keeps h5) sh8 rfl gg_X8_84 hd_X8_keeps ⟨Nat.le_of_ble_eq_true rfl, Nat.le_of_ble_eq_true rfl⟩ rfl rfl (Nat.le_of_ble_eq_true rfl) dX8_hold_10 ?_
    refine go_aload_n (pc := 13) X 0 dX8_hold_13 rfl rfl ?_
    obtain ⟨S6, h7, h⟩ := bind_some h
    refine go_callVv (pc := 14) X 0 [] (ct_X8_runs h7) sh8 rfl gg_X8_171 hd_X8_runs ⟨Nat.le_of_ble_eq_true rfl, Nat.le_of_ble_eq_true rfl⟩ rfl rfl (Nat.le_of_ble_eq_true rfl) dX8_hold_14 ?_
    refine go_aload_n (pc := 17) X 0 dX8_hold_17 rfl rfl ?_
    refine go_iload_n (pc := 18) X 1 dX8_hold_18 rfl rfl ?_
    obtain ⟨u8, h9, h⟩ := bind_some h
    refine go_callVi (pc := 19) X 1 [] (ct_X8_paidAll h9) sh8 rfl gg_X8_174 hd_X8_paidAll ⟨Nat.le_of_ble_eq_true rfl, Nat.le_of_ble_eq_true rfl⟩ rfl rfl (Nat.le_of_ble_eq_true rfl) dX8_hold_19 ?_
    refine go_istore_n (pc := 22) X [1, 2, 0] (Ls' := [(0, .ref (ad 0)), (1, .int (i32 a1)), (2, .int (i32 u8.1))]) dX8_hold_22 rfl (by decide) rfl ?_
    refine go_aload_n (pc := 23) X 0 dX8_hold_23 rfl rfl ?_
    refine go_getr (pc := 24) X (fk := 1) sh8 rfl inT_X8 (by decide) fL_X8_13 rfl dX8_hold_24 ?_
    refine go_bipush (pc := 27) X dX8_hold_27 (by decide) (by decide) ?_
    obtain ⟨g10, h⟩ := gd_some h
    refine go_iald (pc := 29) X shM1 (Nat.le_of_ble_eq_true rfl) rfl g10 dX8_hold_29 ?_
    refine go_bipush (pc := 30) X dX8_hold_30 (by decide) (by decide) ?_
    obtain ⟨j11, h12, h⟩ := bind_some h
    have k13 : Go p l e { frames := 7, cells := 0, slots := 0, locals := 156 } s m args below meth c 4 D cI cB ad shsM A (MQ below (cQ D cI cB ad shsM (some (.int (i32 r))) S' A) args s 0 0 A) 80 [(0, .ref (ad 0)), (1, .int (i32 a1)), (2, .int (i32 u8.1))] [] j11 := by
      refine go_bipush (pc := 80) X dX8_hold_80 (by decide) (by decide) ?_
      refine go_iconst (pc := 82) X dX8_hold_82 ?_
      refine go_aload_n (pc := 83) X 0 dX8_hold_83 rfl rfl ?_
      refine go_getr (pc := 84) X (fk := 1) sh8 rfl inT_X8 (by decide) fL_X8_13 rfl dX8_hold_84 ?_
      refine go_bipush (pc := 87) X dX8_hold_87 (by decide) (by decide) ?_
      refine go_iald (pc := 89) X shM1 (Nat.le_of_ble_eq_true rfl) rfl g10 dX8_hold_89 ?_
      refine go_imul (pc := 90) X dX8_hold_90 ?_
      refine go_iadd (pc := 91) X dX8_hold_91 ?_
      refine go_istore_n (pc := 92) X [1, 2, 3, 0] (Ls' := [(0, .ref (ad 0)), (1, .int (i32 a1)), (2, .int (i32 u8.1)), (3, .int (i32 (94 + (4 * (j11 1 93)))))]) dX8_hold_92 rfl (by decide) rfl ?_
      refine go_aload_n (pc := 93) X 0 dX8_hold_93 rfl rfl ?_
      refine go_getr (pc := 94) X (fk := 1) sh8 rfl inT_X8 (by decide) fL_X8_13 rfl dX8_hold_94 ?_
      refine go_iload_n (pc := 97) X 3 dX8_hold_97 rfl rfl ?_
      refine go_aload_n (pc := 98) X 0 dX8_hold_98 rfl rfl ?_
      refine go_get (pc := 99) X (fk := 12) (fi := 12) rfl sh8 rfl inT_X8 (by decide) fL_X8_144 rfl dX8_hold_99 ?_
      obtain ⟨g14, h⟩ := gd_some h
      obtain ⟨S15, e16, h⟩ := wrk_some h
      refine go_iastE (pc := 102) X e16 shM1 (Nat.le_of_ble_eq_true rfl) rfl g14 dX8_hold_102 ?_
      refine go_aload_n (pc := 103) X 0 dX8_hold_103 rfl rfl ?_
      refine go_getr (pc := 104) X (fk := 1) sh8 rfl inT_X8 (by decide) fL_X8_13 rfl dX8_hold_104 ?_
      refine go_iload_n (pc := 107) X 3 dX8_hold_107 rfl rfl ?_
      refine go_iconst (pc := 108) X dX8_hold_108 ?_
      refine go_iadd (pc := 109) X dX8_hold_109 ?_
      refine go_aload_n (pc := 110) X 0 dX8_hold_110 rfl rfl ?_
      refine go_get (pc := 111) X (fk := 11) (fi := 11) rfl sh8 rfl inT_X8 (by decide) fL_X8_135 rfl dX8_hold_111 ?_
      obtain ⟨g17, h⟩ := gd_some h
      obtain ⟨S18, e19, h⟩ := wrk_some h
      refine go_iastE (pc := 114) X e19 shM1 (Nat.le_of_ble_eq_true rfl) rfl g17 dX8_hold_114 ?_
      refine go_aload_n (pc := 115) X 0 dX8_hold_115 rfl rfl ?_
      refine go_getr (pc := 116) X (fk := 1) sh8 rfl inT_X8 (by decide) fL_X8_13 rfl dX8_hold_116 ?_
      refine go_iload_n (pc := 119) X 3 dX8_hold_119 rfl rfl ?_
      refine go_iconst (pc := 120) X dX8_hold_120 ?_
      refine go_iadd (pc := 121) X dX8_hold_121 ?_
      refine go_iload_n (pc := 122) X 2 dX8_hold_122 rfl rfl ?_
      obtain ⟨g20, h⟩ := gd_some h
      obtain ⟨S21, e22, h⟩ := wrk_some h
      refine go_iastE (pc := 123) X e22 shM1 (Nat.le_of_ble_eq_true rfl) rfl g20 dX8_hold_123 ?_
      refine go_aload_n (pc := 124) X 0 dX8_hold_124 rfl rfl ?_
      refine go_getr (pc := 125) X (fk := 1) sh8 rfl inT_X8 (by decide) fL_X8_13 rfl dX8_hold_125 ?_
      refine go_iload_n (pc := 128) X 3 dX8_hold_128 rfl rfl ?_
      refine go_iconst (pc := 129) X dX8_hold_129 ?_
      refine go_iadd (pc := 130) X dX8_hold_130 ?_
      refine go_iload_n (pc := 131) X 1 dX8_hold_131 rfl rfl ?_
      obtain ⟨g23, h⟩ := gd_some h
      obtain ⟨S24, e25, h⟩ := wrk_some h
      refine go_iastE (pc := 132) X e25 shM1 (Nat.le_of_ble_eq_true rfl) rfl g23 dX8_hold_132 ?_
      refine go_aload_n (pc := 133) X 0 dX8_hold_133 rfl rfl ?_
      refine go_getr (pc := 134) X (fk := 1) sh8 rfl inT_X8 (by decide) fL_X8_13 rfl dX8_hold_134 ?_
      refine go_bipush (pc := 137) X dX8_hold_137 (by decide) (by decide) ?_
      refine go_dup2 (pc := 139) X dX8_hold_139 rfl rfl ?_
      refine go_iald (pc := 140) X shM1 (Nat.le_of_ble_eq_true rfl) rfl g10 dX8_hold_140 ?_
      refine go_iconst (pc := 141) X dX8_hold_141 ?_
      refine go_iadd (pc := 142) X dX8_hold_142 ?_
      obtain ⟨S26, e27, h⟩ := wrk_some h
      refine go_iastE (pc := 143) X e27 shM1 (Nat.le_of_ble_eq_true rfl) rfl g10 dX8_hold_143 ?_
      refine go_aload_n (pc := 144) X 0 dX8_hold_144 rfl rfl ?_
      obtain ⟨S28, h29, h⟩ := bind_some h
      refine go_callVv (pc := 145) X 0 [] (ct_X8_settles h29) sh8 rfl gg_X8_177 hd_X8_settles ⟨Nat.le_of_ble_eq_true rfl, Nat.le_of_ble_eq_true rfl⟩ rfl rfl (Nat.le_of_ble_eq_true rfl) dX8_hold_145 ?_
      refine go_aload_n (pc := 148) X 0 dX8_hold_148 rfl rfl ?_
      refine go_get (pc := 149) X (fk := 11) (fi := 11) rfl sh8 rfl inT_X8 (by decide) fL_X8_135 rfl dX8_hold_149 ?_
      exact go_iret (pc := 152) X h dX8_hold_152
    refine go_icmp_ne (pc := 32) X 80 dX8_hold_32 rfl (fun c30 => ?_) (fun c30 => ?_)
    · rw [if_neg c30] at h12
      cases h12
      exact k13
    · rw [if_pos c30] at h12
      refine go_iconst (pc := 35) X dX8_hold_35 ?_
      refine go_istore_n (pc := 36) X [1, 2, 3, 0] (Ls' := [(0, .ref (ad 0)), (1, .int (i32 a1)), (2, .int (i32 u8.1)), (3, .int (i32 4))]) dX8_hold_36 rfl (by decide) rfl ?_
      obtain ⟨r36, h37, h12⟩ := bind_some h12
      have H38 : ∀ (n : Nat) (t39 : Int × Mem) (z40 : Mem), lp (f_X8_hold_l37 a1 u8.1) n t39 = some z40 → Go p l e { frames := 7, cells := 0, slots := 0, locals := 156 } s m args below meth c 4 D cI cB ad shsM A (MQ below (cQ D cI cB ad shsM (some (.int (i32 r))) S' A) args s 0 0 A) 69 [(0, .ref (ad 0)), (1, .int (i32 a1)), (2, .int (i32 u8.1))] [] z40 → Go p l e { frames := 7, cells := 0, slots := 0, locals := 156 } s m args below meth c 4 D cI cB ad shsM A (MQ below (cQ D cI cB ad shsM (some (.int (i32 r))) S' A) args s 0 0 A) 37 [(0, .ref (ad 0)), (1, .int (i32 a1)), (2, .int (i32 u8.1)), (3, .int (i32 t39.1))] [] t39.2 := by
        refine lp_go (fun t39 : Int × Mem => Go p l e { frames := 7, cells := 0, slots := 0, locals := 156 } s m args below meth c 4 D cI cB ad shsM A (MQ below (cQ D cI cB ad shsM (some (.int (i32 r))) S' A) args s 0 0 A) 37 [(0, .ref (ad 0)), (1, .int (i32 a1)), (2, .int (i32 u8.1)), (3, .int (i32 t39.1))] [] t39.2) (fun z40 : Mem => Go p l e { frames := 7, cells := 0, slots := 0, locals := 156 } s m args below meth c 4 D cI cB ad shsM A (MQ below (cQ D cI cB ad shsM (some (.int (i32 r))) S' A) args s 0 0 A) 69 [(0, .ref (ad 0)), (1, .int (i32 a1)), (2, .int (i32 u8.1))] [] z40) ?_
        intro t39 x41 h hx42
        unfold f_X8_hold_l37 at h
        refine go_iload_n (pc := 37) X 3 dX8_hold_37 rfl rfl ?_
        refine go_bipush (pc := 38) X dX8_hold_38 (by decide) (by decide) ?_
        refine go_icmp_ge (pc := 40) X 69 dX8_hold_40 rfl (fun c44 => ?_) (fun c44 => ?_)
        · rw [if_neg c44] at h
          refine go_pick [0, 1, 2] (Ls' := [(0, .ref (ad 0)), (1, .int (i32 a1)), (2, .int (i32 u8.1))]) rfl ?_
          exact lp_back h hx42
        · rw [if_pos c44] at h
          refine go_aload_n (pc := 43) X 0 dX8_hold_43 rfl rfl ?_
          refine go_getr (pc := 44) X (fk := 1) sh8 rfl inT_X8 (by decide) fL_X8_13 rfl dX8_hold_44 ?_
          refine go_bipush (pc := 47) X dX8_hold_47 (by decide) (by decide) ?_
          refine go_iload_n (pc := 49) X 3 dX8_hold_49 rfl rfl ?_
          refine go_iadd (pc := 50) X dX8_hold_50 ?_
          refine go_iconst (pc := 51) X dX8_hold_51 ?_
          refine go_isub (pc := 52) X dX8_hold_52 ?_
          refine go_aload_n (pc := 53) X 0 dX8_hold_53 rfl rfl ?_
          refine go_getr (pc := 54) X (fk := 1) sh8 rfl inT_X8 (by decide) fL_X8_13 rfl dX8_hold_54 ?_
          refine go_bipush (pc := 57) X dX8_hold_57 (by decide) (by decide) ?_
          refine go_iload_n (pc := 59) X 3 dX8_hold_59 rfl rfl ?_
          refine go_iadd (pc := 60) X dX8_hold_60 ?_
          obtain ⟨g45, h⟩ := gd_some h
          refine go_iald (pc := 61) X shM1 (Nat.le_of_ble_eq_true rfl) rfl g45 dX8_hold_61 ?_
          obtain ⟨g46, h⟩ := gd_some h
          obtain ⟨S47, e48, h⟩ := wrk_some h
          refine go_iastE (pc := 62) X e48 shM1 (Nat.le_of_ble_eq_true rfl) rfl g46 dX8_hold_62 ?_
          refine go_iinc (pc := 63) X [1, 2, 3, 0] 3 (Ls' := [(0, .ref (ad 0)), (1, .int (i32 a1)), (2, .int (i32 u8.1)), (3, .int (i32 (t39.1 + 1)))]) dX8_hold_63 rfl (by decide) rfl ?_
          refine go_goto (pc := 66) X 37 dX8_hold_66 rfl ?_
          exact lp_back h hx42
      refine H38 FU (4, u8.2) r36 h37 ?_
      refine go_aload_n (pc := 69) X 0 dX8_hold_69 rfl rfl ?_
      refine go_getr (pc := 70) X (fk := 1) sh8 rfl inT_X8 (by decide) fL_X8_13 rfl dX8_hold_70 ?_
      refine go_bipush (pc := 73) X dX8_hold_73 (by decide) (by decide) ?_
      refine go_dup2 (pc := 75) X dX8_hold_75 rfl rfl ?_
      obtain ⟨g49, h12⟩ := gd_some h12
      refine go_iald (pc := 76) X shM1 (Nat.le_of_ble_eq_true rfl) rfl g49 dX8_hold_76 ?_
      refine go_iconst (pc := 77) X dX8_hold_77 ?_
      refine go_isub (pc := 78) X dX8_hold_78 ?_
      obtain ⟨S50, e51, h12⟩ := wrk_some h12
      refine go_iastE (pc := 79) X e51 shM1 (Nat.le_of_ble_eq_true rfl) rfl g49 dX8_hold_79 ?_
      cases h12
      exact k13
  · rw [if_pos c3] at h
    refine go_iconst (pc := 7) X dX8_hold_7 ?_
    exact go_iret (pc := 8) X h dX8_hold_8
set_option maxRecDepth 100000 in
set_option maxHeartbeats 4000000 in
theorem ct_X8_record {l : Launch} {D : va_G} {cI cB : ClassId} {Z : (Nat → Nat) × (Nat → Nat)} {ad : Nat → Nat} {S : Mem} {a1 : Int} {a2 : Int} {r : Int} (h : f_X8_record S a1 a2 = some r) : Ctr l D cI cB Z ad shsM yX8_record cX8_record 3 (some .int) 1 22 [.ref (ad 0), .int (i32 a1), .int (i32 a2)] S (some (.int (i32 r))) S := by
  refine ctr_of (by decide +kernel) (Nat.le_of_ble_eq_true rfl) rfl ?_
  intro p e s m args below meth c A X
  unfold f_X8_record at h
  refine go_iload_n (pc := 0) X 1 dX8_record_0 rfl rfl ?_
  refine go_iconst (pc := 1) X dX8_record_1 ?_
  refine go_aload_n (pc := 2) X 0 dX8_record_2 rfl rfl ?_
  refine go_getr (pc := 3) X (fk := 1) sh8 rfl inT_X8 (by decide) fL_X8_13 rfl dX8_record_3 ?_
  refine go_bipush (pc := 6) X dX8_record_6 (by decide) (by decide) ?_
  obtain ⟨g1, h⟩ := gd_some h
  refine go_iald (pc := 8) X shM1 (Nat.le_of_ble_eq_true rfl) rfl g1 dX8_record_8 ?_
  refine go_iconst (pc := 9) X dX8_record_9 ?_
  refine go_isub (pc := 10) X dX8_record_10 ?_
  obtain ⟨r2, h3, h⟩ := bind_some h
  refine go_callSi (pc := 11) X 3 [] (ct_X8_in h3) gg_X8_65 hd_X8_in ⟨Nat.le_of_ble_eq_true rfl, Nat.le_of_ble_eq_true rfl⟩ rfl rfl (Nat.le_of_ble_eq_true rfl) dX8_record_11 ?_
  refine go_if_eq (pc := 14) X 52 dX8_record_14 rfl (fun c4 => ?_) (fun c4 => ?_)
  · rw [if_pos c4] at h
    refine go_iconst (pc := 52) X dX8_record_52 ?_
    exact go_iretP (pc := 53) X h dX8_record_53
  · rw [if_neg c4] at h
    refine go_iload_n (pc := 17) X 2 dX8_record_17 rfl rfl ?_
    refine go_iconst (pc := 18) X dX8_record_18 ?_
    refine go_iconst (pc := 19) X dX8_record_19 ?_
    obtain ⟨r5, h6, h⟩ := bind_some h
    refine go_callSi (pc := 20) X 3 [] (ct_X8_in h6) gg_X8_65 hd_X8_in ⟨Nat.le_of_ble_eq_true rfl, Nat.le_of_ble_eq_true rfl⟩ rfl rfl (Nat.le_of_ble_eq_true rfl) dX8_record_20 ?_
    refine go_if_eq (pc := 23) X 52 dX8_record_23 rfl (fun c7 => ?_) (fun c7 => ?_)
    · rw [if_pos c7] at h
      refine go_iconst (pc := 52) X dX8_record_52 ?_
      exact go_iretP (pc := 53) X h dX8_record_53
    · rw [if_neg c7] at h
      refine go_aload_n (pc := 26) X 0 dX8_record_26 rfl rfl ?_
      refine go_getr (pc := 27) X (fk := 1) sh8 rfl inT_X8 (by decide) fL_X8_13 rfl dX8_record_27 ?_
      refine go_bipush (pc := 30) X dX8_record_30 (by decide) (by decide) ?_
      refine go_iconst (pc := 32) X dX8_record_32 ?_
      refine go_aload_n (pc := 33) X 0 dX8_record_33 rfl rfl ?_
      refine go_getr (pc := 34) X (fk := 1) sh8 rfl inT_X8 (by decide) fL_X8_13 rfl dX8_record_34 ?_
      refine go_bipush (pc := 37) X dX8_record_37 (by decide) (by decide) ?_
      refine go_iald (pc := 39) X shM1 (Nat.le_of_ble_eq_true rfl) rfl g1 dX8_record_39 ?_
      refine go_iconst (pc := 40) X dX8_record_40 ?_
      refine go_isub (pc := 41) X dX8_record_41 ?_
      refine go_iload_n (pc := 42) X 1 dX8_record_42 rfl rfl ?_
      refine go_isub (pc := 43) X dX8_record_43 ?_
      refine go_imul (pc := 44) X dX8_record_44 ?_
      refine go_iadd (pc := 45) X dX8_record_45 ?_
      refine go_iload_n (pc := 46) X 2 dX8_record_46 rfl rfl ?_
      refine go_iadd (pc := 47) X dX8_record_47 ?_
      obtain ⟨g8, h⟩ := gd_some h
      refine go_iald (pc := 48) X shM1 (Nat.le_of_ble_eq_true rfl) rfl g8 dX8_record_48 ?_
      refine go_goto (pc := 49) X 53 dX8_record_49 rfl ?_
      exact go_iretP (pc := 53) X h dX8_record_53
set_option maxRecDepth 100000 in
set_option maxHeartbeats 4000000 in
theorem ct_X8_of {l : Launch} {D : va_G} {cI cB : ClassId} {Z : (Nat → Nat) × (Nat → Nat)} {ad : Nat → Nat} {S : Mem} {a1 : Int} {a2 : Int} {r : Int} {S' : Mem} (h : f_X8_of S a1 a2 = some (r, S')) : Ctr l D cI cB Z ad shsM yX8_of cX8_of 3 (some .int) 7 156 [.ref (ad 0), .int (i32 a1), .int (i32 a2)] S (some (.int (i32 r))) S' := by
  refine ctr_of (by decide +kernel) (Nat.le_of_ble_eq_true rfl) rfl ?_
  intro p e s m args below meth c A X
  unfold f_X8_of at h
  refine go_aload_n (pc := 0) X 0 dX8_of_0 rfl rfl ?_
  refine go_iload_n (pc := 1) X 1 dX8_of_1 rfl rfl ?_
  obtain ⟨r1, h2, h⟩ := bind_some h
  refine go_callVi (pc := 2) X 1 [] (ct_X8_isBidder h2) sh8 rfl gg_X8_90 hd_X8_isBidder ⟨Nat.le_of_ble_eq_true rfl, Nat.le_of_ble_eq_true rfl⟩ rfl rfl (Nat.le_of_ble_eq_true rfl) dX8_of_2 ?_
  refine go_if_eq (pc := 5) X 17 dX8_of_5 rfl (fun c3 => ?_) (fun c3 => ?_)
  · rw [if_pos c3] at h
    refine go_iconst (pc := 17) X dX8_of_17 ?_
    exact go_iret (pc := 18) X h dX8_of_18
  · rw [if_neg c3] at h
    refine go_iload_n (pc := 8) X 2 dX8_of_8 rfl rfl ?_
    refine go_iconst (pc := 9) X dX8_of_9 ?_
    refine go_iconst (pc := 10) X dX8_of_10 ?_
    obtain ⟨r4, h5, h⟩ := bind_some h
    refine go_callSi (pc := 11) X 3 [] (ct_X8_in h5) gg_X8_65 hd_X8_in ⟨Nat.le_of_ble_eq_true rfl, Nat.le_of_ble_eq_true rfl⟩ rfl rfl (Nat.le_of_ble_eq_true rfl) dX8_of_11 ?_
    refine go_if_ne (pc := 14) X 19 dX8_of_14 rfl (fun c6 => ?_) (fun c6 => ?_)
    · rw [if_neg c6] at h
      refine go_aload_n (pc := 19) X 0 dX8_of_19 rfl rfl ?_
      obtain ⟨S7, h8, h⟩ := bind_some h
      refine go_callVv (pc := 20) X 0 [] (ct_X8_runs h8) sh8 rfl gg_X8_171 hd_X8_runs ⟨Nat.le_of_ble_eq_true rfl, Nat.le_of_ble_eq_true rfl⟩ rfl rfl (Nat.le_of_ble_eq_true rfl) dX8_of_20 ?_
      refine go_iload_n (pc := 23) X 2 dX8_of_23 rfl rfl ?_
      by_cases c9 : eqb a2 0 = true
      · rw [if_pos c9] at h
        refine go_tab (pc := 24) X 60 dX8_of_24 c9 ⟨by decide, by decide⟩ ⟨by decide, by decide⟩ rfl rfl ?_
        refine go_aload_n (pc := 60) X 0 dX8_of_60 rfl rfl ?_
        refine go_iload_n (pc := 61) X 1 dX8_of_61 rfl rfl ?_
        obtain ⟨r10, h11, h⟩ := bind_some h
        refine go_callVi (pc := 62) X 1 [] (ct_X8_valuesOf h11) sh8 rfl gg_X8_73 hd_X8_valuesOf ⟨Nat.le_of_ble_eq_true rfl, Nat.le_of_ble_eq_true rfl⟩ rfl rfl (Nat.le_of_ble_eq_true rfl) dX8_of_62 ?_
        exact go_iret (pc := 65) X h dX8_of_65
      · rw [if_neg c9] at h
        by_cases c12 : eqb a2 1 = true
        · rw [if_pos c12] at h
          refine go_tab (pc := 24) X 66 dX8_of_24 c12 ⟨by decide, by decide⟩ ⟨by decide, by decide⟩ rfl rfl ?_
          refine go_aload_n (pc := 66) X 0 dX8_of_66 rfl rfl ?_
          refine go_iload_n (pc := 67) X 1 dX8_of_67 rfl rfl ?_
          obtain ⟨r13, h14, h⟩ := bind_some h
          refine go_callVi (pc := 68) X 1 [] (ct_X8_capOf h14) sh8 rfl gg_X8_69 hd_X8_capOf ⟨Nat.le_of_ble_eq_true rfl, Nat.le_of_ble_eq_true rfl⟩ rfl rfl (Nat.le_of_ble_eq_true rfl) dX8_of_68 ?_
          exact go_iret (pc := 71) X h dX8_of_71
        · rw [if_neg c12] at h
          by_cases c15 : eqb a2 2 = true
          · rw [if_pos c15] at h
            refine go_tab (pc := 24) X 72 dX8_of_24 c15 ⟨by decide, by decide⟩ ⟨by decide, by decide⟩ rfl rfl ?_
            refine go_aload_n (pc := 72) X 0 dX8_of_72 rfl rfl ?_
            refine go_getr (pc := 73) X (fk := 6) sh8 rfl inT_X8 (by decide) fL_X8_26 rfl dX8_of_73 ?_
            refine go_iload_n (pc := 76) X 1 dX8_of_76 rfl rfl ?_
            obtain ⟨g16, h⟩ := gd_some h
            refine go_iald (pc := 77) X shM5 (Nat.le_of_ble_eq_true rfl) rfl g16 dX8_of_77 ?_
            exact go_iret (pc := 78) X h dX8_of_78
          · rw [if_neg c15] at h
            by_cases c17 : eqb a2 3 = true
            · rw [if_pos c17] at h
              refine go_tab (pc := 24) X 79 dX8_of_24 c17 ⟨by decide, by decide⟩ ⟨by decide, by decide⟩ rfl rfl ?_
              refine go_aload_n (pc := 79) X 0 dX8_of_79 rfl rfl ?_
              refine go_iload_n (pc := 80) X 1 dX8_of_80 rfl rfl ?_
              refine go_aload_n (pc := 81) X 0 dX8_of_81 rfl rfl ?_
              refine go_getr (pc := 82) X (fk := 6) sh8 rfl inT_X8 (by decide) fL_X8_26 rfl dX8_of_82 ?_
              refine go_iload_n (pc := 85) X 1 dX8_of_85 rfl rfl ?_
              obtain ⟨g18, h⟩ := gd_some h
              refine go_iald (pc := 86) X shM5 (Nat.le_of_ble_eq_true rfl) rfl g18 dX8_of_86 ?_
              obtain ⟨r19, h20, h⟩ := bind_some h
              refine go_callVi (pc := 87) X 2 [] (ct_X8_firstOf h20) sh8 rfl gg_X8_150 hd_X8_firstOf ⟨Nat.le_of_ble_eq_true rfl, Nat.le_of_ble_eq_true rfl⟩ rfl rfl (Nat.le_of_ble_eq_true rfl) dX8_of_87 ?_
              exact go_iret (pc := 90) X h dX8_of_90
            · rw [if_neg c17] at h
              by_cases c21 : eqb a2 4 = true
              · rw [if_pos c21] at h
                refine go_tab (pc := 24) X 91 dX8_of_24 c21 ⟨by decide, by decide⟩ ⟨by decide, by decide⟩ rfl rfl ?_
                refine go_aload_n (pc := 91) X 0 dX8_of_91 rfl rfl ?_
                refine go_getr (pc := 92) X (fk := 6) sh8 rfl inT_X8 (by decide) fL_X8_26 rfl dX8_of_92 ?_
                refine go_iload_n (pc := 95) X 1 dX8_of_95 rfl rfl ?_
                obtain ⟨g22, h⟩ := gd_some h
                refine go_iald (pc := 96) X shM5 (Nat.le_of_ble_eq_true rfl) rfl g22 dX8_of_96 ?_
                refine go_aload_n (pc := 97) X 0 dX8_of_97 rfl rfl ?_
                refine go_getr (pc := 98) X (fk := 7) sh8 rfl inT_X8 (by decide) fL_X8_29 rfl dX8_of_98 ?_
                refine go_iload_n (pc := 101) X 1 dX8_of_101 rfl rfl ?_
                refine go_iald (pc := 102) X shM6 (Nat.le_of_ble_eq_true rfl) rfl g22 dX8_of_102 ?_
                refine go_isub (pc := 103) X dX8_of_103 ?_
                exact go_iret (pc := 104) X h dX8_of_104
              · rw [if_neg c21] at h
                have nc9 : ¬ (0 : Int) = (i32 a2).toInt := fun z => c9 ((eqb_toInt (by decide) (by decide)).mpr z.symm)
                have nc12 : ¬ (1 : Int) = (i32 a2).toInt := fun z => c12 ((eqb_toInt (by decide) (by decide)).mpr z.symm)
                have nc15 : ¬ (2 : Int) = (i32 a2).toInt := fun z => c15 ((eqb_toInt (by decide) (by decide)).mpr z.symm)
                have nc17 : ¬ (3 : Int) = (i32 a2).toInt := fun z => c17 ((eqb_toInt (by decide) (by decide)).mpr z.symm)
                have nc21 : ¬ (4 : Int) = (i32 a2).toInt := fun z => c21 ((eqb_toInt (by decide) (by decide)).mpr z.symm)
                refine go_tabx (pc := 24) X 105 dX8_of_24 (by omega) rfl ?_
                refine go_aload_n (pc := 105) X 0 dX8_of_105 rfl rfl ?_
                refine go_getr (pc := 106) X (fk := 7) sh8 rfl inT_X8 (by decide) fL_X8_29 rfl dX8_of_106 ?_
                refine go_iload_n (pc := 109) X 1 dX8_of_109 rfl rfl ?_
                obtain ⟨g23, h⟩ := gd_some h
                refine go_iald (pc := 110) X shM6 (Nat.le_of_ble_eq_true rfl) rfl g23 dX8_of_110 ?_
                refine go_if_ne (pc := 111) X 119 dX8_of_111 rfl (fun c24 => ?_) (fun c24 => ?_)
                · rw [if_neg c24] at h
                  refine go_aload_n (pc := 119) X 0 dX8_of_119 rfl rfl ?_
                  refine go_getr (pc := 120) X (fk := 8) sh8 rfl inT_X8 (by decide) fL_X8_32 rfl dX8_of_120 ?_
                  refine go_bipush (pc := 123) X dX8_of_123 (by decide) (by decide) ?_
                  refine go_iload_n (pc := 125) X 1 dX8_of_125 rfl rfl ?_
                  refine go_imul (pc := 126) X dX8_of_126 ?_
                  obtain ⟨g25, h⟩ := gd_some h
                  refine go_iald (pc := 127) X shM7 (Nat.le_of_ble_eq_true rfl) rfl g25 dX8_of_127 ?_
                  exact go_iret (pc := 128) X h dX8_of_128
                · rw [if_pos c24] at h
                  refine go_bipush (pc := 114) X dX8_of_114 (by decide) (by decide) ?_
                  refine go_goto (pc := 116) X 128 dX8_of_116 rfl ?_
                  exact go_iret (pc := 128) X h dX8_of_128
    · rw [if_pos c6] at h
      refine go_iconst (pc := 17) X dX8_of_17 ?_
      exact go_iret (pc := 18) X h dX8_of_18
set_option maxRecDepth 100000 in
set_option maxHeartbeats 4000000 in
theorem ct_X8_valueOf {l : Launch} {D : va_G} {cI cB : ClassId} {Z : (Nat → Nat) × (Nat → Nat)} {ad : Nat → Nat} {S : Mem} {a1 : Int} {a2 : Int} {r : Int} (h : f_X8_valueOf S a1 a2 = some r) : Ctr l D cI cB Z ad shsM yX8_valueOf cX8_valueOf 3 (some .int) 3 65 [.ref (ad 0), .int (i32 a1), .int (i32 a2)] S (some (.int (i32 r))) S := by
  refine ctr_of (by decide +kernel) (Nat.le_of_ble_eq_true rfl) rfl ?_
  intro p e s m args below meth c A X
  unfold f_X8_valueOf at h
  refine go_aload_n (pc := 0) X 0 dX8_valueOf_0 rfl rfl ?_
  refine go_iload_n (pc := 1) X 1 dX8_valueOf_1 rfl rfl ?_
  refine go_iload_n (pc := 2) X 2 dX8_valueOf_2 rfl rfl ?_
  obtain ⟨r1, h2, h⟩ := bind_some h
  refine go_callVi (pc := 3) X 2 [] (ct_X8_isValue h2) sh8 rfl gg_X8_104 hd_X8_isValue ⟨Nat.le_of_ble_eq_true rfl, Nat.le_of_ble_eq_true rfl⟩ rfl rfl (Nat.le_of_ble_eq_true rfl) dX8_valueOf_3 ?_
  refine go_if_eq (pc := 6) X 18 dX8_valueOf_6 rfl (fun c3 => ?_) (fun c3 => ?_)
  · rw [if_pos c3] at h
    refine go_iconst (pc := 18) X dX8_valueOf_18 ?_
    exact go_iretP (pc := 19) X h dX8_valueOf_19
  · rw [if_neg c3] at h
    refine go_aload_n (pc := 9) X 0 dX8_valueOf_9 rfl rfl ?_
    refine go_iload_n (pc := 10) X 1 dX8_valueOf_10 rfl rfl ?_
    refine go_iload_n (pc := 11) X 2 dX8_valueOf_11 rfl rfl ?_
    obtain ⟨r4, h5, h⟩ := bind_some h
    refine go_callVi (pc := 12) X 2 [] (ct_X8_valueAt h5) sh8 rfl gg_X8_114 hd_X8_valueAt ⟨Nat.le_of_ble_eq_true rfl, Nat.le_of_ble_eq_true rfl⟩ rfl rfl (Nat.le_of_ble_eq_true rfl) dX8_valueOf_12 ?_
    refine go_goto (pc := 15) X 19 dX8_valueOf_15 rfl ?_
    exact go_iretP (pc := 19) X h dX8_valueOf_19
set_option maxRecDepth 100000 in
set_option maxHeartbeats 4000000 in
theorem ct_X8_unit {l : Launch} {D : va_G} {cI cB : ClassId} {Z : (Nat → Nat) × (Nat → Nat)} {ad : Nat → Nat} {S : Mem} {a1 : Int} {a2 : Int} {r : Int} {S' : Mem} (h : f_X8_unit S a1 a2 = some (r, S')) : Ctr l D cI cB Z ad shsM yX8_unit cX8_unit 3 (some .int) 7 156 [.ref (ad 0), .int (i32 a1), .int (i32 a2)] S (some (.int (i32 r))) S' := by
  refine ctr_of (by decide +kernel) (Nat.le_of_ble_eq_true rfl) rfl ?_
  intro p e s m args below meth c A X
  unfold f_X8_unit at h
  refine go_aload_n (pc := 0) X 0 dX8_unit_0 rfl rfl ?_
  refine go_iload_n (pc := 1) X 1 dX8_unit_1 rfl rfl ?_
  obtain ⟨r1, h2, h⟩ := bind_some h
  refine go_callVi (pc := 2) X 1 [] (ct_X8_isBidder h2) sh8 rfl gg_X8_90 hd_X8_isBidder ⟨Nat.le_of_ble_eq_true rfl, Nat.le_of_ble_eq_true rfl⟩ rfl rfl (Nat.le_of_ble_eq_true rfl) dX8_unit_2 ?_
  refine go_if_eq (pc := 5) X 12 dX8_unit_5 rfl (fun c3 => ?_) (fun c3 => ?_)
  · rw [if_pos c3] at h
    refine go_iconst (pc := 12) X dX8_unit_12 ?_
    exact go_iret (pc := 13) X h dX8_unit_13
  · rw [if_neg c3] at h
    refine go_iload_n (pc := 8) X 2 dX8_unit_8 rfl rfl ?_
    refine go_if_ge (pc := 9) X 14 dX8_unit_9 rfl (fun c4 => ?_) (fun c4 => ?_)
    · rw [if_neg c4] at h
      refine go_aload_n (pc := 14) X 0 dX8_unit_14 rfl rfl ?_
      obtain ⟨S5, h6, h⟩ := bind_some h
      refine go_callVv (pc := 15) X 0 [] (ct_X8_runs h6) sh8 rfl gg_X8_171 hd_X8_runs ⟨Nat.le_of_ble_eq_true rfl, Nat.le_of_ble_eq_true rfl⟩ rfl rfl (Nat.le_of_ble_eq_true rfl) dX8_unit_15 ?_
      refine go_iload_n (pc := 18) X 2 dX8_unit_18 rfl rfl ?_
      refine go_aload_n (pc := 19) X 0 dX8_unit_19 rfl rfl ?_
      refine go_getr (pc := 20) X (fk := 6) sh8 rfl inT_X8 (by decide) fL_X8_26 rfl dX8_unit_20 ?_
      refine go_iload_n (pc := 23) X 1 dX8_unit_23 rfl rfl ?_
      obtain ⟨g7, h⟩ := gd_some h
      refine go_iald (pc := 24) X shM5 (Nat.le_of_ble_eq_true rfl) rfl g7 dX8_unit_24 ?_
      refine go_icmp_ge (pc := 25) X 42 dX8_unit_25 rfl (fun c8 => ?_) (fun c8 => ?_)
      · rw [if_neg c8] at h
        refine go_bipush (pc := 42) X dX8_unit_42 (by decide) (by decide) ?_
        exact go_iret (pc := 44) X h dX8_unit_44
      · rw [if_pos c8] at h
        refine go_aload_n (pc := 28) X 0 dX8_unit_28 rfl rfl ?_
        refine go_getr (pc := 29) X (fk := 8) sh8 rfl inT_X8 (by decide) fL_X8_32 rfl dX8_unit_29 ?_
        refine go_bipush (pc := 32) X dX8_unit_32 (by decide) (by decide) ?_
        refine go_iload_n (pc := 34) X 1 dX8_unit_34 rfl rfl ?_
        refine go_imul (pc := 35) X dX8_unit_35 ?_
        refine go_iload_n (pc := 36) X 2 dX8_unit_36 rfl rfl ?_
        refine go_iadd (pc := 37) X dX8_unit_37 ?_
        obtain ⟨g9, h⟩ := gd_some h
        refine go_iald (pc := 38) X shM7 (Nat.le_of_ble_eq_true rfl) rfl g9 dX8_unit_38 ?_
        refine go_goto (pc := 39) X 44 dX8_unit_39 rfl ?_
        exact go_iret (pc := 44) X h dX8_unit_44
    · rw [if_pos c4] at h
      refine go_iconst (pc := 12) X dX8_unit_12 ?_
      exact go_iret (pc := 13) X h dX8_unit_13
set_option maxRecDepth 100000 in
set_option maxHeartbeats 4000000 in
theorem ct_X8_pays {l : Launch} {D : va_G} {cI cB : ClassId} {Z : (Nat → Nat) × (Nat → Nat)} {ad : Nat → Nat} {S : Mem} {a1 : Int} {a2 : Int} {r : Int} {S' : Mem} (h : f_X8_pays S a1 a2 = some (r, S')) : Ctr l D cI cB Z ad shsM yX8_pays cX8_pays 3 (some .int) 7 156 [.ref (ad 0), .int (i32 a1), .int (i32 a2)] S (some (.int (i32 r))) S' := by
  refine ctr_of (by decide +kernel) (Nat.le_of_ble_eq_true rfl) rfl ?_
  intro p e s m args below meth c A X
  unfold f_X8_pays at h
  refine go_aload_n (pc := 0) X 0 dX8_pays_0 rfl rfl ?_
  refine go_iload_n (pc := 1) X 1 dX8_pays_1 rfl rfl ?_
  obtain ⟨r1, h2, h⟩ := bind_some h
  refine go_callVi (pc := 2) X 1 [] (ct_X8_isBidder h2) sh8 rfl gg_X8_90 hd_X8_isBidder ⟨Nat.le_of_ble_eq_true rfl, Nat.le_of_ble_eq_true rfl⟩ rfl rfl (Nat.le_of_ble_eq_true rfl) dX8_pays_2 ?_
  refine go_if_eq (pc := 5) X 15 dX8_pays_5 rfl (fun c3 => ?_) (fun c3 => ?_)
  · rw [if_pos c3] at h
    refine go_iconst (pc := 15) X dX8_pays_15 ?_
    exact go_iret (pc := 16) X h dX8_pays_16
  · rw [if_neg c3] at h
    refine go_iload_n (pc := 8) X 2 dX8_pays_8 rfl rfl ?_
    obtain ⟨r4, h5, h⟩ := bind_some h
    refine go_callSi (pc := 9) X 1 [] (ct_X8_isKind h5) gg_X8_168 hd_X8_isKind ⟨Nat.le_of_ble_eq_true rfl, Nat.le_of_ble_eq_true rfl⟩ rfl rfl (Nat.le_of_ble_eq_true rfl) dX8_pays_9 ?_
    refine go_if_ne (pc := 12) X 17 dX8_pays_12 rfl (fun c6 => ?_) (fun c6 => ?_)
    · rw [if_neg c6] at h
      refine go_aload_n (pc := 17) X 0 dX8_pays_17 rfl rfl ?_
      obtain ⟨S7, h8, h⟩ := bind_some h
      refine go_callVv (pc := 18) X 0 [] (ct_X8_runs h8) sh8 rfl gg_X8_171 hd_X8_runs ⟨Nat.le_of_ble_eq_true rfl, Nat.le_of_ble_eq_true rfl⟩ rfl rfl (Nat.le_of_ble_eq_true rfl) dX8_pays_18 ?_
      refine go_aload_n (pc := 21) X 0 dX8_pays_21 rfl rfl ?_
      refine go_iload_n (pc := 22) X 1 dX8_pays_22 rfl rfl ?_
      refine go_iload_n (pc := 23) X 2 dX8_pays_23 rfl rfl ?_
      obtain ⟨u9, h10, h⟩ := bind_some h
      refine go_callVi (pc := 24) X 2 [] (ct_X8_paysOf h10) sh8 rfl gg_X8_165 hd_X8_paysOf ⟨Nat.le_of_ble_eq_true rfl, Nat.le_of_ble_eq_true rfl⟩ rfl rfl (Nat.le_of_ble_eq_true rfl) dX8_pays_24 ?_
      exact go_iret (pc := 27) X h dX8_pays_27
    · rw [if_pos c6] at h
      refine go_iconst (pc := 15) X dX8_pays_15 ?_
      exact go_iret (pc := 16) X h dX8_pays_16
set_option maxRecDepth 100000 in
set_option maxHeartbeats 4000000 in
theorem ct_X8_gain {l : Launch} {D : va_G} {cI cB : ClassId} {Z : (Nat → Nat) × (Nat → Nat)} {ad : Nat → Nat} {S : Mem} {a1 : Int} {a2 : Int} {r : Int} {S' : Mem} (h : f_X8_gain S a1 a2 = some (r, S')) : Ctr l D cI cB Z ad shsM yX8_gain cX8_gain 3 (some .int) 7 156 [.ref (ad 0), .int (i32 a1), .int (i32 a2)] S (some (.int (i32 r))) S' := by
  refine ctr_of (by decide +kernel) (Nat.le_of_ble_eq_true rfl) rfl ?_
  intro p e s m args below meth c A X
  unfold f_X8_gain at h
  refine go_aload_n (pc := 0) X 0 dX8_gain_0 rfl rfl ?_
  refine go_iload_n (pc := 1) X 1 dX8_gain_1 rfl rfl ?_
  obtain ⟨r1, h2, h⟩ := bind_some h
  refine go_callVi (pc := 2) X 1 [] (ct_X8_isBidder h2) sh8 rfl gg_X8_90 hd_X8_isBidder ⟨Nat.le_of_ble_eq_true rfl, Nat.le_of_ble_eq_true rfl⟩ rfl rfl (Nat.le_of_ble_eq_true rfl) dX8_gain_2 ?_
  refine go_if_eq (pc := 5) X 15 dX8_gain_5 rfl (fun c3 => ?_) (fun c3 => ?_)
  · rw [if_pos c3] at h
    refine go_ldc (pc := 15) X (-100000) cn_X8_180 rfl dX8_gain_15 ?_
    exact go_iret (pc := 17) X h dX8_gain_17
  · rw [if_neg c3] at h
    refine go_iload_n (pc := 8) X 2 dX8_gain_8 rfl rfl ?_
    obtain ⟨r4, h5, h⟩ := bind_some h
    refine go_callSi (pc := 9) X 1 [] (ct_X8_isKind h5) gg_X8_168 hd_X8_isKind ⟨Nat.le_of_ble_eq_true rfl, Nat.le_of_ble_eq_true rfl⟩ rfl rfl (Nat.le_of_ble_eq_true rfl) dX8_gain_9 ?_
    refine go_if_ne (pc := 12) X 18 dX8_gain_12 rfl (fun c6 => ?_) (fun c6 => ?_)
    · rw [if_neg c6] at h
      refine go_aload_n (pc := 18) X 0 dX8_gain_18 rfl rfl ?_
      obtain ⟨S7, h8, h⟩ := bind_some h
      refine go_callVv (pc := 19) X 0 [] (ct_X8_runs h8) sh8 rfl gg_X8_171 hd_X8_runs ⟨Nat.le_of_ble_eq_true rfl, Nat.le_of_ble_eq_true rfl⟩ rfl rfl (Nat.le_of_ble_eq_true rfl) dX8_gain_19 ?_
      refine go_aload_n (pc := 22) X 0 dX8_gain_22 rfl rfl ?_
      refine go_iload_n (pc := 23) X 1 dX8_gain_23 rfl rfl ?_
      refine go_iload_n (pc := 24) X 2 dX8_gain_24 rfl rfl ?_
      obtain ⟨u9, h10, h⟩ := bind_some h
      refine go_callVi (pc := 25) X 2 [] (ct_X8_gainOf h10) sh8 rfl gg_X8_181 hd_X8_gainOf ⟨Nat.le_of_ble_eq_true rfl, Nat.le_of_ble_eq_true rfl⟩ rfl rfl (Nat.le_of_ble_eq_true rfl) dX8_gain_25 ?_
      exact go_iret (pc := 28) X h dX8_gain_28
    · rw [if_pos c6] at h
      refine go_ldc (pc := 15) X (-100000) cn_X8_180 rfl dX8_gain_15 ?_
      exact go_iret (pc := 17) X h dX8_gain_17
set_option maxRecDepth 100000 in
set_option maxHeartbeats 4000000 in
theorem ct_X8_at {l : Launch} {D : va_G} {cI cB : ClassId} {Z : (Nat → Nat) × (Nat → Nat)} {ad : Nat → Nat} {S : Mem} {a1 : Int} {a2 : Int} {a3 : Int} {r : Int} {S' : Mem} (h : f_X8_at S a1 a2 a3 = some (r, S')) : Ctr l D cI cB Z ad shsM yX8_at cX8_at 6 (some .int) 7 156 [.ref (ad 0), .int (i32 a1), .int (i32 a2), .int (i32 a3)] S (some (.int (i32 r))) S' := by
  refine ctr_of (by decide +kernel) (Nat.le_of_ble_eq_true rfl) rfl ?_
  intro p e s m args below meth c A X
  unfold f_X8_at at h
  refine go_aload_n (pc := 0) X 0 dX8_at_0 rfl rfl ?_
  refine go_iload_n (pc := 1) X 1 dX8_at_1 rfl rfl ?_
  obtain ⟨r1, h2, h⟩ := bind_some h
  refine go_callVi (pc := 2) X 1 [] (ct_X8_isBidder h2) sh8 rfl gg_X8_90 hd_X8_isBidder ⟨Nat.le_of_ble_eq_true rfl, Nat.le_of_ble_eq_true rfl⟩ rfl rfl (Nat.le_of_ble_eq_true rfl) dX8_at_2 ?_
  refine go_if_eq (pc := 5) X 24 dX8_at_5 rfl (fun c3 => ?_) (fun c3 => ?_)
  · rw [if_pos c3] at h
    refine go_iconst (pc := 24) X dX8_at_24 ?_
    exact go_iret (pc := 25) X h dX8_at_25
  · rw [if_neg c3] at h
    refine go_iload_n (pc := 8) X 2 dX8_at_8 rfl rfl ?_
    obtain ⟨r4, h5, h⟩ := bind_some h
    refine go_callSi (pc := 9) X 1 [] (ct_X8_isPrice h5) gg_X8_98 hd_X8_isPrice ⟨Nat.le_of_ble_eq_true rfl, Nat.le_of_ble_eq_true rfl⟩ rfl rfl (Nat.le_of_ble_eq_true rfl) dX8_at_9 ?_
    refine go_if_eq (pc := 12) X 24 dX8_at_12 rfl (fun c6 => ?_) (fun c6 => ?_)
    · rw [if_pos c6] at h
      refine go_iconst (pc := 24) X dX8_at_24 ?_
      exact go_iret (pc := 25) X h dX8_at_25
    · rw [if_neg c6] at h
      refine go_iload_n (pc := 15) X 3 dX8_at_15 rfl rfl ?_
      refine go_iconst (pc := 16) X dX8_at_16 ?_
      refine go_iconst (pc := 17) X dX8_at_17 ?_
      obtain ⟨r7, h8, h⟩ := bind_some h
      refine go_callSi (pc := 18) X 3 [] (ct_X8_in h8) gg_X8_65 hd_X8_in ⟨Nat.le_of_ble_eq_true rfl, Nat.le_of_ble_eq_true rfl⟩ rfl rfl (Nat.le_of_ble_eq_true rfl) dX8_at_18 ?_
      refine go_if_ne (pc := 21) X 26 dX8_at_21 rfl (fun c9 => ?_) (fun c9 => ?_)
      · rw [if_neg c9] at h
        refine go_iload_n (pc := 26) X 3 dX8_at_26 rfl rfl ?_
        refine go_if_ne (pc := 27) X 37 dX8_at_27 rfl (fun c10 => ?_) (fun c10 => ?_)
        · rw [if_neg c10] at h
          refine go_iload_n (pc := 37) X 3 dX8_at_37 rfl rfl ?_
          refine go_iconst (pc := 38) X dX8_at_38 ?_
          refine go_icmp_ne (pc := 39) X 51 dX8_at_39 rfl (fun c11 => ?_) (fun c11 => ?_)
          · rw [if_neg c11] at h
            refine go_iload_n (pc := 51) X 3 dX8_at_51 rfl rfl ?_
            refine go_iconst (pc := 52) X dX8_at_52 ?_
            refine go_icmp_ne (pc := 53) X 63 dX8_at_53 rfl (fun c12 => ?_) (fun c12 => ?_)
            · rw [if_neg c12] at h
              refine go_aload_n (pc := 63) X 0 dX8_at_63 rfl rfl ?_
              obtain ⟨S13, h14, h⟩ := bind_some h
              refine go_callVv (pc := 64) X 0 [] (ct_X8_runs h14) sh8 rfl gg_X8_171 hd_X8_runs ⟨Nat.le_of_ble_eq_true rfl, Nat.le_of_ble_eq_true rfl⟩ rfl rfl (Nat.le_of_ble_eq_true rfl) dX8_at_64 ?_
              refine go_iconst (pc := 67) X dX8_at_67 ?_
              refine go_istore (pc := 68) X [1, 2, 3, 4, 0] (Ls' := [(0, .ref (ad 0)), (1, .int (i32 a1)), (2, .int (i32 a2)), (3, .int (i32 a3)), (4, .int (i32 0))]) dX8_at_68 (by decide) rfl ?_
              refine go_iconst (pc := 70) X dX8_at_70 ?_
              refine go_istore (pc := 71) X [1, 2, 3, 4, 5, 0] (Ls' := [(0, .ref (ad 0)), (1, .int (i32 a1)), (2, .int (i32 a2)), (3, .int (i32 a3)), (4, .int (i32 0)), (5, .int (i32 0))]) dX8_at_71 (by decide) rfl ?_
              obtain ⟨r22, h23, h⟩ := bind_some h
              have H24 : ∀ (n : Nat) (t25 : Int × Int) (z26 : Int), lp (f_X8_at_l73 S13 a1 a2) n t25 = some z26 → Go p l e { frames := 7, cells := 0, slots := 0, locals := 156 } s m args below meth c 6 D cI cB ad shsM A (MQ below (cQ D cI cB ad shsM (some (.int (i32 r))) S' A) args s 0 0 A) 109 [(4, .int (i32 z26))] [] S13 → Go p l e { frames := 7, cells := 0, slots := 0, locals := 156 } s m args below meth c 6 D cI cB ad shsM A (MQ below (cQ D cI cB ad shsM (some (.int (i32 r))) S' A) args s 0 0 A) 73 [(0, .ref (ad 0)), (1, .int (i32 a1)), (2, .int (i32 a2)), (4, .int (i32 t25.1)), (5, .int (i32 t25.2))] [] S13 := by
                refine lp_go (fun t25 : Int × Int => Go p l e { frames := 7, cells := 0, slots := 0, locals := 156 } s m args below meth c 6 D cI cB ad shsM A (MQ below (cQ D cI cB ad shsM (some (.int (i32 r))) S' A) args s 0 0 A) 73 [(0, .ref (ad 0)), (1, .int (i32 a1)), (2, .int (i32 a2)), (4, .int (i32 t25.1)), (5, .int (i32 t25.2))] [] S13) (fun z26 : Int => Go p l e { frames := 7, cells := 0, slots := 0, locals := 156 } s m args below meth c 6 D cI cB ad shsM A (MQ below (cQ D cI cB ad shsM (some (.int (i32 r))) S' A) args s 0 0 A) 109 [(4, .int (i32 z26))] [] S13) ?_
                intro t25 x27 h hx28
                unfold f_X8_at_l73 at h
                refine go_iload (pc := 73) X 4 dX8_at_73 rfl ?_
                refine go_aload_n (pc := 75) X 0 dX8_at_75 rfl rfl ?_
                refine go_getr (pc := 76) X (fk := 7) sh8 rfl inT_X8 (by decide) fL_X8_29 rfl dX8_at_76 ?_
                refine go_iload_n (pc := 79) X 1 dX8_at_79 rfl rfl ?_
                obtain ⟨g30, h⟩ := gd_some h
                refine go_iald (pc := 80) X shM6 (Nat.le_of_ble_eq_true rfl) rfl g30 dX8_at_80 ?_
                refine go_icmp_ge (pc := 81) X 109 dX8_at_81 rfl (fun c31 => ?_) (fun c31 => ?_)
                · rw [if_neg c31] at h
                  refine go_pick [3] (Ls' := [(4, .int (i32 t25.1))]) rfl ?_
                  exact lp_back h hx28
                · rw [if_pos c31] at h
                  refine go_aload_n (pc := 84) X 0 dX8_at_84 rfl rfl ?_
                  refine go_getr (pc := 85) X (fk := 8) sh8 rfl inT_X8 (by decide) fL_X8_32 rfl dX8_at_85 ?_
                  refine go_bipush (pc := 88) X dX8_at_88 (by decide) (by decide) ?_
                  refine go_iload_n (pc := 90) X 1 dX8_at_90 rfl rfl ?_
                  refine go_imul (pc := 91) X dX8_at_91 ?_
                  refine go_iload (pc := 92) X 4 dX8_at_92 rfl ?_
                  refine go_iadd (pc := 94) X dX8_at_94 ?_
                  obtain ⟨g32, h⟩ := gd_some h
                  refine go_iald (pc := 95) X shM7 (Nat.le_of_ble_eq_true rfl) rfl g32 dX8_at_95 ?_
                  refine go_iload_n (pc := 96) X 2 dX8_at_96 rfl rfl ?_
                  obtain ⟨j33, h34, h⟩ := bind_some h
                  have k35 : Go p l e { frames := 7, cells := 0, slots := 0, locals := 156 } s m args below meth c 6 D cI cB ad shsM A (MQ below (cQ D cI cB ad shsM (some (.int (i32 r))) S' A) args s 0 0 A) 103 [(0, .ref (ad 0)), (1, .int (i32 a1)), (2, .int (i32 a2)), (4, .int (i32 j33)), (5, .int (i32 t25.2))] [] S13 := by
                    refine go_iinc (pc := 103) X [1, 2, 3, 4, 0] 4 (Ls' := [(0, .ref (ad 0)), (1, .int (i32 a1)), (2, .int (i32 a2)), (4, .int (i32 j33)), (5, .int (i32 (t25.2 + 1)))]) dX8_at_103 rfl (by decide) rfl ?_
                    refine go_goto (pc := 106) X 73 dX8_at_106 rfl ?_
                    exact lp_back h hx28
                  refine go_icmp_gt (pc := 97) X 103 dX8_at_97 rfl (fun c36 => ?_) (fun c36 => ?_)
                  · rw [if_pos c36] at h34
                    cases h34
                    exact k35
                  · rw [if_neg c36] at h34
                    refine go_iinc (pc := 100) X [1, 2, 3, 0, 4] 3 (Ls' := [(0, .ref (ad 0)), (1, .int (i32 a1)), (2, .int (i32 a2)), (4, .int (i32 (t25.1 + 1))), (5, .int (i32 t25.2))]) dX8_at_100 rfl (by decide) rfl ?_
                    cases h34
                    exact k35
              refine go_pick [0, 1, 2, 4, 5] (Ls' := [(0, .ref (ad 0)), (1, .int (i32 a1)), (2, .int (i32 a2)), (4, .int (i32 0)), (5, .int (i32 0))]) rfl ?_
              refine H24 FU (0, 0) r22 h23 ?_
              refine go_iload (pc := 109) X 0 dX8_at_109 rfl ?_
              exact go_iret (pc := 111) X h dX8_at_111
            · rw [if_pos c12] at h
              refine go_aload_n (pc := 56) X 0 dX8_at_56 rfl rfl ?_
              refine go_iload_n (pc := 57) X 1 dX8_at_57 rfl rfl ?_
              refine go_iload_n (pc := 58) X 2 dX8_at_58 rfl rfl ?_
              obtain ⟨r37, h38, h⟩ := bind_some h
              refine go_callVi (pc := 59) X 2 [] (ct_X8_freeOf h38) sh8 rfl gg_X8_138 hd_X8_freeOf ⟨Nat.le_of_ble_eq_true rfl, Nat.le_of_ble_eq_true rfl⟩ rfl rfl (Nat.le_of_ble_eq_true rfl) dX8_at_59 ?_
              exact go_iret (pc := 62) X h dX8_at_62
          · rw [if_pos c11] at h
            refine go_aload_n (pc := 42) X 0 dX8_at_42 rfl rfl ?_
            refine go_iload_n (pc := 43) X 1 dX8_at_43 rfl rfl ?_
            refine go_iload_n (pc := 44) X 2 dX8_at_44 rfl rfl ?_
            refine go_iconst (pc := 45) X dX8_at_45 ?_
            refine go_isub (pc := 46) X dX8_at_46 ?_
            obtain ⟨r39, h40, h⟩ := bind_some h
            refine go_callVi (pc := 47) X 2 [] (ct_X8_aboveOf h40) sh8 rfl gg_X8_129 hd_X8_aboveOf ⟨Nat.le_of_ble_eq_true rfl, Nat.le_of_ble_eq_true rfl⟩ rfl rfl (Nat.le_of_ble_eq_true rfl) dX8_at_47 ?_
            exact go_iret (pc := 50) X h dX8_at_50
        · rw [if_pos c10] at h
          refine go_aload_n (pc := 30) X 0 dX8_at_30 rfl rfl ?_
          refine go_iload_n (pc := 31) X 1 dX8_at_31 rfl rfl ?_
          refine go_iload_n (pc := 32) X 2 dX8_at_32 rfl rfl ?_
          obtain ⟨r41, h42, h⟩ := bind_some h
          refine go_callVi (pc := 33) X 2 [] (ct_X8_aboveOf h42) sh8 rfl gg_X8_129 hd_X8_aboveOf ⟨Nat.le_of_ble_eq_true rfl, Nat.le_of_ble_eq_true rfl⟩ rfl rfl (Nat.le_of_ble_eq_true rfl) dX8_at_33 ?_
          exact go_iret (pc := 36) X h dX8_at_36
      · rw [if_pos c9] at h
        refine go_iconst (pc := 24) X dX8_at_24 ?_
        exact go_iret (pc := 25) X h dX8_at_25
set_option maxRecDepth 100000 in
set_option maxHeartbeats 4000000 in
theorem ct_X8_clinchedPrices {l : Launch} {D : va_G} {cI cB : ClassId} {Z : (Nat → Nat) × (Nat → Nat)} {ad : Nat → Nat} {S : Mem} {r : Int} (h : f_X8_clinchedPrices S = some r) : Ctr l D cI cB Z ad shsM yX8_clinchedPrices cX8_clinchedPrices 6 (some .int) 1 20 [.ref (ad 0)] S (some (.int (i32 r))) S := by
  refine ctr_of (by decide +kernel) (Nat.le_of_ble_eq_true rfl) rfl ?_
  intro p e s m args below meth c A X
  unfold f_X8_clinchedPrices at h
  refine go_iconst (pc := 0) X dX8_clinchedPrices_0 ?_
  refine go_istore_n (pc := 1) X [1, 0] (Ls' := [(0, .ref (ad 0)), (1, .int (i32 0))]) dX8_clinchedPrices_1 rfl (by decide) rfl ?_
  refine go_iconst (pc := 2) X dX8_clinchedPrices_2 ?_
  refine go_istore_n (pc := 3) X [1, 2, 0] (Ls' := [(0, .ref (ad 0)), (1, .int (i32 0)), (2, .int (i32 0))]) dX8_clinchedPrices_3 rfl (by decide) rfl ?_
  obtain ⟨r60, h61, h⟩ := bind_some h
  have H62 : ∀ (n : Nat) (t63 : Int × Int) (z64 : Int), lp (f_X8_clinchedPrices_l4 S) n t63 = some z64 → Go p l e { frames := 1, cells := 0, slots := 0, locals := 20 } s m args below meth c 6 D cI cB ad shsM A (MQ below (cQ D cI cB ad shsM (some (.int (i32 r))) S A) args s 0 0 A) 93 [(1, .int (i32 z64))] [] S → Go p l e { frames := 1, cells := 0, slots := 0, locals := 20 } s m args below meth c 6 D cI cB ad shsM A (MQ below (cQ D cI cB ad shsM (some (.int (i32 r))) S A) args s 0 0 A) 4 [(0, .ref (ad 0)), (1, .int (i32 t63.1)), (2, .int (i32 t63.2))] [] S := by
    refine lp_go (fun t63 : Int × Int => Go p l e { frames := 1, cells := 0, slots := 0, locals := 20 } s m args below meth c 6 D cI cB ad shsM A (MQ below (cQ D cI cB ad shsM (some (.int (i32 r))) S A) args s 0 0 A) 4 [(0, .ref (ad 0)), (1, .int (i32 t63.1)), (2, .int (i32 t63.2))] [] S) (fun z64 : Int => Go p l e { frames := 1, cells := 0, slots := 0, locals := 20 } s m args below meth c 6 D cI cB ad shsM A (MQ below (cQ D cI cB ad shsM (some (.int (i32 r))) S A) args s 0 0 A) 93 [(1, .int (i32 z64))] [] S) ?_
    intro t63 x65 h hx66
    unfold f_X8_clinchedPrices_l4 at h
    refine go_iload_n (pc := 4) X 2 dX8_clinchedPrices_4 rfl rfl ?_
    refine go_aload_n (pc := 5) X 0 dX8_clinchedPrices_5 rfl rfl ?_
    refine go_get (pc := 6) X (fk := 12) (fi := 12) rfl sh8 rfl inT_X8 (by decide) fL_X8_144 rfl dX8_clinchedPrices_6 ?_
    refine go_icmp_gt (pc := 9) X 93 dX8_clinchedPrices_9 rfl (fun c68 => ?_) (fun c68 => ?_)
    · rw [if_pos c68] at h
      refine go_pick [1] (Ls' := [(1, .int (i32 t63.1))]) rfl ?_
      exact lp_back h hx66
    · rw [if_neg c68] at h
      refine go_iconst (pc := 12) X dX8_clinchedPrices_12 ?_
      refine go_istore_n (pc := 13) X [1, 2, 3, 0] (Ls' := [(0, .ref (ad 0)), (1, .int (i32 t63.1)), (2, .int (i32 t63.2)), (3, .int (i32 0))]) dX8_clinchedPrices_13 rfl (by decide) rfl ?_
      refine go_iconst (pc := 14) X dX8_clinchedPrices_14 ?_
      refine go_istore (pc := 15) X [1, 2, 3, 4, 0] (Ls' := [(0, .ref (ad 0)), (1, .int (i32 t63.1)), (2, .int (i32 t63.2)), (3, .int (i32 0)), (4, .int (i32 0))]) dX8_clinchedPrices_15 (by decide) rfl ?_
      obtain ⟨r69, h70, h⟩ := bind_some h
      have H71 : ∀ (n : Nat) (t72 : Int × Int) (z73 : Int), lp (f_X8_clinchedPrices_l17 S t63.1 t63.2) n t72 = some z73 → Go p l e { frames := 1, cells := 0, slots := 0, locals := 20 } s m args below meth c 6 D cI cB ad shsM A (MQ below (cQ D cI cB ad shsM (some (.int (i32 r))) S A) args s 0 0 A) 80 [(0, .ref (ad 0)), (1, .int (i32 t63.1)), (2, .int (i32 t63.2)), (3, .int (i32 z73))] [] S → Go p l e { frames := 1, cells := 0, slots := 0, locals := 20 } s m args below meth c 6 D cI cB ad shsM A (MQ below (cQ D cI cB ad shsM (some (.int (i32 r))) S A) args s 0 0 A) 17 [(0, .ref (ad 0)), (1, .int (i32 t63.1)), (2, .int (i32 t63.2)), (3, .int (i32 t72.1)), (4, .int (i32 t72.2))] [] S := by
        refine lp_go (fun t72 : Int × Int => Go p l e { frames := 1, cells := 0, slots := 0, locals := 20 } s m args below meth c 6 D cI cB ad shsM A (MQ below (cQ D cI cB ad shsM (some (.int (i32 r))) S A) args s 0 0 A) 17 [(0, .ref (ad 0)), (1, .int (i32 t63.1)), (2, .int (i32 t63.2)), (3, .int (i32 t72.1)), (4, .int (i32 t72.2))] [] S) (fun z73 : Int => Go p l e { frames := 1, cells := 0, slots := 0, locals := 20 } s m args below meth c 6 D cI cB ad shsM A (MQ below (cQ D cI cB ad shsM (some (.int (i32 r))) S A) args s 0 0 A) 80 [(0, .ref (ad 0)), (1, .int (i32 t63.1)), (2, .int (i32 t63.2)), (3, .int (i32 z73))] [] S) ?_
        intro t72 x74 h hx75
        unfold f_X8_clinchedPrices_l17 at h
        refine go_iload (pc := 17) X 4 dX8_clinchedPrices_17 rfl ?_
        refine go_aload_n (pc := 19) X 0 dX8_clinchedPrices_19 rfl rfl ?_
        obtain ⟨r77, h78, h⟩ := bind_some h
        refine go_callVi (pc := 20) X 0 [.int (i32 t72.2)] (ct_X8_many h78) sh8 rfl gg_X8_61 hd_X8_many ⟨Nat.le_of_ble_eq_true rfl, Nat.le_of_ble_eq_true rfl⟩ rfl rfl (Nat.le_of_ble_eq_true rfl) dX8_clinchedPrices_20 ?_
        refine go_icmp_ge (pc := 23) X 80 dX8_clinchedPrices_23 rfl (fun c79 => ?_) (fun c79 => ?_)
        · rw [if_neg c79] at h
          refine go_pick [0, 1, 2, 3] (Ls' := [(0, .ref (ad 0)), (1, .int (i32 t63.1)), (2, .int (i32 t63.2)), (3, .int (i32 t72.1))]) rfl ?_
          exact lp_back h hx75
        · rw [if_pos c79] at h
          refine go_iconst (pc := 26) X dX8_clinchedPrices_26 ?_
          refine go_istore (pc := 27) X [1, 2, 3, 4, 5, 0] (Ls' := [(0, .ref (ad 0)), (1, .int (i32 t63.1)), (2, .int (i32 t63.2)), (3, .int (i32 t72.1)), (4, .int (i32 t72.2)), (5, .int (i32 0))]) dX8_clinchedPrices_27 (by decide) rfl ?_
          obtain ⟨r80, h81, h⟩ := bind_some h
          have H82 : ∀ (n : Nat) (t83 : Int × Int) (z84 : Int), lp (f_X8_clinchedPrices_l29 S t63.1 t63.2 t72.2) n t83 = some z84 → Go p l e { frames := 1, cells := 0, slots := 0, locals := 20 } s m args below meth c 6 D cI cB ad shsM A (MQ below (cQ D cI cB ad shsM (some (.int (i32 r))) S A) args s 0 0 A) 74 [(0, .ref (ad 0)), (1, .int (i32 t63.1)), (2, .int (i32 t63.2)), (3, .int (i32 z84)), (4, .int (i32 t72.2))] [] S → Go p l e { frames := 1, cells := 0, slots := 0, locals := 20 } s m args below meth c 6 D cI cB ad shsM A (MQ below (cQ D cI cB ad shsM (some (.int (i32 r))) S A) args s 0 0 A) 29 [(0, .ref (ad 0)), (1, .int (i32 t63.1)), (2, .int (i32 t63.2)), (3, .int (i32 t83.1)), (4, .int (i32 t72.2)), (5, .int (i32 t83.2))] [] S := by
            refine lp_go (fun t83 : Int × Int => Go p l e { frames := 1, cells := 0, slots := 0, locals := 20 } s m args below meth c 6 D cI cB ad shsM A (MQ below (cQ D cI cB ad shsM (some (.int (i32 r))) S A) args s 0 0 A) 29 [(0, .ref (ad 0)), (1, .int (i32 t63.1)), (2, .int (i32 t63.2)), (3, .int (i32 t83.1)), (4, .int (i32 t72.2)), (5, .int (i32 t83.2))] [] S) (fun z84 : Int => Go p l e { frames := 1, cells := 0, slots := 0, locals := 20 } s m args below meth c 6 D cI cB ad shsM A (MQ below (cQ D cI cB ad shsM (some (.int (i32 r))) S A) args s 0 0 A) 74 [(0, .ref (ad 0)), (1, .int (i32 t63.1)), (2, .int (i32 t63.2)), (3, .int (i32 z84)), (4, .int (i32 t72.2))] [] S) ?_
            intro t83 x85 h hx86
            unfold f_X8_clinchedPrices_l29 at h
            refine go_iload (pc := 29) X 5 dX8_clinchedPrices_29 rfl ?_
            refine go_aload_n (pc := 31) X 0 dX8_clinchedPrices_31 rfl rfl ?_
            refine go_getr (pc := 32) X (fk := 7) sh8 rfl inT_X8 (by decide) fL_X8_29 rfl dX8_clinchedPrices_32 ?_
            refine go_iload (pc := 35) X 4 dX8_clinchedPrices_35 rfl ?_
            obtain ⟨g88, h⟩ := gd_some h
            refine go_iald (pc := 37) X shM6 (Nat.le_of_ble_eq_true rfl) rfl g88 dX8_clinchedPrices_37 ?_
            refine go_icmp_ge (pc := 38) X 74 dX8_clinchedPrices_38 rfl (fun c89 => ?_) (fun c89 => ?_)
            · rw [if_neg c89] at h
              refine go_pick [0, 1, 2, 3, 4] (Ls' := [(0, .ref (ad 0)), (1, .int (i32 t63.1)), (2, .int (i32 t63.2)), (3, .int (i32 t83.1)), (4, .int (i32 t72.2))]) rfl ?_
              exact lp_back h hx86
            · rw [if_pos c89] at h
              refine go_iload_n (pc := 41) X 3 dX8_clinchedPrices_41 rfl rfl ?_
              obtain ⟨j90, h91, h⟩ := bind_some h
              have k92 : Go p l e { frames := 1, cells := 0, slots := 0, locals := 20 } s m args below meth c 6 D cI cB ad shsM A (MQ below (cQ D cI cB ad shsM (some (.int (i32 r))) S A) args s 0 0 A) 67 [(0, .ref (ad 0)), (1, .int (i32 t63.1)), (2, .int (i32 t63.2)), (4, .int (i32 t72.2)), (5, .int (i32 t83.2))] [.int (i32 j90)] S := by
                refine go_istore_n (pc := 67) X [1, 2, 3, 0, 4, 5] (Ls' := [(0, .ref (ad 0)), (1, .int (i32 t63.1)), (2, .int (i32 t63.2)), (3, .int (i32 j90)), (4, .int (i32 t72.2)), (5, .int (i32 t83.2))]) dX8_clinchedPrices_67 rfl (by decide) rfl ?_
                refine go_iinc (pc := 68) X [1, 2, 3, 4, 5, 0] 5 (Ls' := [(0, .ref (ad 0)), (1, .int (i32 t63.1)), (2, .int (i32 t63.2)), (3, .int (i32 j90)), (4, .int (i32 t72.2)), (5, .int (i32 (t83.2 + 1)))]) dX8_clinchedPrices_68 rfl (by decide) rfl ?_
                refine go_goto (pc := 71) X 29 dX8_clinchedPrices_71 rfl ?_
                exact lp_back h hx86
              refine go_if_ne (pc := 42) X 62 dX8_clinchedPrices_42 rfl (fun c93 => ?_) (fun c93 => ?_)
              · rw [if_neg c93] at h91
                refine go_iconst (pc := 62) X dX8_clinchedPrices_62 ?_
                refine go_goto (pc := 63) X 67 dX8_clinchedPrices_63 rfl ?_
                cases h91
                refine go_pick [0, 1, 2, 4, 5] (Ls' := [(0, .ref (ad 0)), (1, .int (i32 t63.1)), (2, .int (i32 t63.2)), (4, .int (i32 t72.2)), (5, .int (i32 t83.2))]) rfl ?_
                exact k92
              · rw [if_pos c93] at h91
                refine go_aload_n (pc := 45) X 0 dX8_clinchedPrices_45 rfl rfl ?_
                refine go_getr (pc := 46) X (fk := 8) sh8 rfl inT_X8 (by decide) fL_X8_32 rfl dX8_clinchedPrices_46 ?_
                refine go_bipush (pc := 49) X dX8_clinchedPrices_49 (by decide) (by decide) ?_
                refine go_iload (pc := 51) X 4 dX8_clinchedPrices_51 rfl ?_
                refine go_imul (pc := 53) X dX8_clinchedPrices_53 ?_
                refine go_iload (pc := 54) X 5 dX8_clinchedPrices_54 rfl ?_
                refine go_iadd (pc := 56) X dX8_clinchedPrices_56 ?_
                obtain ⟨g94, h91⟩ := gd_some h91
                refine go_iald (pc := 57) X shM7 (Nat.le_of_ble_eq_true rfl) rfl g94 dX8_clinchedPrices_57 ?_
                refine go_iload_n (pc := 58) X 2 dX8_clinchedPrices_58 rfl rfl ?_
                refine go_icmp_ne (pc := 59) X 66 dX8_clinchedPrices_59 rfl (fun c95 => ?_) (fun c95 => ?_)
                · rw [if_neg c95] at h91
                  refine go_iconst (pc := 66) X dX8_clinchedPrices_66 ?_
                  cases h91
                  refine go_pick [0, 1, 2, 4, 5] (Ls' := [(0, .ref (ad 0)), (1, .int (i32 t63.1)), (2, .int (i32 t63.2)), (4, .int (i32 t72.2)), (5, .int (i32 t83.2))]) rfl ?_
                  exact k92
                · rw [if_pos c95] at h91
                  refine go_iconst (pc := 62) X dX8_clinchedPrices_62 ?_
                  refine go_goto (pc := 63) X 67 dX8_clinchedPrices_63 rfl ?_
                  cases h91
                  refine go_pick [0, 1, 2, 4, 5] (Ls' := [(0, .ref (ad 0)), (1, .int (i32 t63.1)), (2, .int (i32 t63.2)), (4, .int (i32 t72.2)), (5, .int (i32 t83.2))]) rfl ?_
                  exact k92
          refine H82 FU (t72.1, 0) r80 h81 ?_
          refine go_iinc (pc := 74) X [1, 2, 3, 4, 0] 4 (Ls' := [(0, .ref (ad 0)), (1, .int (i32 t63.1)), (2, .int (i32 t63.2)), (3, .int (i32 r80)), (4, .int (i32 (t72.2 + 1)))]) dX8_clinchedPrices_74 rfl (by decide) rfl ?_
          refine go_goto (pc := 77) X 17 dX8_clinchedPrices_77 rfl ?_
          exact lp_back h hx75
      refine H71 FU (0, 0) r69 h70 ?_
      refine go_iload_n (pc := 80) X 3 dX8_clinchedPrices_80 rfl rfl ?_
      obtain ⟨j96, h97, h⟩ := bind_some h
      have k98 : Go p l e { frames := 1, cells := 0, slots := 0, locals := 20 } s m args below meth c 6 D cI cB ad shsM A (MQ below (cQ D cI cB ad shsM (some (.int (i32 r))) S A) args s 0 0 A) 87 [(0, .ref (ad 0)), (1, .int (i32 j96)), (2, .int (i32 t63.2))] [] S := by
        refine go_iinc (pc := 87) X [1, 2, 0] 2 (Ls' := [(0, .ref (ad 0)), (1, .int (i32 j96)), (2, .int (i32 (t63.2 + 1)))]) dX8_clinchedPrices_87 rfl (by decide) rfl ?_
        refine go_goto (pc := 90) X 4 dX8_clinchedPrices_90 rfl ?_
        exact lp_back h hx66
      refine go_if_eq (pc := 81) X 87 dX8_clinchedPrices_81 rfl (fun c99 => ?_) (fun c99 => ?_)
      · rw [if_pos c99] at h97
        cases h97
        refine go_pick [0, 1, 2] (Ls' := [(0, .ref (ad 0)), (1, .int (i32 t63.1)), (2, .int (i32 t63.2))]) rfl ?_
        exact k98
      · rw [if_neg c99] at h97
        refine go_iinc (pc := 84) X [1, 0, 2, 3] 1 (Ls' := [(0, .ref (ad 0)), (1, .int (i32 (t63.1 + 1))), (2, .int (i32 t63.2)), (3, .int (i32 r69))]) dX8_clinchedPrices_84 rfl (by decide) rfl ?_
        cases h97
        refine go_pick [0, 1, 2] (Ls' := [(0, .ref (ad 0)), (1, .int (i32 (t63.1 + 1))), (2, .int (i32 t63.2))]) rfl ?_
        exact k98
  refine H62 FU (0, 0) r60 h61 ?_
  refine go_iload_n (pc := 93) X 0 dX8_clinchedPrices_93 rfl rfl ?_
  exact go_iretP (pc := 94) X h dX8_clinchedPrices_94
set_option maxRecDepth 100000 in
set_option maxHeartbeats 4000000 in
theorem ct_X8_isResult {l : Launch} {D : va_G} {cI cB : ClassId} {Z : (Nat → Nat) × (Nat → Nat)} {ad : Nat → Nat} {S : Mem} {a0 : Int} {r : Int} (h : f_X8_isResult S a0 = some r) : Ctr l D cI cB Z ad shsM yX8_isResult cX8_isResult 1 (some .boolean) 1 22 [.int (i32 a0)] S (some (.int (i32 r))) S := by
  refine ctr_of (by decide +kernel) (Nat.le_of_ble_eq_true rfl) rfl ?_
  intro p e s m args below meth c A X
  unfold f_X8_isResult at h
  refine go_iload_n (pc := 0) X 0 dX8_isResult_0 rfl rfl ?_
  refine go_iconst (pc := 1) X dX8_isResult_1 ?_
  refine go_bipush (pc := 2) X dX8_isResult_2 (by decide) (by decide) ?_
  obtain ⟨r1, h2, h⟩ := bind_some h
  refine go_callSi (pc := 4) X 3 [] (ct_X8_in h2) gg_X8_65 hd_X8_in ⟨Nat.le_of_ble_eq_true rfl, Nat.le_of_ble_eq_true rfl⟩ rfl rfl (Nat.le_of_ble_eq_true rfl) dX8_isResult_4 ?_
  obtain ⟨g3, h⟩ := gd_some h
  exact go_zretP (pc := 7) X g3 h dX8_isResult_7
set_option maxRecDepth 100000 in
set_option maxHeartbeats 4000000 in
theorem ct_X8_told {l : Launch} {D : va_G} {cI cB : ClassId} {Z : (Nat → Nat) × (Nat → Nat)} {ad : Nat → Nat} {S : Mem} {a1 : Int} {r : Int} {S' : Mem} (h : f_X8_told S a1 = some (r, S')) : Ctr l D cI cB Z ad shsM yX8_told cX8_told 5 (some .int) 7 156 [.ref (ad 0), .int (i32 a1)] S (some (.int (i32 r))) S' := by
  refine ctr_of (by decide +kernel) (Nat.le_of_ble_eq_true rfl) rfl ?_
  intro p e s m args below meth c A X
  unfold f_X8_told at h
  refine go_aload_n (pc := 0) X 0 dX8_told_0 rfl rfl ?_
  obtain ⟨S1, h2, h⟩ := bind_some h
  refine go_callVv (pc := 1) X 0 [] (ct_X8_runs h2) sh8 rfl gg_X8_171 hd_X8_runs ⟨Nat.le_of_ble_eq_true rfl, Nat.le_of_ble_eq_true rfl⟩ rfl rfl (Nat.le_of_ble_eq_true rfl) dX8_told_1 ?_
  refine go_iconst (pc := 4) X dX8_told_4 ?_
  refine go_istore_n (pc := 5) X [1, 2, 0] (Ls' := [(0, .ref (ad 0)), (1, .int (i32 a1)), (2, .int (i32 0))]) dX8_told_5 rfl (by decide) rfl ?_
  refine go_iconst (pc := 6) X dX8_told_6 ?_
  refine go_istore_n (pc := 7) X [1, 2, 3, 0] (Ls' := [(0, .ref (ad 0)), (1, .int (i32 a1)), (2, .int (i32 0)), (3, .int (i32 0))]) dX8_told_7 rfl (by decide) rfl ?_
  refine go_iconst (pc := 8) X dX8_told_8 ?_
  refine go_istore (pc := 9) X [1, 2, 3, 4, 0] (Ls' := [(0, .ref (ad 0)), (1, .int (i32 a1)), (2, .int (i32 0)), (3, .int (i32 0)), (4, .int (i32 0))]) dX8_told_9 (by decide) rfl ?_
  obtain ⟨r11, h12, h⟩ := bind_some h
  have H13 : ∀ (n : Nat) (t14 : Int × Int × Int) (z15 : Int × Int), lp (f_X8_told_l11 S1 a1) n t14 = some z15 → Go p l e { frames := 7, cells := 0, slots := 0, locals := 156 } s m args below meth c 5 D cI cB ad shsM A (MQ below (cQ D cI cB ad shsM (some (.int (i32 r))) S' A) args s 0 0 A) 49 [(0, .ref (ad 0)), (1, .int (i32 a1)), (2, .int (i32 z15.1)), (3, .int (i32 z15.2))] [] S1 → Go p l e { frames := 7, cells := 0, slots := 0, locals := 156 } s m args below meth c 5 D cI cB ad shsM A (MQ below (cQ D cI cB ad shsM (some (.int (i32 r))) S' A) args s 0 0 A) 11 [(0, .ref (ad 0)), (1, .int (i32 a1)), (2, .int (i32 t14.1)), (3, .int (i32 t14.2.1)), (4, .int (i32 t14.2.2))] [] S1 := by
    refine lp_go (fun t14 : Int × Int × Int => Go p l e { frames := 7, cells := 0, slots := 0, locals := 156 } s m args below meth c 5 D cI cB ad shsM A (MQ below (cQ D cI cB ad shsM (some (.int (i32 r))) S' A) args s 0 0 A) 11 [(0, .ref (ad 0)), (1, .int (i32 a1)), (2, .int (i32 t14.1)), (3, .int (i32 t14.2.1)), (4, .int (i32 t14.2.2))] [] S1) (fun z15 : Int × Int => Go p l e { frames := 7, cells := 0, slots := 0, locals := 156 } s m args below meth c 5 D cI cB ad shsM A (MQ below (cQ D cI cB ad shsM (some (.int (i32 r))) S' A) args s 0 0 A) 49 [(0, .ref (ad 0)), (1, .int (i32 a1)), (2, .int (i32 z15.1)), (3, .int (i32 z15.2))] [] S1) ?_
    intro t14 x16 h hx17
    unfold f_X8_told_l11 at h
    refine go_iload (pc := 11) X 4 dX8_told_11 rfl ?_
    refine go_aload_n (pc := 13) X 0 dX8_told_13 rfl rfl ?_
    obtain ⟨r19, h20, h⟩ := bind_some h
    refine go_callVi (pc := 14) X 0 [.int (i32 t14.2.2)] (ct_X8_many h20) sh8 rfl gg_X8_61 hd_X8_many ⟨Nat.le_of_ble_eq_true rfl, Nat.le_of_ble_eq_true rfl⟩ rfl rfl (Nat.le_of_ble_eq_true rfl) dX8_told_14 ?_
    refine go_icmp_ge (pc := 17) X 49 dX8_told_17 rfl (fun c21 => ?_) (fun c21 => ?_)
    · rw [if_neg c21] at h
      refine go_pick [0, 1, 2, 3] (Ls' := [(0, .ref (ad 0)), (1, .int (i32 a1)), (2, .int (i32 t14.1)), (3, .int (i32 t14.2.1))]) rfl ?_
      exact lp_back h hx17
    · rw [if_pos c21] at h
      refine go_iload_n (pc := 20) X 2 dX8_told_20 rfl rfl ?_
      refine go_aload_n (pc := 21) X 0 dX8_told_21 rfl rfl ?_
      refine go_getr (pc := 22) X (fk := 7) sh8 rfl inT_X8 (by decide) fL_X8_29 rfl dX8_told_22 ?_
      refine go_iload (pc := 25) X 4 dX8_told_25 rfl ?_
      obtain ⟨g22, h⟩ := gd_some h
      refine go_iald (pc := 27) X shM6 (Nat.le_of_ble_eq_true rfl) rfl g22 dX8_told_27 ?_
      refine go_iadd (pc := 28) X dX8_told_28 ?_
      refine go_istore_n (pc := 29) X [1, 2, 0, 3, 4] (Ls' := [(0, .ref (ad 0)), (1, .int (i32 a1)), (2, .int (i32 (t14.1 + (S1 6 t14.2.2)))), (3, .int (i32 t14.2.1)), (4, .int (i32 t14.2.2))]) dX8_told_29 rfl (by decide) rfl ?_
      refine go_aload_n (pc := 30) X 0 dX8_told_30 rfl rfl ?_
      refine go_getr (pc := 31) X (fk := 6) sh8 rfl inT_X8 (by decide) fL_X8_26 rfl dX8_told_31 ?_
      refine go_iload (pc := 34) X 4 dX8_told_34 rfl ?_
      refine go_iald (pc := 36) X shM5 (Nat.le_of_ble_eq_true rfl) rfl g22 dX8_told_36 ?_
      obtain ⟨j23, h24, h⟩ := bind_some h
      have k25 : Go p l e { frames := 7, cells := 0, slots := 0, locals := 156 } s m args below meth c 5 D cI cB ad shsM A (MQ below (cQ D cI cB ad shsM (some (.int (i32 r))) S' A) args s 0 0 A) 43 [(0, .ref (ad 0)), (1, .int (i32 a1)), (2, .int (i32 (t14.1 + (S1 6 t14.2.2)))), (3, .int (i32 j23)), (4, .int (i32 t14.2.2))] [] S1 := by
        refine go_iinc (pc := 43) X [1, 2, 3, 4, 0] 4 (Ls' := [(0, .ref (ad 0)), (1, .int (i32 a1)), (2, .int (i32 (t14.1 + (S1 6 t14.2.2)))), (3, .int (i32 j23)), (4, .int (i32 (t14.2.2 + 1)))]) dX8_told_43 rfl (by decide) rfl ?_
        refine go_goto (pc := 46) X 11 dX8_told_46 rfl ?_
        exact lp_back h hx17
      refine go_if_le (pc := 37) X 43 dX8_told_37 rfl (fun c26 => ?_) (fun c26 => ?_)
      · rw [if_neg c26] at h24
        cases h24
        exact k25
      · rw [if_pos c26] at h24
        refine go_iinc (pc := 40) X [1, 2, 3, 0, 4] 3 (Ls' := [(0, .ref (ad 0)), (1, .int (i32 a1)), (2, .int (i32 (t14.1 + (S1 6 t14.2.2)))), (3, .int (i32 (t14.2.1 + 1))), (4, .int (i32 t14.2.2))]) dX8_told_40 rfl (by decide) rfl ?_
        cases h24
        exact k25
  refine H13 FU (0, 0, 0) r11 h12 ?_
  refine go_iload_n (pc := 49) X 1 dX8_told_49 rfl rfl ?_
  by_cases c27 : eqb a1 0 = true
  · rw [if_pos c27] at h
    refine go_tab (pc := 50) X 100 dX8_told_50 c27 ⟨by decide, by decide⟩ ⟨by decide, by decide⟩ rfl rfl ?_
    refine go_aload_n (pc := 100) X 0 dX8_told_100 rfl rfl ?_
    refine go_get (pc := 101) X (fk := 12) (fi := 12) rfl sh8 rfl inT_X8 (by decide) fL_X8_144 rfl dX8_told_101 ?_
    exact go_iret (pc := 104) X h dX8_told_104
  · rw [if_neg c27] at h
    by_cases c28 : eqb a1 1 = true
    · rw [if_pos c28] at h
      refine go_tab (pc := 50) X 105 dX8_told_50 c28 ⟨by decide, by decide⟩ ⟨by decide, by decide⟩ rfl rfl ?_
      refine go_aload_n (pc := 105) X 0 dX8_told_105 rfl rfl ?_
      refine go_get (pc := 106) X (fk := 11) (fi := 11) rfl sh8 rfl inT_X8 (by decide) fL_X8_135 rfl dX8_told_106 ?_
      exact go_iret (pc := 109) X h dX8_told_109
    · rw [if_neg c28] at h
      by_cases c29 : eqb a1 2 = true
      · rw [if_pos c29] at h
        refine go_tab (pc := 50) X 110 dX8_told_50 c29 ⟨by decide, by decide⟩ ⟨by decide, by decide⟩ rfl rfl ?_
        refine go_aload_n (pc := 110) X 0 dX8_told_110 rfl rfl ?_
        obtain ⟨r30, h31, h⟩ := bind_some h
        refine go_callVi (pc := 111) X 0 [] (ct_X8_unsold h31) sh8 rfl gg_X8_162 hd_X8_unsold ⟨Nat.le_of_ble_eq_true rfl, Nat.le_of_ble_eq_true rfl⟩ rfl rfl (Nat.le_of_ble_eq_true rfl) dX8_told_111 ?_
        exact go_iret (pc := 114) X h dX8_told_114
      · rw [if_neg c29] at h
        by_cases c32 : eqb a1 3 = true
        · rw [if_pos c32] at h
          refine go_tab (pc := 50) X 115 dX8_told_50 c32 ⟨by decide, by decide⟩ ⟨by decide, by decide⟩ rfl rfl ?_
          refine go_iload_n (pc := 115) X 2 dX8_told_115 rfl rfl ?_
          exact go_iret (pc := 116) X h dX8_told_116
        · rw [if_neg c32] at h
          by_cases c33 : eqb a1 4 = true
          · rw [if_pos c33] at h
            refine go_tab (pc := 50) X 117 dX8_told_50 c33 ⟨by decide, by decide⟩ ⟨by decide, by decide⟩ rfl rfl ?_
            refine go_iload_n (pc := 117) X 3 dX8_told_117 rfl rfl ?_
            exact go_iret (pc := 118) X h dX8_told_118
          · rw [if_neg c33] at h
            by_cases c34 : eqb a1 5 = true
            · rw [if_pos c34] at h
              refine go_tab (pc := 50) X 119 dX8_told_50 c34 ⟨by decide, by decide⟩ ⟨by decide, by decide⟩ rfl rfl ?_
              refine go_aload_n (pc := 119) X 0 dX8_told_119 rfl rfl ?_
              refine go_iconst (pc := 120) X dX8_told_120 ?_
              obtain ⟨r35, h36, h⟩ := bind_some h
              refine go_callVi (pc := 121) X 1 [] (ct_X8_hadBut h36) sh8 rfl gg_X8_159 hd_X8_hadBut ⟨Nat.le_of_ble_eq_true rfl, Nat.le_of_ble_eq_true rfl⟩ rfl rfl (Nat.le_of_ble_eq_true rfl) dX8_told_121 ?_
              exact go_iret (pc := 124) X h dX8_told_124
            · rw [if_neg c34] at h
              by_cases c37 : eqb a1 6 = true
              · rw [if_pos c37] at h
                refine go_tab (pc := 50) X 125 dX8_told_50 c37 ⟨by decide, by decide⟩ ⟨by decide, by decide⟩ rfl rfl ?_
                refine go_aload_n (pc := 125) X 0 dX8_told_125 rfl rfl ?_
                refine go_aload_n (pc := 126) X 0 dX8_told_126 rfl rfl ?_
                obtain ⟨r38, h39, h⟩ := bind_some h
                refine go_callVi (pc := 127) X 0 [.ref (ad 0)] (ct_X8_everybody h39) sh8 rfl gg_X8_153 hd_X8_everybody ⟨Nat.le_of_ble_eq_true rfl, Nat.le_of_ble_eq_true rfl⟩ rfl rfl (Nat.le_of_ble_eq_true rfl) dX8_told_127 ?_
                refine go_aload_n (pc := 130) X 0 dX8_told_130 rfl rfl ?_
                refine go_getr (pc := 131) X (fk := 1) sh8 rfl inT_X8 (by decide) fL_X8_13 rfl dX8_told_131 ?_
                refine go_iconst (pc := 134) X dX8_told_134 ?_
                obtain ⟨g40, h⟩ := gd_some h
                refine go_iald (pc := 135) X shM1 (Nat.le_of_ble_eq_true rfl) rfl g40 dX8_told_135 ?_
                obtain ⟨u41, h42, h⟩ := bind_some h
                refine go_callVi (pc := 136) X 2 [] (ct_X8_worthTo h42) sh8 rfl gg_X8_156 hd_X8_worthTo ⟨Nat.le_of_ble_eq_true rfl, Nat.le_of_ble_eq_true rfl⟩ rfl rfl (Nat.le_of_ble_eq_true rfl) dX8_told_136 ?_
                exact go_iret (pc := 139) X h dX8_told_139
              · rw [if_neg c37] at h
                by_cases c43 : eqb a1 7 = true
                · rw [if_pos c43] at h
                  refine go_tab (pc := 50) X 140 dX8_told_50 c43 ⟨by decide, by decide⟩ ⟨by decide, by decide⟩ rfl rfl ?_
                  refine go_aload_n (pc := 140) X 0 dX8_told_140 rfl rfl ?_
                  obtain ⟨r44, h45, h⟩ := bind_some h
                  refine go_callVi (pc := 141) X 0 [] (ct_X8_clinchedPrices h45) sh8 rfl gg_X8_184 hd_X8_clinchedPrices ⟨Nat.le_of_ble_eq_true rfl, Nat.le_of_ble_eq_true rfl⟩ rfl rfl (Nat.le_of_ble_eq_true rfl) dX8_told_141 ?_
                  exact go_iret (pc := 144) X h dX8_told_144
                · rw [if_neg c43] at h
                  by_cases c46 : eqb a1 8 = true
                  · rw [if_pos c46] at h
                    refine go_tab (pc := 50) X 145 dX8_told_50 c46 ⟨by decide, by decide⟩ ⟨by decide, by decide⟩ rfl rfl ?_
                    refine go_aload_n (pc := 145) X 0 dX8_told_145 rfl rfl ?_
                    refine go_get (pc := 146) X (fk := 11) (fi := 11) rfl sh8 rfl inT_X8 (by decide) fL_X8_135 rfl dX8_told_146 ?_
                    refine go_if_ne (pc := 149) X 157 dX8_told_149 rfl (fun c47 => ?_) (fun c47 => ?_)
                    · rw [if_neg c47] at h
                      refine go_aload_n (pc := 157) X 0 dX8_told_157 rfl rfl ?_
                      refine go_getr (pc := 158) X (fk := 10) sh8 rfl inT_X8 (by decide) fL_X8_38 rfl dX8_told_158 ?_
                      refine go_aload_n (pc := 161) X 0 dX8_told_161 rfl rfl ?_
                      refine go_get (pc := 162) X (fk := 11) (fi := 11) rfl sh8 rfl inT_X8 (by decide) fL_X8_135 rfl dX8_told_162 ?_
                      refine go_iconst (pc := 165) X dX8_told_165 ?_
                      refine go_isub (pc := 166) X dX8_told_166 ?_
                      obtain ⟨g48, h⟩ := gd_some h
                      refine go_iald (pc := 167) X shM9 (Nat.le_of_ble_eq_true rfl) rfl g48 dX8_told_167 ?_
                      exact go_iret (pc := 168) X h dX8_told_168
                    · rw [if_pos c47] at h
                      refine go_bipush (pc := 152) X dX8_told_152 (by decide) (by decide) ?_
                      refine go_goto (pc := 154) X 168 dX8_told_154 rfl ?_
                      exact go_iret (pc := 168) X h dX8_told_168
                  · rw [if_neg c46] at h
                    have nc27 : ¬ (0 : Int) = (i32 a1).toInt := fun z => c27 ((eqb_toInt (by decide) (by decide)).mpr z.symm)
                    have nc28 : ¬ (1 : Int) = (i32 a1).toInt := fun z => c28 ((eqb_toInt (by decide) (by decide)).mpr z.symm)
                    have nc29 : ¬ (2 : Int) = (i32 a1).toInt := fun z => c29 ((eqb_toInt (by decide) (by decide)).mpr z.symm)
                    have nc32 : ¬ (3 : Int) = (i32 a1).toInt := fun z => c32 ((eqb_toInt (by decide) (by decide)).mpr z.symm)
                    have nc33 : ¬ (4 : Int) = (i32 a1).toInt := fun z => c33 ((eqb_toInt (by decide) (by decide)).mpr z.symm)
                    have nc34 : ¬ (5 : Int) = (i32 a1).toInt := fun z => c34 ((eqb_toInt (by decide) (by decide)).mpr z.symm)
                    have nc37 : ¬ (6 : Int) = (i32 a1).toInt := fun z => c37 ((eqb_toInt (by decide) (by decide)).mpr z.symm)
                    have nc43 : ¬ (7 : Int) = (i32 a1).toInt := fun z => c43 ((eqb_toInt (by decide) (by decide)).mpr z.symm)
                    have nc46 : ¬ (8 : Int) = (i32 a1).toInt := fun z => c46 ((eqb_toInt (by decide) (by decide)).mpr z.symm)
                    refine go_tabx (pc := 50) X 169 dX8_told_50 (by omega) rfl ?_
                    refine go_aload_n (pc := 169) X 0 dX8_told_169 rfl rfl ?_
                    refine go_get (pc := 170) X (fk := 11) (fi := 11) rfl sh8 rfl inT_X8 (by decide) fL_X8_135 rfl dX8_told_170 ?_
                    refine go_if_ne (pc := 173) X 181 dX8_told_173 rfl (fun c49 => ?_) (fun c49 => ?_)
                    · rw [if_neg c49] at h
                      refine go_aload_n (pc := 181) X 0 dX8_told_181 rfl rfl ?_
                      refine go_getr (pc := 182) X (fk := 10) sh8 rfl inT_X8 (by decide) fL_X8_38 rfl dX8_told_182 ?_
                      refine go_iconst (pc := 185) X dX8_told_185 ?_
                      obtain ⟨g50, h⟩ := gd_some h
                      refine go_iald (pc := 186) X shM9 (Nat.le_of_ble_eq_true rfl) rfl g50 dX8_told_186 ?_
                      exact go_iret (pc := 187) X h dX8_told_187
                    · rw [if_pos c49] at h
                      refine go_bipush (pc := 176) X dX8_told_176 (by decide) (by decide) ?_
                      refine go_goto (pc := 178) X 187 dX8_told_178 rfl ?_
                      exact go_iret (pc := 187) X h dX8_told_187
set_option maxRecDepth 100000 in
set_option maxHeartbeats 4000000 in
theorem ct_X8_result {l : Launch} {D : va_G} {cI cB : ClassId} {Z : (Nat → Nat) × (Nat → Nat)} {ad : Nat → Nat} {S : Mem} {a1 : Int} {r : Int} {S' : Mem} (h : f_X8_result S a1 = some (r, S')) : Ctr l D cI cB Z ad shsM yX8_result cX8_result 2 (some .int) 8 180 [.ref (ad 0), .int (i32 a1)] S (some (.int (i32 r))) S' := by
  refine ctr_of (by decide +kernel) (Nat.le_of_ble_eq_true rfl) rfl ?_
  intro p e s m args below meth c A X
  unfold f_X8_result at h
  refine go_iload_n (pc := 0) X 1 dX8_result_0 rfl rfl ?_
  obtain ⟨r1, h2, h⟩ := bind_some h
  refine go_callSi (pc := 1) X 1 [] (ct_X8_isResult h2) gg_X8_187 hd_X8_isResult ⟨Nat.le_of_ble_eq_true rfl, Nat.le_of_ble_eq_true rfl⟩ rfl rfl (Nat.le_of_ble_eq_true rfl) dX8_result_1 ?_
  refine go_if_eq (pc := 4) X 15 dX8_result_4 rfl (fun c3 => ?_) (fun c3 => ?_)
  · rw [if_pos c3] at h
    refine go_iconst (pc := 15) X dX8_result_15 ?_
    exact go_iret (pc := 16) X h dX8_result_16
  · rw [if_neg c3] at h
    refine go_aload_n (pc := 7) X 0 dX8_result_7 rfl rfl ?_
    refine go_iload_n (pc := 8) X 1 dX8_result_8 rfl rfl ?_
    obtain ⟨u4, h5, h⟩ := bind_some h
    refine go_callVi (pc := 9) X 1 [] (ct_X8_told h5) sh8 rfl gg_X8_190 hd_X8_told ⟨Nat.le_of_ble_eq_true rfl, Nat.le_of_ble_eq_true rfl⟩ rfl rfl (Nat.le_of_ble_eq_true rfl) dX8_result_9 ?_
    refine go_goto (pc := 12) X 16 dX8_result_12 rfl ?_
    exact go_iret (pc := 16) X h dX8_result_16
set_option maxRecDepth 100000 in
set_option maxHeartbeats 4000000 in
theorem ct_X8_paid {l : Launch} {D : va_G} {cI cB : ClassId} {Z : (Nat → Nat) × (Nat → Nat)} {ad : Nat → Nat} {S : Mem} {a1 : Int} {r : Int} {S' : Mem} (h : f_X8_paid S a1 = some (r, S')) : Ctr l D cI cB Z ad shsM yX8_paid cX8_paid 2 (some .int) 7 156 [.ref (ad 0), .int (i32 a1)] S (some (.int (i32 r))) S' := by
  refine ctr_of (by decide +kernel) (Nat.le_of_ble_eq_true rfl) rfl ?_
  intro p e s m args below meth c A X
  unfold f_X8_paid at h
  refine go_iload_n (pc := 0) X 1 dX8_paid_0 rfl rfl ?_
  obtain ⟨r1, h2, h⟩ := bind_some h
  refine go_callSi (pc := 1) X 1 [] (ct_X8_isKind h2) gg_X8_168 hd_X8_isKind ⟨Nat.le_of_ble_eq_true rfl, Nat.le_of_ble_eq_true rfl⟩ rfl rfl (Nat.le_of_ble_eq_true rfl) dX8_paid_1 ?_
  refine go_if_ne (pc := 4) X 9 dX8_paid_4 rfl (fun c3 => ?_) (fun c3 => ?_)
  · rw [if_neg c3] at h
    refine go_aload_n (pc := 9) X 0 dX8_paid_9 rfl rfl ?_
    obtain ⟨S4, h5, h⟩ := bind_some h
    refine go_callVv (pc := 10) X 0 [] (ct_X8_runs h5) sh8 rfl gg_X8_171 hd_X8_runs ⟨Nat.le_of_ble_eq_true rfl, Nat.le_of_ble_eq_true rfl⟩ rfl rfl (Nat.le_of_ble_eq_true rfl) dX8_paid_10 ?_
    refine go_aload_n (pc := 13) X 0 dX8_paid_13 rfl rfl ?_
    refine go_iload_n (pc := 14) X 1 dX8_paid_14 rfl rfl ?_
    obtain ⟨u6, h7, h⟩ := bind_some h
    refine go_callVi (pc := 15) X 1 [] (ct_X8_paidAll h7) sh8 rfl gg_X8_174 hd_X8_paidAll ⟨Nat.le_of_ble_eq_true rfl, Nat.le_of_ble_eq_true rfl⟩ rfl rfl (Nat.le_of_ble_eq_true rfl) dX8_paid_15 ?_
    exact go_iret (pc := 18) X h dX8_paid_18
  · rw [if_pos c3] at h
    refine go_iconst (pc := 7) X dX8_paid_7 ?_
    exact go_iret (pc := 8) X h dX8_paid_8
set_option maxRecDepth 100000 in
set_option maxHeartbeats 4000000 in
theorem ct_X8_wanted {l : Launch} {D : va_G} {cI cB : ClassId} {Z : (Nat → Nat) × (Nat → Nat)} {ad : Nat → Nat} {S : Mem} {a1 : Int} {r : Int} (h : f_X8_wanted S a1 = some r) : Ctr l D cI cB Z ad shsM yX8_wanted cX8_wanted 2 (some .int) 4 88 [.ref (ad 0), .int (i32 a1)] S (some (.int (i32 r))) S := by
  refine ctr_of (by decide +kernel) (Nat.le_of_ble_eq_true rfl) rfl ?_
  intro p e s m args below meth c A X
  unfold f_X8_wanted at h
  refine go_iload_n (pc := 0) X 1 dX8_wanted_0 rfl rfl ?_
  obtain ⟨r1, h2, h⟩ := bind_some h
  refine go_callSi (pc := 1) X 1 [] (ct_X8_isPrice h2) gg_X8_98 hd_X8_isPrice ⟨Nat.le_of_ble_eq_true rfl, Nat.le_of_ble_eq_true rfl⟩ rfl rfl (Nat.le_of_ble_eq_true rfl) dX8_wanted_1 ?_
  refine go_if_eq (pc := 4) X 15 dX8_wanted_4 rfl (fun c3 => ?_) (fun c3 => ?_)
  · rw [if_pos c3] at h
    refine go_iconst (pc := 15) X dX8_wanted_15 ?_
    exact go_iretP (pc := 16) X h dX8_wanted_16
  · rw [if_neg c3] at h
    refine go_aload_n (pc := 7) X 0 dX8_wanted_7 rfl rfl ?_
    refine go_iload_n (pc := 8) X 1 dX8_wanted_8 rfl rfl ?_
    obtain ⟨r4, h5, h⟩ := bind_some h
    refine go_callVi (pc := 9) X 1 [] (ct_X8_wantedAt h5) sh8 rfl gg_X8_132 hd_X8_wantedAt ⟨Nat.le_of_ble_eq_true rfl, Nat.le_of_ble_eq_true rfl⟩ rfl rfl (Nat.le_of_ble_eq_true rfl) dX8_wanted_9 ?_
    refine go_goto (pc := 12) X 16 dX8_wanted_12 rfl ?_
    exact go_iretP (pc := 16) X h dX8_wanted_16
set_option maxRecDepth 100000 in
set_option maxHeartbeats 4000000 in
theorem ct_X8_sold {l : Launch} {D : va_G} {cI cB : ClassId} {Z : (Nat → Nat) × (Nat → Nat)} {ad : Nat → Nat} {S : Mem} {a1 : Int} {a2 : Int} {r : Int} {S' : Mem} (h : f_X8_sold S a1 a2 = some (r, S')) : Ctr l D cI cB Z ad shsM yX8_sold cX8_sold 3 (some .int) 7 156 [.ref (ad 0), .int (i32 a1), .int (i32 a2)] S (some (.int (i32 r))) S' := by
  refine ctr_of (by decide +kernel) (Nat.le_of_ble_eq_true rfl) rfl ?_
  intro p e s m args below meth c A X
  unfold f_X8_sold at h
  refine go_iload_n (pc := 0) X 1 dX8_sold_0 rfl rfl ?_
  refine go_if_lt (pc := 1) X 13 dX8_sold_1 rfl (fun c1 => ?_) (fun c1 => ?_)
  · rw [if_pos c1] at h
    refine go_iconst (pc := 13) X dX8_sold_13 ?_
    exact go_iret (pc := 14) X h dX8_sold_14
  · rw [if_neg c1] at h
    refine go_iload_n (pc := 4) X 2 dX8_sold_4 rfl rfl ?_
    refine go_iconst (pc := 5) X dX8_sold_5 ?_
    refine go_iconst (pc := 6) X dX8_sold_6 ?_
    obtain ⟨r2, h3, h⟩ := bind_some h
    refine go_callSi (pc := 7) X 3 [] (ct_X8_in h3) gg_X8_65 hd_X8_in ⟨Nat.le_of_ble_eq_true rfl, Nat.le_of_ble_eq_true rfl⟩ rfl rfl (Nat.le_of_ble_eq_true rfl) dX8_sold_7 ?_
    refine go_if_ne (pc := 10) X 15 dX8_sold_10 rfl (fun c4 => ?_) (fun c4 => ?_)
    · rw [if_neg c4] at h
      refine go_aload_n (pc := 15) X 0 dX8_sold_15 rfl rfl ?_
      obtain ⟨S5, h6, h⟩ := bind_some h
      refine go_callVv (pc := 16) X 0 [] (ct_X8_runs h6) sh8 rfl gg_X8_171 hd_X8_runs ⟨Nat.le_of_ble_eq_true rfl, Nat.le_of_ble_eq_true rfl⟩ rfl rfl (Nat.le_of_ble_eq_true rfl) dX8_sold_16 ?_
      refine go_iload_n (pc := 19) X 1 dX8_sold_19 rfl rfl ?_
      refine go_aload_n (pc := 20) X 0 dX8_sold_20 rfl rfl ?_
      refine go_get (pc := 21) X (fk := 11) (fi := 11) rfl sh8 rfl inT_X8 (by decide) fL_X8_135 rfl dX8_sold_21 ?_
      refine go_icmp_lt (pc := 24) X 29 dX8_sold_24 rfl (fun c7 => ?_) (fun c7 => ?_)
      · rw [if_pos c7] at h
        refine go_iload_n (pc := 29) X 2 dX8_sold_29 rfl rfl ?_
        refine go_if_ne (pc := 30) X 42 dX8_sold_30 rfl (fun c8 => ?_) (fun c8 => ?_)
        · rw [if_neg c8] at h
          refine go_aload_n (pc := 42) X 0 dX8_sold_42 rfl rfl ?_
          refine go_getr (pc := 43) X (fk := 10) sh8 rfl inT_X8 (by decide) fL_X8_38 rfl dX8_sold_43 ?_
          refine go_iload_n (pc := 46) X 1 dX8_sold_46 rfl rfl ?_
          obtain ⟨g9, h⟩ := gd_some h
          refine go_iald (pc := 47) X shM9 (Nat.le_of_ble_eq_true rfl) rfl g9 dX8_sold_47 ?_
          exact go_iret (pc := 48) X h dX8_sold_48
        · rw [if_pos c8] at h
          refine go_aload_n (pc := 33) X 0 dX8_sold_33 rfl rfl ?_
          refine go_getr (pc := 34) X (fk := 9) sh8 rfl inT_X8 (by decide) fL_X8_35 rfl dX8_sold_34 ?_
          refine go_iload_n (pc := 37) X 1 dX8_sold_37 rfl rfl ?_
          obtain ⟨g10, h⟩ := gd_some h
          refine go_iald (pc := 38) X shM8 (Nat.le_of_ble_eq_true rfl) rfl g10 dX8_sold_38 ?_
          refine go_goto (pc := 39) X 48 dX8_sold_39 rfl ?_
          exact go_iret (pc := 48) X h dX8_sold_48
      · rw [if_neg c7] at h
        refine go_iconst (pc := 27) X dX8_sold_27 ?_
        exact go_iret (pc := 28) X h dX8_sold_28
    · rw [if_pos c4] at h
      refine go_iconst (pc := 13) X dX8_sold_13 ?_
      exact go_iret (pc := 14) X h dX8_sold_14
set_option maxRecDepth 100000 in
set_option maxHeartbeats 4000000 in
theorem ct_X8_worth {l : Launch} {D : va_G} {cI cB : ClassId} {Z : (Nat → Nat) × (Nat → Nat)} {ad : Nat → Nat} {S : Mem} {a1 : Int} {a2 : Int} {r : Int} {S' : Mem} (h : f_X8_worth S a1 a2 = some (r, S')) : Ctr l D cI cB Z ad shsM yX8_worth cX8_worth 3 (some .int) 3 68 [.ref (ad 0), .int (i32 a1), .int (i32 a2)] S (some (.int (i32 r))) S' := by
  refine ctr_of (by decide +kernel) (Nat.le_of_ble_eq_true rfl) rfl ?_
  intro p e s m args below meth c A X
  unfold f_X8_worth at h
  refine go_iload_n (pc := 0) X 1 dX8_worth_0 rfl rfl ?_
  refine go_iconst (pc := 1) X dX8_worth_1 ?_
  refine go_aload_n (pc := 2) X 0 dX8_worth_2 rfl rfl ?_
  obtain ⟨r1, h2, h⟩ := bind_some h
  refine go_callVi (pc := 3) X 0 [.int (i32 0), .int (i32 a1)] (ct_X8_everybody h2) sh8 rfl gg_X8_153 hd_X8_everybody ⟨Nat.le_of_ble_eq_true rfl, Nat.le_of_ble_eq_true rfl⟩ rfl rfl (Nat.le_of_ble_eq_true rfl) dX8_worth_3 ?_
  obtain ⟨r3, h4, h⟩ := bind_some h
  refine go_callSi (pc := 6) X 3 [] (ct_X8_in h4) gg_X8_65 hd_X8_in ⟨Nat.le_of_ble_eq_true rfl, Nat.le_of_ble_eq_true rfl⟩ rfl rfl (Nat.le_of_ble_eq_true rfl) dX8_worth_6 ?_
  refine go_if_eq (pc := 9) X 31 dX8_worth_9 rfl (fun c5 => ?_) (fun c5 => ?_)
  · rw [if_pos c5] at h
    refine go_iconst (pc := 31) X dX8_worth_31 ?_
    exact go_iret (pc := 32) X h dX8_worth_32
  · rw [if_neg c5] at h
    refine go_iload_n (pc := 12) X 2 dX8_worth_12 rfl rfl ?_
    refine go_iconst (pc := 13) X dX8_worth_13 ?_
    refine go_bipush (pc := 14) X dX8_worth_14 (by decide) (by decide) ?_
    obtain ⟨r6, h7, h⟩ := bind_some h
    refine go_callSi (pc := 16) X 3 [] (ct_X8_in h7) gg_X8_65 hd_X8_in ⟨Nat.le_of_ble_eq_true rfl, Nat.le_of_ble_eq_true rfl⟩ rfl rfl (Nat.le_of_ble_eq_true rfl) dX8_worth_16 ?_
    refine go_if_eq (pc := 19) X 31 dX8_worth_19 rfl (fun c8 => ?_) (fun c8 => ?_)
    · rw [if_pos c8] at h
      refine go_iconst (pc := 31) X dX8_worth_31 ?_
      exact go_iret (pc := 32) X h dX8_worth_32
    · rw [if_neg c8] at h
      refine go_aload_n (pc := 22) X 0 dX8_worth_22 rfl rfl ?_
      refine go_iload_n (pc := 23) X 1 dX8_worth_23 rfl rfl ?_
      refine go_iload_n (pc := 24) X 2 dX8_worth_24 rfl rfl ?_
      obtain ⟨u9, h10, h⟩ := bind_some h
      refine go_callVi (pc := 25) X 2 [] (ct_X8_worthTo h10) sh8 rfl gg_X8_156 hd_X8_worthTo ⟨Nat.le_of_ble_eq_true rfl, Nat.le_of_ble_eq_true rfl⟩ rfl rfl (Nat.le_of_ble_eq_true rfl) dX8_worth_25 ?_
      refine go_goto (pc := 28) X 32 dX8_worth_28 rfl ?_
      exact go_iret (pc := 32) X h dX8_worth_32
set_option maxRecDepth 100000 in
set_option maxHeartbeats 4000000 in
theorem ct_X8_clinch {l : Launch} {D : va_G} {cI cB : ClassId} {Z : (Nat → Nat) × (Nat → Nat)} {ad : Nat → Nat} {S : Mem} {a1 : Int} {a2 : Int} {a3 : Int} {r : Int} {S' : Mem} (h : f_X8_clinch S a1 a2 a3 = some (r, S')) : Ctr l D cI cB Z ad shsM yX8_clinch cX8_clinch 8 (some .int) 7 156 [.ref (ad 0), .int (i32 a1), .int (i32 a2), .int (i32 a3)] S (some (.int (i32 r))) S' := by
  refine ctr_of (by decide +kernel) (Nat.le_of_ble_eq_true rfl) rfl ?_
  intro p e s m args below meth c A X
  unfold f_X8_clinch at h
  refine go_aload_n (pc := 0) X 0 dX8_clinch_0 rfl rfl ?_
  refine go_iload_n (pc := 1) X 1 dX8_clinch_1 rfl rfl ?_
  obtain ⟨r1, h2, h⟩ := bind_some h
  refine go_callVi (pc := 2) X 1 [] (ct_X8_isBidder h2) sh8 rfl gg_X8_90 hd_X8_isBidder ⟨Nat.le_of_ble_eq_true rfl, Nat.le_of_ble_eq_true rfl⟩ rfl rfl (Nat.le_of_ble_eq_true rfl) dX8_clinch_2 ?_
  refine go_if_eq (pc := 5) X 21 dX8_clinch_5 rfl (fun c3 => ?_) (fun c3 => ?_)
  · rw [if_pos c3] at h
    refine go_iconst (pc := 21) X dX8_clinch_21 ?_
    exact go_iret (pc := 22) X h dX8_clinch_22
  · rw [if_neg c3] at h
    refine go_iload_n (pc := 8) X 2 dX8_clinch_8 rfl rfl ?_
    refine go_if_lt (pc := 9) X 21 dX8_clinch_9 rfl (fun c4 => ?_) (fun c4 => ?_)
    · rw [if_pos c4] at h
      refine go_iconst (pc := 21) X dX8_clinch_21 ?_
      exact go_iret (pc := 22) X h dX8_clinch_22
    · rw [if_neg c4] at h
      refine go_iload_n (pc := 12) X 3 dX8_clinch_12 rfl rfl ?_
      refine go_iconst (pc := 13) X dX8_clinch_13 ?_
      refine go_iconst (pc := 14) X dX8_clinch_14 ?_
      obtain ⟨r5, h6, h⟩ := bind_some h
      refine go_callSi (pc := 15) X 3 [] (ct_X8_in h6) gg_X8_65 hd_X8_in ⟨Nat.le_of_ble_eq_true rfl, Nat.le_of_ble_eq_true rfl⟩ rfl rfl (Nat.le_of_ble_eq_true rfl) dX8_clinch_15 ?_
      refine go_if_ne (pc := 18) X 23 dX8_clinch_18 rfl (fun c7 => ?_) (fun c7 => ?_)
      · rw [if_neg c7] at h
        refine go_aload_n (pc := 23) X 0 dX8_clinch_23 rfl rfl ?_
        obtain ⟨S8, h9, h⟩ := bind_some h
        refine go_callVv (pc := 24) X 0 [] (ct_X8_runs h9) sh8 rfl gg_X8_171 hd_X8_runs ⟨Nat.le_of_ble_eq_true rfl, Nat.le_of_ble_eq_true rfl⟩ rfl rfl (Nat.le_of_ble_eq_true rfl) dX8_clinch_24 ?_
        refine go_iconst (pc := 27) X dX8_clinch_27 ?_
        refine go_istore (pc := 28) X [1, 2, 3, 4, 0] (Ls' := [(0, .ref (ad 0)), (1, .int (i32 a1)), (2, .int (i32 a2)), (3, .int (i32 a3)), (4, .int (i32 0))]) dX8_clinch_28 (by decide) rfl ?_
        refine go_iload_n (pc := 30) X 2 dX8_clinch_30 rfl rfl ?_
        refine go_istore (pc := 31) X [1, 2, 3, 4, 5, 0] (Ls' := [(0, .ref (ad 0)), (1, .int (i32 a1)), (2, .int (i32 a2)), (3, .int (i32 a3)), (4, .int (i32 0)), (5, .int (i32 a2))]) dX8_clinch_31 (by decide) rfl ?_
        obtain ⟨r31, h32, h⟩ := bind_some h
        have H33 : ∀ (n : Nat) (t34 : Int × Int) (z35 : (Unit) ⊕ (Int × Mem)), lp (f_X8_clinch_l33 S8 a1 a3) n t34 = some z35 → lpG (fun z38 : Unit => Go p l e { frames := 7, cells := 0, slots := 0, locals := 156 } s m args below meth c 8 D cI cB ad shsM A (MQ below (cQ D cI cB ad shsM (some (.int (i32 r))) S' A) args s 0 0 A) 131 [] [] S8) (fun u : Int × Mem => some u = some (r, S')) z35 → Go p l e { frames := 7, cells := 0, slots := 0, locals := 156 } s m args below meth c 8 D cI cB ad shsM A (MQ below (cQ D cI cB ad shsM (some (.int (i32 r))) S' A) args s 0 0 A) 33 [(0, .ref (ad 0)), (1, .int (i32 a1)), (3, .int (i32 a3)), (4, .int (i32 t34.1)), (5, .int (i32 t34.2))] [] S8 := by
          refine lp_go (fun t34 : Int × Int => Go p l e { frames := 7, cells := 0, slots := 0, locals := 156 } s m args below meth c 8 D cI cB ad shsM A (MQ below (cQ D cI cB ad shsM (some (.int (i32 r))) S' A) args s 0 0 A) 33 [(0, .ref (ad 0)), (1, .int (i32 a1)), (3, .int (i32 a3)), (4, .int (i32 t34.1)), (5, .int (i32 t34.2))] [] S8) (fun z35 : (Unit) ⊕ (Int × Mem) => lpG (fun z38 : Unit => Go p l e { frames := 7, cells := 0, slots := 0, locals := 156 } s m args below meth c 8 D cI cB ad shsM A (MQ below (cQ D cI cB ad shsM (some (.int (i32 r))) S' A) args s 0 0 A) 131 [] [] S8) (fun u : Int × Mem => some u = some (r, S')) z35) ?_
          intro t34 x36 h hx37
          unfold f_X8_clinch_l33 at h
          refine go_iload (pc := 33) X 3 dX8_clinch_33 rfl ?_
          refine go_aload_n (pc := 35) X 0 dX8_clinch_35 rfl rfl ?_
          refine go_getr (pc := 36) X (fk := 7) sh8 rfl inT_X8 (by decide) fL_X8_29 rfl dX8_clinch_36 ?_
          refine go_iload_n (pc := 39) X 1 dX8_clinch_39 rfl rfl ?_
          obtain ⟨g39, h⟩ := gd_some h
          refine go_iald (pc := 40) X shM6 (Nat.le_of_ble_eq_true rfl) rfl g39 dX8_clinch_40 ?_
          refine go_icmp_ge (pc := 41) X 131 dX8_clinch_41 rfl (fun c40 => ?_) (fun c40 => ?_)
          · rw [if_neg c40] at h
            refine go_pick [] (Ls' := []) rfl ?_
            exact lp_back h hx37
          · rw [if_pos c40] at h
            refine go_aload_n (pc := 44) X 0 dX8_clinch_44 rfl rfl ?_
            refine go_getr (pc := 45) X (fk := 8) sh8 rfl inT_X8 (by decide) fL_X8_32 rfl dX8_clinch_45 ?_
            refine go_bipush (pc := 48) X dX8_clinch_48 (by decide) (by decide) ?_
            refine go_iload_n (pc := 50) X 1 dX8_clinch_50 rfl rfl ?_
            refine go_imul (pc := 51) X dX8_clinch_51 ?_
            refine go_iload (pc := 52) X 3 dX8_clinch_52 rfl ?_
            refine go_iadd (pc := 54) X dX8_clinch_54 ?_
            obtain ⟨g41, h⟩ := gd_some h
            refine go_iald (pc := 55) X shM7 (Nat.le_of_ble_eq_true rfl) rfl g41 dX8_clinch_55 ?_
            refine go_istore (pc := 56) X [1, 2, 3, 4, 5, 0] (Ls' := [(0, .ref (ad 0)), (1, .int (i32 a1)), (3, .int (i32 a3)), (4, .int (i32 t34.1)), (5, .int (i32 t34.2)), (6, .int (i32 (S8 7 ((8 * a1) + t34.1))))]) dX8_clinch_56 (by decide) rfl ?_
            refine go_iconst (pc := 58) X dX8_clinch_58 ?_
            refine go_istore (pc := 59) X [1, 2, 3, 4, 5, 6, 0] (Ls' := [(0, .ref (ad 0)), (1, .int (i32 a1)), (3, .int (i32 a3)), (4, .int (i32 t34.1)), (5, .int (i32 t34.2)), (6, .int (i32 (S8 7 ((8 * a1) + t34.1)))), (7, .int (i32 0))]) dX8_clinch_59 (by decide) rfl ?_
            obtain ⟨r42, h43, h⟩ := bind_some h
            have H44 : ∀ (n : Nat) (t45 : Int) (z46 : Int), lp (f_X8_clinch_l61 S8 a1 a3 t34.1 t34.2 (S8 7 ((8 * a1) + t34.1))) n t45 = some z46 → Go p l e { frames := 7, cells := 0, slots := 0, locals := 156 } s m args below meth c 8 D cI cB ad shsM A (MQ below (cQ D cI cB ad shsM (some (.int (i32 r))) S' A) args s 0 0 A) 101 [(0, .ref (ad 0)), (1, .int (i32 a1)), (3, .int (i32 a3)), (4, .int (i32 t34.1)), (5, .int (i32 t34.2)), (6, .int (i32 (S8 7 ((8 * a1) + t34.1)))), (7, .int (i32 z46))] [] S8 → Go p l e { frames := 7, cells := 0, slots := 0, locals := 156 } s m args below meth c 8 D cI cB ad shsM A (MQ below (cQ D cI cB ad shsM (some (.int (i32 r))) S' A) args s 0 0 A) 61 [(0, .ref (ad 0)), (1, .int (i32 a1)), (3, .int (i32 a3)), (4, .int (i32 t34.1)), (5, .int (i32 t34.2)), (6, .int (i32 (S8 7 ((8 * a1) + t34.1)))), (7, .int (i32 t45))] [] S8 := by
              refine lp_go (fun t45 : Int => Go p l e { frames := 7, cells := 0, slots := 0, locals := 156 } s m args below meth c 8 D cI cB ad shsM A (MQ below (cQ D cI cB ad shsM (some (.int (i32 r))) S' A) args s 0 0 A) 61 [(0, .ref (ad 0)), (1, .int (i32 a1)), (3, .int (i32 a3)), (4, .int (i32 t34.1)), (5, .int (i32 t34.2)), (6, .int (i32 (S8 7 ((8 * a1) + t34.1)))), (7, .int (i32 t45))] [] S8) (fun z46 : Int => Go p l e { frames := 7, cells := 0, slots := 0, locals := 156 } s m args below meth c 8 D cI cB ad shsM A (MQ below (cQ D cI cB ad shsM (some (.int (i32 r))) S' A) args s 0 0 A) 101 [(0, .ref (ad 0)), (1, .int (i32 a1)), (3, .int (i32 a3)), (4, .int (i32 t34.1)), (5, .int (i32 t34.2)), (6, .int (i32 (S8 7 ((8 * a1) + t34.1)))), (7, .int (i32 z46))] [] S8) ?_
              intro t45 x47 h hx48
              unfold f_X8_clinch_l61 at h
              refine go_iload (pc := 61) X 3 dX8_clinch_61 rfl ?_
              refine go_iload (pc := 63) X 6 dX8_clinch_63 rfl ?_
              refine go_iadd (pc := 65) X dX8_clinch_65 ?_
              refine go_aload_n (pc := 66) X 0 dX8_clinch_66 rfl rfl ?_
              refine go_getr (pc := 67) X (fk := 7) sh8 rfl inT_X8 (by decide) fL_X8_29 rfl dX8_clinch_67 ?_
              refine go_iload_n (pc := 70) X 1 dX8_clinch_70 rfl rfl ?_
              obtain ⟨g50, h⟩ := gd_some h
              refine go_iald (pc := 71) X shM6 (Nat.le_of_ble_eq_true rfl) rfl g50 dX8_clinch_71 ?_
              refine go_icmp_ge (pc := 72) X 101 dX8_clinch_72 rfl (fun c51 => ?_) (fun c51 => ?_)
              · rw [if_neg c51] at h
                exact lp_back h hx48
              · rw [if_pos c51] at h
                refine go_aload_n (pc := 75) X 0 dX8_clinch_75 rfl rfl ?_
                refine go_getr (pc := 76) X (fk := 8) sh8 rfl inT_X8 (by decide) fL_X8_32 rfl dX8_clinch_76 ?_
                refine go_bipush (pc := 79) X dX8_clinch_79 (by decide) (by decide) ?_
                refine go_iload_n (pc := 81) X 1 dX8_clinch_81 rfl rfl ?_
                refine go_imul (pc := 82) X dX8_clinch_82 ?_
                refine go_iload (pc := 83) X 3 dX8_clinch_83 rfl ?_
                refine go_iadd (pc := 85) X dX8_clinch_85 ?_
                refine go_iload (pc := 86) X 6 dX8_clinch_86 rfl ?_
                refine go_iadd (pc := 88) X dX8_clinch_88 ?_
                obtain ⟨g52, h⟩ := gd_some h
                refine go_iald (pc := 89) X shM7 (Nat.le_of_ble_eq_true rfl) rfl g52 dX8_clinch_89 ?_
                refine go_iload (pc := 90) X 5 dX8_clinch_90 rfl ?_
                refine go_icmp_ne (pc := 92) X 101 dX8_clinch_92 rfl (fun c53 => ?_) (fun c53 => ?_)
                · rw [if_neg c53] at h
                  exact lp_back h hx48
                · rw [if_pos c53] at h
                  refine go_iinc (pc := 95) X [1, 2, 3, 4, 5, 6, 0] 6 (Ls' := [(0, .ref (ad 0)), (1, .int (i32 a1)), (3, .int (i32 a3)), (4, .int (i32 t34.1)), (5, .int (i32 t34.2)), (6, .int (i32 (S8 7 ((8 * a1) + t34.1)))), (7, .int (i32 (t45 + 1)))]) dX8_clinch_95 rfl (by decide) rfl ?_
                  refine go_goto (pc := 98) X 61 dX8_clinch_98 rfl ?_
                  exact lp_back h hx48
            refine H44 FU 0 r42 h43 ?_
            refine go_iload (pc := 101) X 4 dX8_clinch_101 rfl ?_
            refine go_if_ne (pc := 103) X 118 dX8_clinch_103 rfl (fun c54 => ?_) (fun c54 => ?_)
            · rw [if_neg c54] at h
              refine go_iinc (pc := 118) X [1, 2, 3, 4, 0, 5, 6] 4 (Ls' := [(0, .ref (ad 0)), (1, .int (i32 a1)), (3, .int (i32 a3)), (4, .int (i32 t34.1)), (5, .int (i32 (t34.2 + (-1)))), (6, .int (i32 (S8 7 ((8 * a1) + t34.1)))), (7, .int (i32 r42))]) dX8_clinch_118 rfl (by decide) rfl ?_
              refine go_iload (pc := 121) X 3 dX8_clinch_121 rfl ?_
              refine go_iload (pc := 123) X 6 dX8_clinch_123 rfl ?_
              refine go_iadd (pc := 125) X dX8_clinch_125 ?_
              refine go_istore (pc := 126) X [1, 2, 3, 0, 4, 5, 6] (Ls' := [(0, .ref (ad 0)), (1, .int (i32 a1)), (3, .int (i32 a3)), (4, .int (i32 (t34.1 + r42))), (5, .int (i32 (t34.2 + (-1)))), (6, .int (i32 (S8 7 ((8 * a1) + t34.1)))), (7, .int (i32 r42))]) dX8_clinch_126 (by decide) rfl ?_
              refine go_goto (pc := 128) X 33 dX8_clinch_128 rfl ?_
              refine go_pick [0, 1, 2, 3, 4] (Ls' := [(0, .ref (ad 0)), (1, .int (i32 a1)), (3, .int (i32 a3)), (4, .int (i32 (t34.1 + r42))), (5, .int (i32 (t34.2 + (-1))))]) rfl ?_
              exact lp_back h hx37
            · rw [if_pos c54] at h
              refine go_iload_n (pc := 106) X 2 dX8_clinch_106 rfl rfl ?_
              refine go_if_ne (pc := 107) X 115 dX8_clinch_107 rfl (fun c55 => ?_) (fun c55 => ?_)
              · rw [if_neg c55] at h
                refine go_iload (pc := 115) X 6 dX8_clinch_115 rfl ?_
                exact go_iret (pc := 117) X (lp_back h hx37) dX8_clinch_117
              · rw [if_pos c55] at h
                refine go_iload (pc := 110) X 5 dX8_clinch_110 rfl ?_
                refine go_goto (pc := 112) X 117 dX8_clinch_112 rfl ?_
                exact go_iret (pc := 117) X (lp_back h hx37) dX8_clinch_117
        refine go_pick [0, 1, 3, 4, 5] (Ls' := [(0, .ref (ad 0)), (1, .int (i32 a1)), (3, .int (i32 a3)), (4, .int (i32 0)), (5, .int (i32 a2))]) rfl ?_
        refine H33 FU (0, a2) r31 h32 ?_
        cases r31 with
        | inl r56 =>
          have h := lct_l h
          refine lpG_l ?_
          refine go_iconst (pc := 131) X dX8_clinch_131 ?_
          exact go_iret (pc := 132) X h dX8_clinch_132
        | inr u57 =>
          have h := lct_r h
          refine lpG_r ?_
          exact h
      · rw [if_pos c7] at h
        refine go_iconst (pc := 21) X dX8_clinch_21 ?_
        exact go_iret (pc := 22) X h dX8_clinch_22
