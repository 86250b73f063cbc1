set_option maxRecDepth 100000 in
set_option maxHeartbeats 4000000 in
theorem ct_X8_dearest {l : Launch} {D : va_G} {cI cB : ClassId} {Z : (Nat → Nat) × (Nat → Nat)} {ad : Nat → Nat} {S : Mem} {a1 : Int} {r : Int} {S' : Mem} (h : f_X8_dearest S a1 = some (r, S')) : Ctr l D cI cB Z ad shsM yX8_dearest cX8_dearest 4 (some .int) 7 156 [.ref (ad 0), .int (i32 a1)] S (some (.int (i32 r))) S' := by
  refine ctr_of (by decide +kernel) (Nat.le_of_ble_eq_true rfl) rfl ?_
  intro p e s m args below meth c A X
  unfold f_X8_dearest at h
  refine go_iload_n (pc := 0) X 1 dX8_dearest_0 rfl rfl ?_
  obtain ⟨r1, h2, h⟩ := bind_some h
  refine go_callSi (pc := 1) X 1 [] (ct_X8_isKind h2) gg_X8_168 hd_X8_isKind ⟨Nat.le_of_ble_eq_true rfl, Nat.le_of_ble_eq_true rfl⟩ rfl rfl (Nat.le_of_ble_eq_true rfl) dX8_dearest_1 ?_
  refine go_if_ne (pc := 4) X 9 dX8_dearest_4 rfl (fun c3 => ?_) (fun c3 => ?_)
  · rw [if_neg c3] at h
    refine go_aload_n (pc := 9) X 0 dX8_dearest_9 rfl rfl ?_
    obtain ⟨S4, h5, h⟩ := bind_some h
    refine go_callVv (pc := 10) X 0 [] (ct_X8_runs h5) sh8 rfl gg_X8_171 hd_X8_runs ⟨Nat.le_of_ble_eq_true rfl, Nat.le_of_ble_eq_true rfl⟩ rfl rfl (Nat.le_of_ble_eq_true rfl) dX8_dearest_10 ?_
    refine go_bipush (pc := 13) X dX8_dearest_13 (by decide) (by decide) ?_
    refine go_istore_n (pc := 15) X [1, 2, 0] (Ls' := [(0, .ref (ad 0)), (1, .int (i32 a1)), (2, .int (i32 (-2)))]) dX8_dearest_15 rfl (by decide) rfl ?_
    refine go_iconst (pc := 16) X dX8_dearest_16 ?_
    refine go_istore_n (pc := 17) X [1, 2, 3, 0] (Ls' := [(0, .ref (ad 0)), (1, .int (i32 a1)), (2, .int (i32 (-2))), (3, .int (i32 0))]) dX8_dearest_17 rfl (by decide) rfl ?_
    obtain ⟨r18, h19, h⟩ := bind_some h
    have H20 : ∀ (n : Nat) (t21 : Int × Int × Mem) (z22 : Int × Mem), lp (f_X8_dearest_l18 a1) n t21 = some z22 → Go p l e { frames := 7, cells := 0, slots := 0, locals := 156 } s m args below meth c 4 D cI cB ad shsM A (MQ below (cQ D cI cB ad shsM (some (.int (i32 r))) S' A) args s 0 0 A) 53 [(2, .int (i32 z22.1))] [] z22.2 → Go p l e { frames := 7, cells := 0, slots := 0, locals := 156 } s m args below meth c 4 D cI cB ad shsM A (MQ below (cQ D cI cB ad shsM (some (.int (i32 r))) S' A) args s 0 0 A) 18 [(0, .ref (ad 0)), (1, .int (i32 a1)), (2, .int (i32 t21.1)), (3, .int (i32 t21.2.1))] [] t21.2.2 := by
      refine lp_go (fun t21 : Int × Int × Mem => Go p l e { frames := 7, cells := 0, slots := 0, locals := 156 } s m args below meth c 4 D cI cB ad shsM A (MQ below (cQ D cI cB ad shsM (some (.int (i32 r))) S' A) args s 0 0 A) 18 [(0, .ref (ad 0)), (1, .int (i32 a1)), (2, .int (i32 t21.1)), (3, .int (i32 t21.2.1))] [] t21.2.2) (fun z22 : Int × Mem => Go p l e { frames := 7, cells := 0, slots := 0, locals := 156 } s m args below meth c 4 D cI cB ad shsM A (MQ below (cQ D cI cB ad shsM (some (.int (i32 r))) S' A) args s 0 0 A) 53 [(2, .int (i32 z22.1))] [] z22.2) ?_
      intro t21 x23 h hx24
      unfold f_X8_dearest_l18 at h
      refine go_iload_n (pc := 18) X 3 dX8_dearest_18 rfl rfl ?_
      refine go_aload_n (pc := 19) X 0 dX8_dearest_19 rfl rfl ?_
      obtain ⟨r26, h27, h⟩ := bind_some h
      refine go_callVi (pc := 20) X 0 [.int (i32 t21.2.1)] (ct_X8_many h27) sh8 rfl gg_X8_61 hd_X8_many ⟨Nat.le_of_ble_eq_true rfl, Nat.le_of_ble_eq_true rfl⟩ rfl rfl (Nat.le_of_ble_eq_true rfl) dX8_dearest_20 ?_
      refine go_icmp_ge (pc := 23) X 53 dX8_dearest_23 rfl (fun c28 => ?_) (fun c28 => ?_)
      · rw [if_neg c28] at h
        refine go_pick [2] (Ls' := [(2, .int (i32 t21.1))]) rfl ?_
        exact lp_back h hx24
      · rw [if_pos c28] at h
        refine go_iload_n (pc := 26) X 2 dX8_dearest_26 rfl rfl ?_
        obtain ⟨j29, h30, h⟩ := bind_some h
        have k31 : Go p l e { frames := 7, cells := 0, slots := 0, locals := 156 } s m args below meth c 4 D cI cB ad shsM A (MQ below (cQ D cI cB ad shsM (some (.int (i32 r))) S' A) args s 0 0 A) 47 [(0, .ref (ad 0)), (1, .int (i32 a1)), (2, .int (i32 j29.1)), (3, .int (i32 t21.2.1))] [] j29.2 := by
          refine go_iinc (pc := 47) X [1, 2, 3, 0] 3 (Ls' := [(0, .ref (ad 0)), (1, .int (i32 a1)), (2, .int (i32 j29.1)), (3, .int (i32 (t21.2.1 + 1)))]) dX8_dearest_47 rfl (by decide) rfl ?_
          refine go_goto (pc := 50) X 18 dX8_dearest_50 rfl ?_
          exact lp_back h hx24
        refine go_if_lt (pc := 27) X 45 dX8_dearest_27 rfl (fun c32 => ?_) (fun c32 => ?_)
        · rw [if_pos c32] at h30
          refine go_iload_n (pc := 45) X 3 dX8_dearest_45 rfl rfl ?_
          refine go_istore_n (pc := 46) X [1, 2, 0, 3] (Ls' := [(0, .ref (ad 0)), (1, .int (i32 a1)), (2, .int (i32 t21.2.1)), (3, .int (i32 t21.2.1))]) dX8_dearest_46 rfl (by decide) rfl ?_
          cases h30
          exact k31
        · rw [if_neg c32] at h30
          refine go_aload_n (pc := 30) X 0 dX8_dearest_30 rfl rfl ?_
          refine go_iload_n (pc := 31) X 3 dX8_dearest_31 rfl rfl ?_
          refine go_iload_n (pc := 32) X 1 dX8_dearest_32 rfl rfl ?_
          obtain ⟨u33, h34, h30⟩ := bind_some h30
          refine go_callVi (pc := 33) X 2 [] (ct_X8_paysOf h34) sh8 rfl gg_X8_165 hd_X8_paysOf ⟨Nat.le_of_ble_eq_true rfl, Nat.le_of_ble_eq_true rfl⟩ rfl rfl (Nat.le_of_ble_eq_true rfl) dX8_dearest_33 ?_
          refine go_aload_n (pc := 36) X 0 dX8_dearest_36 rfl rfl ?_
          refine go_iload_n (pc := 37) X 2 dX8_dearest_37 rfl rfl ?_
          refine go_iload_n (pc := 38) X 1 dX8_dearest_38 rfl rfl ?_
          obtain ⟨u35, h36, h30⟩ := bind_some h30
          refine go_callVi (pc := 39) X 2 [.int (i32 u33.1)] (ct_X8_paysOf h36) sh8 rfl gg_X8_165 hd_X8_paysOf ⟨Nat.le_of_ble_eq_true rfl, Nat.le_of_ble_eq_true rfl⟩ rfl rfl (Nat.le_of_ble_eq_true rfl) dX8_dearest_39 ?_
          refine go_icmp_le (pc := 42) X 47 dX8_dearest_42 rfl (fun c37 => ?_) (fun c37 => ?_)
          · rw [if_neg c37] at h30
            cases h30
            exact k31
          · rw [if_pos c37] at h30
            refine go_iload_n (pc := 45) X 3 dX8_dearest_45 rfl rfl ?_
            refine go_istore_n (pc := 46) X [1, 2, 0, 3] (Ls' := [(0, .ref (ad 0)), (1, .int (i32 a1)), (2, .int (i32 t21.2.1)), (3, .int (i32 t21.2.1))]) dX8_dearest_46 rfl (by decide) rfl ?_
            cases h30
            exact k31
    refine H20 FU ((-2), 0, S4) r18 h19 ?_
    refine go_iload_n (pc := 53) X 0 dX8_dearest_53 rfl rfl ?_
    exact go_iret (pc := 54) X h dX8_dearest_54
  · rw [if_pos c3] at h
    refine go_iconst (pc := 7) X dX8_dearest_7 ?_
    exact go_iret (pc := 8) X h dX8_dearest_8
set_option maxRecDepth 100000 in
set_option maxHeartbeats 4000000 in
theorem ct_X8_perUnit {l : Launch} {D : va_G} {cI cB : ClassId} {Z : (Nat → Nat) × (Nat → Nat)} {ad : Nat → Nat} {S : Mem} {a1 : Int} {a2 : Int} {r : Int} {S' : Mem} (h : f_X8_perUnit S a1 a2 = some (r, S')) : Ctr l D cI cB Z ad shsM yX8_perUnit cX8_perUnit 3 (some .int) 7 156 [.ref (ad 0), .int (i32 a1), .int (i32 a2)] S (some (.int (i32 r))) S' := by
  refine ctr_of (by decide +kernel) (Nat.le_of_ble_eq_true rfl) rfl ?_
  intro p e s m args below meth c A X
  unfold f_X8_perUnit at h
  refine go_aload_n (pc := 0) X 0 dX8_perUnit_0 rfl rfl ?_
  refine go_iload_n (pc := 1) X 1 dX8_perUnit_1 rfl rfl ?_
  obtain ⟨r1, h2, h⟩ := bind_some h
  refine go_callVi (pc := 2) X 1 [] (ct_X8_isBidder h2) sh8 rfl gg_X8_90 hd_X8_isBidder ⟨Nat.le_of_ble_eq_true rfl, Nat.le_of_ble_eq_true rfl⟩ rfl rfl (Nat.le_of_ble_eq_true rfl) dX8_perUnit_2 ?_
  refine go_if_eq (pc := 5) X 15 dX8_perUnit_5 rfl (fun c3 => ?_) (fun c3 => ?_)
  · rw [if_pos c3] at h
    refine go_iconst (pc := 15) X dX8_perUnit_15 ?_
    exact go_iret (pc := 16) X h dX8_perUnit_16
  · rw [if_neg c3] at h
    refine go_iload_n (pc := 8) X 2 dX8_perUnit_8 rfl rfl ?_
    obtain ⟨r4, h5, h⟩ := bind_some h
    refine go_callSi (pc := 9) X 1 [] (ct_X8_isKind h5) gg_X8_168 hd_X8_isKind ⟨Nat.le_of_ble_eq_true rfl, Nat.le_of_ble_eq_true rfl⟩ rfl rfl (Nat.le_of_ble_eq_true rfl) dX8_perUnit_9 ?_
    refine go_if_ne (pc := 12) X 17 dX8_perUnit_12 rfl (fun c6 => ?_) (fun c6 => ?_)
    · rw [if_neg c6] at h
      refine go_aload_n (pc := 17) X 0 dX8_perUnit_17 rfl rfl ?_
      obtain ⟨S7, h8, h⟩ := bind_some h
      refine go_callVv (pc := 18) X 0 [] (ct_X8_runs h8) sh8 rfl gg_X8_171 hd_X8_runs ⟨Nat.le_of_ble_eq_true rfl, Nat.le_of_ble_eq_true rfl⟩ rfl rfl (Nat.le_of_ble_eq_true rfl) dX8_perUnit_18 ?_
      refine go_aload_n (pc := 21) X 0 dX8_perUnit_21 rfl rfl ?_
      refine go_getr (pc := 22) X (fk := 6) sh8 rfl inT_X8 (by decide) fL_X8_26 rfl dX8_perUnit_22 ?_
      refine go_iload_n (pc := 25) X 1 dX8_perUnit_25 rfl rfl ?_
      obtain ⟨g9, h⟩ := gd_some h
      refine go_iald (pc := 26) X shM5 (Nat.le_of_ble_eq_true rfl) rfl g9 dX8_perUnit_26 ?_
      refine go_if_ne (pc := 27) X 35 dX8_perUnit_27 rfl (fun c10 => ?_) (fun c10 => ?_)
      · rw [if_neg c10] at h
        refine go_aload_n (pc := 35) X 0 dX8_perUnit_35 rfl rfl ?_
        refine go_iload_n (pc := 36) X 1 dX8_perUnit_36 rfl rfl ?_
        refine go_iload_n (pc := 37) X 2 dX8_perUnit_37 rfl rfl ?_
        obtain ⟨u11, h12, h⟩ := bind_some h
        refine go_callVi (pc := 38) X 2 [] (ct_X8_paysOf h12) sh8 rfl gg_X8_165 hd_X8_paysOf ⟨Nat.le_of_ble_eq_true rfl, Nat.le_of_ble_eq_true rfl⟩ rfl rfl (Nat.le_of_ble_eq_true rfl) dX8_perUnit_38 ?_
        refine go_aload_n (pc := 41) X 0 dX8_perUnit_41 rfl rfl ?_
        refine go_getr (pc := 42) X (fk := 6) sh8 rfl inT_X8 (by decide) fL_X8_26 rfl dX8_perUnit_42 ?_
        refine go_iload_n (pc := 45) X 1 dX8_perUnit_45 rfl rfl ?_
        refine go_iald (pc := 46) X shM5 (Nat.le_of_ble_eq_true rfl) rfl g9 dX8_perUnit_46 ?_
        obtain ⟨g13, h⟩ := gd_some h
        refine go_idiv (pc := 47) X dX8_perUnit_47 g13 ?_
        exact go_iret (pc := 48) X h dX8_perUnit_48
      · rw [if_pos c10] at h
        refine go_bipush (pc := 30) X dX8_perUnit_30 (by decide) (by decide) ?_
        refine go_goto (pc := 32) X 48 dX8_perUnit_32 rfl ?_
        exact go_iret (pc := 48) X h dX8_perUnit_48
    · rw [if_pos c6] at h
      refine go_iconst (pc := 15) X dX8_perUnit_15 ?_
      exact go_iret (pc := 16) X h dX8_perUnit_16
set_option maxRecDepth 100000 in
set_option maxHeartbeats 4000000 in
theorem ct_X8_alike {l : Launch} {D : va_G} {cI cB : ClassId} {Z : (Nat → Nat) × (Nat → Nat)} {ad : Nat → Nat} {S : Mem} {a1 : Int} {a2 : Int} {r : Int} (h : f_X8_alike S a1 a2 = some r) : Ctr l D cI cB Z ad shsM yX8_alike cX8_alike 4 (some .int) 2 43 [.ref (ad 0), .int (i32 a1), .int (i32 a2)] S (some (.int (i32 r))) S := by
  refine ctr_of (by decide +kernel) (Nat.le_of_ble_eq_true rfl) rfl ?_
  intro p e s m args below meth c A X
  unfold f_X8_alike at h
  refine go_aload_n (pc := 0) X 0 dX8_alike_0 rfl rfl ?_
  refine go_iload_n (pc := 1) X 1 dX8_alike_1 rfl rfl ?_
  obtain ⟨r1, h2, h⟩ := bind_some h
  refine go_callVi (pc := 2) X 1 [] (ct_X8_isBidder h2) sh8 rfl gg_X8_90 hd_X8_isBidder ⟨Nat.le_of_ble_eq_true rfl, Nat.le_of_ble_eq_true rfl⟩ rfl rfl (Nat.le_of_ble_eq_true rfl) dX8_alike_2 ?_
  refine go_if_eq (pc := 5) X 16 dX8_alike_5 rfl (fun c3 => ?_) (fun c3 => ?_)
  · rw [if_pos c3] at h
    refine go_iconst (pc := 16) X dX8_alike_16 ?_
    exact go_iretP (pc := 17) X h dX8_alike_17
  · rw [if_neg c3] at h
    refine go_aload_n (pc := 8) X 0 dX8_alike_8 rfl rfl ?_
    refine go_iload_n (pc := 9) X 2 dX8_alike_9 rfl rfl ?_
    obtain ⟨r4, h5, h⟩ := bind_some h
    refine go_callVi (pc := 10) X 1 [] (ct_X8_isBidder h5) sh8 rfl gg_X8_90 hd_X8_isBidder ⟨Nat.le_of_ble_eq_true rfl, Nat.le_of_ble_eq_true rfl⟩ rfl rfl (Nat.le_of_ble_eq_true rfl) dX8_alike_10 ?_
    refine go_if_ne (pc := 13) X 18 dX8_alike_13 rfl (fun c6 => ?_) (fun c6 => ?_)
    · rw [if_neg c6] at h
      refine go_aload_n (pc := 18) X 0 dX8_alike_18 rfl rfl ?_
      refine go_iload_n (pc := 19) X 1 dX8_alike_19 rfl rfl ?_
      obtain ⟨r7, h8, h⟩ := bind_some h
      refine go_callVi (pc := 20) X 1 [] (ct_X8_capOf h8) sh8 rfl gg_X8_69 hd_X8_capOf ⟨Nat.le_of_ble_eq_true rfl, Nat.le_of_ble_eq_true rfl⟩ rfl rfl (Nat.le_of_ble_eq_true rfl) dX8_alike_20 ?_
      refine go_aload_n (pc := 23) X 0 dX8_alike_23 rfl rfl ?_
      refine go_iload_n (pc := 24) X 2 dX8_alike_24 rfl rfl ?_
      obtain ⟨r9, h10, h⟩ := bind_some h
      refine go_callVi (pc := 25) X 1 [.int (i32 r7)] (ct_X8_capOf h10) sh8 rfl gg_X8_69 hd_X8_capOf ⟨Nat.le_of_ble_eq_true rfl, Nat.le_of_ble_eq_true rfl⟩ rfl rfl (Nat.le_of_ble_eq_true rfl) dX8_alike_25 ?_
      refine go_icmp_ne (pc := 28) X 44 dX8_alike_28 rfl (fun c11 => ?_) (fun c11 => ?_)
      · rw [if_neg c11] at h
        refine go_iconst (pc := 44) X dX8_alike_44 ?_
        exact go_iretP (pc := 45) X h dX8_alike_45
      · rw [if_pos c11] at h
        refine go_aload_n (pc := 31) X 0 dX8_alike_31 rfl rfl ?_
        refine go_iload_n (pc := 32) X 1 dX8_alike_32 rfl rfl ?_
        obtain ⟨r12, h13, h⟩ := bind_some h
        refine go_callVi (pc := 33) X 1 [] (ct_X8_valuesOf h13) sh8 rfl gg_X8_73 hd_X8_valuesOf ⟨Nat.le_of_ble_eq_true rfl, Nat.le_of_ble_eq_true rfl⟩ rfl rfl (Nat.le_of_ble_eq_true rfl) dX8_alike_33 ?_
        refine go_aload_n (pc := 36) X 0 dX8_alike_36 rfl rfl ?_
        refine go_iload_n (pc := 37) X 2 dX8_alike_37 rfl rfl ?_
        obtain ⟨r14, h15, h⟩ := bind_some h
        refine go_callVi (pc := 38) X 1 [.int (i32 r12)] (ct_X8_valuesOf h15) sh8 rfl gg_X8_73 hd_X8_valuesOf ⟨Nat.le_of_ble_eq_true rfl, Nat.le_of_ble_eq_true rfl⟩ rfl rfl (Nat.le_of_ble_eq_true rfl) dX8_alike_38 ?_
        refine go_icmp_eq (pc := 41) X 46 dX8_alike_41 rfl (fun c16 => ?_) (fun c16 => ?_)
        · rw [if_pos c16] at h
          refine go_iconst (pc := 46) X dX8_alike_46 ?_
          refine go_istore_n (pc := 47) X [1, 2, 3, 0] (Ls' := [(0, .ref (ad 0)), (1, .int (i32 a1)), (2, .int (i32 a2)), (3, .int (i32 0))]) dX8_alike_47 rfl (by decide) rfl ?_
          obtain ⟨r25, h26, h⟩ := bind_some h
          have H27 : ∀ (n : Nat) (t28 : Int) (z29 : (Unit) ⊕ (Int)), lp (f_X8_alike_l48 S a1 a2) n t28 = some z29 → lpG (fun z32 : Unit => Go p l e { frames := 2, cells := 0, slots := 0, locals := 43 } s m args below meth c 4 D cI cB ad shsM A (MQ below (cQ D cI cB ad shsM (some (.int (i32 r))) S A) args s 0 0 A) 80 [] [] S) (fun u : Int => some u = some r) z29 → Go p l e { frames := 2, cells := 0, slots := 0, locals := 43 } s m args below meth c 4 D cI cB ad shsM A (MQ below (cQ D cI cB ad shsM (some (.int (i32 r))) S A) args s 0 0 A) 48 [(0, .ref (ad 0)), (1, .int (i32 a1)), (2, .int (i32 a2)), (3, .int (i32 t28))] [] S := by
            refine lp_go (fun t28 : Int => Go p l e { frames := 2, cells := 0, slots := 0, locals := 43 } s m args below meth c 4 D cI cB ad shsM A (MQ below (cQ D cI cB ad shsM (some (.int (i32 r))) S A) args s 0 0 A) 48 [(0, .ref (ad 0)), (1, .int (i32 a1)), (2, .int (i32 a2)), (3, .int (i32 t28))] [] S) (fun z29 : (Unit) ⊕ (Int) => lpG (fun z32 : Unit => Go p l e { frames := 2, cells := 0, slots := 0, locals := 43 } s m args below meth c 4 D cI cB ad shsM A (MQ below (cQ D cI cB ad shsM (some (.int (i32 r))) S A) args s 0 0 A) 80 [] [] S) (fun u : Int => some u = some r) z29) ?_
            intro t28 x30 h hx31
            unfold f_X8_alike_l48 at h
            refine go_iload_n (pc := 48) X 3 dX8_alike_48 rfl rfl ?_
            refine go_aload_n (pc := 49) X 0 dX8_alike_49 rfl rfl ?_
            refine go_iload_n (pc := 50) X 1 dX8_alike_50 rfl rfl ?_
            obtain ⟨r33, h34, h⟩ := bind_some h
            refine go_callVi (pc := 51) X 1 [.int (i32 t28)] (ct_X8_valuesOf h34) sh8 rfl gg_X8_73 hd_X8_valuesOf ⟨Nat.le_of_ble_eq_true rfl, Nat.le_of_ble_eq_true rfl⟩ rfl rfl (Nat.le_of_ble_eq_true rfl) dX8_alike_51 ?_
            refine go_icmp_ge (pc := 54) X 80 dX8_alike_54 rfl (fun c35 => ?_) (fun c35 => ?_)
            · rw [if_neg c35] at h
              refine go_pick [] (Ls' := []) rfl ?_
              exact lp_back h hx31
            · rw [if_pos c35] at h
              refine go_aload_n (pc := 57) X 0 dX8_alike_57 rfl rfl ?_
              refine go_iload_n (pc := 58) X 1 dX8_alike_58 rfl rfl ?_
              refine go_iload_n (pc := 59) X 3 dX8_alike_59 rfl rfl ?_
              obtain ⟨r36, h37, h⟩ := bind_some h
              refine go_callVi (pc := 60) X 2 [] (ct_X8_valueAt h37) sh8 rfl gg_X8_114 hd_X8_valueAt ⟨Nat.le_of_ble_eq_true rfl, Nat.le_of_ble_eq_true rfl⟩ rfl rfl (Nat.le_of_ble_eq_true rfl) dX8_alike_60 ?_
              refine go_aload_n (pc := 63) X 0 dX8_alike_63 rfl rfl ?_
              refine go_iload_n (pc := 64) X 2 dX8_alike_64 rfl rfl ?_
              refine go_iload_n (pc := 65) X 3 dX8_alike_65 rfl rfl ?_
              obtain ⟨r38, h39, h⟩ := bind_some h
              refine go_callVi (pc := 66) X 2 [.int (i32 r36)] (ct_X8_valueAt h39) sh8 rfl gg_X8_114 hd_X8_valueAt ⟨Nat.le_of_ble_eq_true rfl, Nat.le_of_ble_eq_true rfl⟩ rfl rfl (Nat.le_of_ble_eq_true rfl) dX8_alike_66 ?_
              refine go_icmp_eq (pc := 69) X 74 dX8_alike_69 rfl (fun c40 => ?_) (fun c40 => ?_)
              · rw [if_pos c40] at h
                refine go_iinc (pc := 74) X [1, 2, 3, 0] 3 (Ls' := [(0, .ref (ad 0)), (1, .int (i32 a1)), (2, .int (i32 a2)), (3, .int (i32 (t28 + 1)))]) dX8_alike_74 rfl (by decide) rfl ?_
                refine go_goto (pc := 77) X 48 dX8_alike_77 rfl ?_
                exact lp_back h hx31
              · rw [if_neg c40] at h
                refine go_iconst (pc := 72) X dX8_alike_72 ?_
                exact go_iretP (pc := 73) X (lp_back h hx31) dX8_alike_73
          refine H27 FU 0 r25 h26 ?_
          cases r25 with
          | inl r41 =>
            have h := lct_l h
            refine lpG_l ?_
            refine go_iconst (pc := 80) X dX8_alike_80 ?_
            exact go_iretP (pc := 81) X h dX8_alike_81
          | inr u42 =>
            have h := lct_r h
            refine lpG_r ?_
            exact h
        · rw [if_neg c16] at h
          refine go_iconst (pc := 44) X dX8_alike_44 ?_
          exact go_iretP (pc := 45) X h dX8_alike_45
    · rw [if_pos c6] at h
      refine go_iconst (pc := 16) X dX8_alike_16 ?_
      exact go_iretP (pc := 17) X h dX8_alike_17
set_option maxRecDepth 100000 in
set_option maxHeartbeats 4000000 in
theorem ct_X8_ranked {l : Launch} {D : va_G} {cI cB : ClassId} {Z : (Nat → Nat) × (Nat → Nat)} {ad : Nat → Nat} {S : Mem} {a1 : Int} {a2 : Int} {r : Int} (h : f_X8_ranked S a1 a2 = some r) : Ctr l D cI cB Z ad shsM yX8_ranked cX8_ranked 7 (some .int) 1 22 [.ref (ad 0), .int (i32 a1), .int (i32 a2)] S (some (.int (i32 r))) S := by
  refine ctr_of (by decide +kernel) (Nat.le_of_ble_eq_true rfl) rfl ?_
  intro p e s m args below meth c A X
  unfold f_X8_ranked at h
  refine go_iload_n (pc := 0) X 1 dX8_ranked_0 rfl rfl ?_
  refine go_if_lt (pc := 1) X 13 dX8_ranked_1 rfl (fun c1 => ?_) (fun c1 => ?_)
  · rw [if_pos c1] at h
    refine go_iconst (pc := 13) X dX8_ranked_13 ?_
    exact go_iretP (pc := 14) X h dX8_ranked_14
  · rw [if_neg c1] at h
    refine go_iload_n (pc := 4) X 2 dX8_ranked_4 rfl rfl ?_
    refine go_iconst (pc := 5) X dX8_ranked_5 ?_
    refine go_iconst (pc := 6) X dX8_ranked_6 ?_
    obtain ⟨r2, h3, h⟩ := bind_some h
    refine go_callSi (pc := 7) X 3 [] (ct_X8_in h3) gg_X8_65 hd_X8_in ⟨Nat.le_of_ble_eq_true rfl, Nat.le_of_ble_eq_true rfl⟩ rfl rfl (Nat.le_of_ble_eq_true rfl) dX8_ranked_7 ?_
    refine go_if_ne (pc := 10) X 15 dX8_ranked_10 rfl (fun c4 => ?_) (fun c4 => ?_)
    · rw [if_neg c4] at h
      refine go_iload_n (pc := 15) X 1 dX8_ranked_15 rfl rfl ?_
      refine go_istore_n (pc := 16) X [1, 2, 3, 0] (Ls' := [(0, .ref (ad 0)), (1, .int (i32 a1)), (2, .int (i32 a2)), (3, .int (i32 a1))]) dX8_ranked_16 rfl (by decide) rfl ?_
      refine go_bipush (pc := 17) X dX8_ranked_17 (by decide) (by decide) ?_
      refine go_istore (pc := 19) X [1, 2, 3, 4, 0] (Ls' := [(0, .ref (ad 0)), (1, .int (i32 a1)), (2, .int (i32 a2)), (3, .int (i32 a1)), (4, .int (i32 99))]) dX8_ranked_19 (by decide) rfl ?_
      obtain ⟨r66, h67, h⟩ := bind_some h
      have H68 : ∀ (n : Nat) (t69 : Int × Int) (z70 : (Unit) ⊕ (Int)), lp (f_X8_ranked_l21 S a2) n t69 = some z70 → lpG (fun z73 : Unit => Go p l e { frames := 1, cells := 0, slots := 0, locals := 22 } s m args below meth c 7 D cI cB ad shsM A (MQ below (cQ D cI cB ad shsM (some (.int (i32 r))) S A) args s 0 0 A) 105 [] [] S) (fun u : Int => some u = some r) z70 → Go p l e { frames := 1, cells := 0, slots := 0, locals := 22 } s m args below meth c 7 D cI cB ad shsM A (MQ below (cQ D cI cB ad shsM (some (.int (i32 r))) S A) args s 0 0 A) 21 [(0, .ref (ad 0)), (2, .int (i32 a2)), (3, .int (i32 t69.1)), (4, .int (i32 t69.2))] [] S := by
        refine lp_go (fun t69 : Int × Int => Go p l e { frames := 1, cells := 0, slots := 0, locals := 22 } s m args below meth c 7 D cI cB ad shsM A (MQ below (cQ D cI cB ad shsM (some (.int (i32 r))) S A) args s 0 0 A) 21 [(0, .ref (ad 0)), (2, .int (i32 a2)), (3, .int (i32 t69.1)), (4, .int (i32 t69.2))] [] S) (fun z70 : (Unit) ⊕ (Int) => lpG (fun z73 : Unit => Go p l e { frames := 1, cells := 0, slots := 0, locals := 22 } s m args below meth c 7 D cI cB ad shsM A (MQ below (cQ D cI cB ad shsM (some (.int (i32 r))) S A) args s 0 0 A) 105 [] [] S) (fun u : Int => some u = some r) z70) ?_
        intro t69 x71 h hx72
        unfold f_X8_ranked_l21 at h
        refine go_iload (pc := 21) X 3 dX8_ranked_21 rfl ?_
        refine go_if_lt (pc := 23) X 105 dX8_ranked_23 rfl (fun c74 => ?_) (fun c74 => ?_)
        · rw [if_pos c74] at h
          refine go_pick [] (Ls' := []) rfl ?_
          exact lp_back h hx72
        · rw [if_neg c74] at h
          refine go_iconst (pc := 26) X dX8_ranked_26 ?_
          refine go_istore (pc := 27) X [1, 2, 3, 4, 0] (Ls' := [(0, .ref (ad 0)), (2, .int (i32 a2)), (3, .int (i32 t69.1)), (4, .int (i32 t69.2)), (5, .int (i32 0))]) dX8_ranked_27 (by decide) rfl ?_
          obtain ⟨r75, h76, h⟩ := bind_some h
          have H77 : ∀ (n : Nat) (t78 : Int × Int) (z79 : (Int) ⊕ (Int)), lp (f_X8_ranked_l29 S a2 t69.2) n t78 = some z79 → lpG (fun z82 : Int => Go p l e { frames := 1, cells := 0, slots := 0, locals := 22 } s m args below meth c 7 D cI cB ad shsM A (MQ below (cQ D cI cB ad shsM (some (.int (i32 r))) S A) args s 0 0 A) 99 [(0, .ref (ad 0)), (2, .int (i32 a2)), (3, .int (i32 z82)), (4, .int (i32 t69.2))] [] S) (fun u : Int => some u = some r) z79 → Go p l e { frames := 1, cells := 0, slots := 0, locals := 22 } s m args below meth c 7 D cI cB ad shsM A (MQ below (cQ D cI cB ad shsM (some (.int (i32 r))) S A) args s 0 0 A) 29 [(0, .ref (ad 0)), (2, .int (i32 a2)), (3, .int (i32 t78.1)), (4, .int (i32 t69.2)), (5, .int (i32 t78.2))] [] S := by
            refine lp_go (fun t78 : Int × Int => Go p l e { frames := 1, cells := 0, slots := 0, locals := 22 } s m args below meth c 7 D cI cB ad shsM A (MQ below (cQ D cI cB ad shsM (some (.int (i32 r))) S A) args s 0 0 A) 29 [(0, .ref (ad 0)), (2, .int (i32 a2)), (3, .int (i32 t78.1)), (4, .int (i32 t69.2)), (5, .int (i32 t78.2))] [] S) (fun z79 : (Int) ⊕ (Int) => lpG (fun z82 : Int => Go p l e { frames := 1, cells := 0, slots := 0, locals := 22 } s m args below meth c 7 D cI cB ad shsM A (MQ below (cQ D cI cB ad shsM (some (.int (i32 r))) S A) args s 0 0 A) 99 [(0, .ref (ad 0)), (2, .int (i32 a2)), (3, .int (i32 z82)), (4, .int (i32 t69.2))] [] S) (fun u : Int => some u = some r) z79) ?_
            intro t78 x80 h hx81
            unfold f_X8_ranked_l29 at h
            refine go_iload (pc := 29) X 4 dX8_ranked_29 rfl ?_
            refine go_aload_n (pc := 31) X 0 dX8_ranked_31 rfl rfl ?_
            obtain ⟨r83, h84, h⟩ := bind_some h
            refine go_callVi (pc := 32) X 0 [.int (i32 t78.2)] (ct_X8_many h84) sh8 rfl gg_X8_61 hd_X8_many ⟨Nat.le_of_ble_eq_true rfl, Nat.le_of_ble_eq_true rfl⟩ rfl rfl (Nat.le_of_ble_eq_true rfl) dX8_ranked_32 ?_
            refine go_icmp_ge (pc := 35) X 99 dX8_ranked_35 rfl (fun c85 => ?_) (fun c85 => ?_)
            · rw [if_neg c85] at h
              refine go_pick [0, 1, 2, 3] (Ls' := [(0, .ref (ad 0)), (2, .int (i32 a2)), (3, .int (i32 t78.1)), (4, .int (i32 t69.2))]) rfl ?_
              exact lp_back h hx81
            · rw [if_pos c85] at h
              refine go_iconst (pc := 38) X dX8_ranked_38 ?_
              refine go_istore (pc := 39) X [1, 2, 3, 4, 5, 0] (Ls' := [(0, .ref (ad 0)), (2, .int (i32 a2)), (3, .int (i32 t78.1)), (4, .int (i32 t69.2)), (5, .int (i32 t78.2)), (6, .int (i32 0))]) dX8_ranked_39 (by decide) rfl ?_
              obtain ⟨r86, h87, h⟩ := bind_some h
              have H88 : ∀ (n : Nat) (t89 : Int × Int) (z90 : (Int) ⊕ (Int)), lp (f_X8_ranked_l41 S a2 t69.2 t78.2) n t89 = some z90 → lpG (fun z93 : Int => Go p l e { frames := 1, cells := 0, slots := 0, locals := 22 } s m args below meth c 7 D cI cB ad shsM A (MQ below (cQ D cI cB ad shsM (some (.int (i32 r))) S A) args s 0 0 A) 93 [(0, .ref (ad 0)), (2, .int (i32 a2)), (3, .int (i32 z93)), (4, .int (i32 t69.2)), (5, .int (i32 t78.2))] [] S) (fun u : Int => some u = some r) z90 → Go p l e { frames := 1, cells := 0, slots := 0, locals := 22 } s m args below meth c 7 D cI cB ad shsM A (MQ below (cQ D cI cB ad shsM (some (.int (i32 r))) S A) args s 0 0 A) 41 [(0, .ref (ad 0)), (2, .int (i32 a2)), (3, .int (i32 t89.1)), (4, .int (i32 t69.2)), (5, .int (i32 t78.2)), (6, .int (i32 t89.2))] [] S := by
                refine lp_go (fun t89 : Int × Int => Go p l e { frames := 1, cells := 0, slots := 0, locals := 22 } s m args below meth c 7 D cI cB ad shsM A (MQ below (cQ D cI cB ad shsM (some (.int (i32 r))) S A) args s 0 0 A) 41 [(0, .ref (ad 0)), (2, .int (i32 a2)), (3, .int (i32 t89.1)), (4, .int (i32 t69.2)), (5, .int (i32 t78.2)), (6, .int (i32 t89.2))] [] S) (fun z90 : (Int) ⊕ (Int) => lpG (fun z93 : Int => Go p l e { frames := 1, cells := 0, slots := 0, locals := 22 } s m args below meth c 7 D cI cB ad shsM A (MQ below (cQ D cI cB ad shsM (some (.int (i32 r))) S A) args s 0 0 A) 93 [(0, .ref (ad 0)), (2, .int (i32 a2)), (3, .int (i32 z93)), (4, .int (i32 t69.2)), (5, .int (i32 t78.2))] [] S) (fun u : Int => some u = some r) z90) ?_
                intro t89 x91 h hx92
                unfold f_X8_ranked_l41 at h
                refine go_iload (pc := 41) X 5 dX8_ranked_41 rfl ?_
                refine go_aload_n (pc := 43) X 0 dX8_ranked_43 rfl rfl ?_
                refine go_iload (pc := 44) X 4 dX8_ranked_44 rfl ?_
                obtain ⟨r94, h95, h⟩ := bind_some h
                refine go_callVi (pc := 46) X 1 [.int (i32 t89.2)] (ct_X8_valuesOf h95) sh8 rfl gg_X8_73 hd_X8_valuesOf ⟨Nat.le_of_ble_eq_true rfl, Nat.le_of_ble_eq_true rfl⟩ rfl rfl (Nat.le_of_ble_eq_true rfl) dX8_ranked_46 ?_
                refine go_icmp_ge (pc := 49) X 93 dX8_ranked_49 rfl (fun c96 => ?_) (fun c96 => ?_)
                · rw [if_neg c96] at h
                  refine go_pick [0, 1, 2, 3, 4] (Ls' := [(0, .ref (ad 0)), (2, .int (i32 a2)), (3, .int (i32 t89.1)), (4, .int (i32 t69.2)), (5, .int (i32 t78.2))]) rfl ?_
                  exact lp_back h hx92
                · rw [if_pos c96] at h
                  refine go_aload_n (pc := 52) X 0 dX8_ranked_52 rfl rfl ?_
                  refine go_iload (pc := 53) X 4 dX8_ranked_53 rfl ?_
                  refine go_iload (pc := 55) X 5 dX8_ranked_55 rfl ?_
                  obtain ⟨r97, h98, h⟩ := bind_some h
                  refine go_callVi (pc := 57) X 2 [] (ct_X8_valueAt h98) sh8 rfl gg_X8_114 hd_X8_valueAt ⟨Nat.le_of_ble_eq_true rfl, Nat.le_of_ble_eq_true rfl⟩ rfl rfl (Nat.le_of_ble_eq_true rfl) dX8_ranked_57 ?_
                  refine go_iload (pc := 60) X 3 dX8_ranked_60 rfl ?_
                  refine go_icmp_eq (pc := 62) X 68 dX8_ranked_62 rfl (fun c99 => ?_) (fun c99 => ?_)
                  · rw [if_pos c99] at h
                    refine go_iload_n (pc := 68) X 2 dX8_ranked_68 rfl rfl ?_
                    refine go_if_ne (pc := 69) X 84 dX8_ranked_69 rfl (fun c100 => ?_) (fun c100 => ?_)
                    · rw [if_neg c100] at h
                      refine go_iinc (pc := 84) X [1, 2, 0, 3, 4, 5] 2 (Ls' := [(0, .ref (ad 0)), (2, .int (i32 a2)), (3, .int (i32 (t89.1 + (-1)))), (4, .int (i32 t69.2)), (5, .int (i32 t78.2)), (6, .int (i32 t89.2))]) dX8_ranked_84 rfl (by decide) rfl ?_
                      refine go_iinc (pc := 87) X [1, 2, 3, 4, 5, 0] 5 (Ls' := [(0, .ref (ad 0)), (2, .int (i32 a2)), (3, .int (i32 (t89.1 + (-1)))), (4, .int (i32 t69.2)), (5, .int (i32 t78.2)), (6, .int (i32 (t89.2 + 1)))]) dX8_ranked_87 rfl (by decide) rfl ?_
                      refine go_goto (pc := 90) X 41 dX8_ranked_90 rfl ?_
                      exact lp_back h hx92
                    · rw [if_pos c100] at h
                      refine go_iload_n (pc := 72) X 1 dX8_ranked_72 rfl rfl ?_
                      refine go_if_ne (pc := 73) X 81 dX8_ranked_73 rfl (fun c101 => ?_) (fun c101 => ?_)
                      · rw [if_neg c101] at h
                        refine go_iload (pc := 81) X 3 dX8_ranked_81 rfl ?_
                        exact go_iretP (pc := 83) X (lp_back h hx92) dX8_ranked_83
                      · rw [if_pos c101] at h
                        refine go_iload (pc := 76) X 4 dX8_ranked_76 rfl ?_
                        refine go_goto (pc := 78) X 83 dX8_ranked_78 rfl ?_
                        exact go_iretP (pc := 83) X (lp_back h hx92) dX8_ranked_83
                  · rw [if_neg c99] at h
                    refine go_goto (pc := 65) X 87 dX8_ranked_65 rfl ?_
                    refine go_iinc (pc := 87) X [1, 2, 3, 4, 5, 0] 5 (Ls' := [(0, .ref (ad 0)), (2, .int (i32 a2)), (3, .int (i32 t89.1)), (4, .int (i32 t69.2)), (5, .int (i32 t78.2)), (6, .int (i32 (t89.2 + 1)))]) dX8_ranked_87 rfl (by decide) rfl ?_
                    refine go_goto (pc := 90) X 41 dX8_ranked_90 rfl ?_
                    exact lp_back h hx92
              refine H88 FU (t78.1, 0) r86 h87 ?_
              cases r86 with
              | inl r102 =>
                have h := lct_l h
                refine lpG_l ?_
                refine go_iinc (pc := 93) X [1, 2, 3, 4, 0] 4 (Ls' := [(0, .ref (ad 0)), (2, .int (i32 a2)), (3, .int (i32 r102)), (4, .int (i32 t69.2)), (5, .int (i32 (t78.2 + 1)))]) dX8_ranked_93 rfl (by decide) rfl ?_
                refine go_goto (pc := 96) X 29 dX8_ranked_96 rfl ?_
                exact lp_back h hx81
              | inr u103 =>
                have h := lct_r h
                refine lpG_r ?_
                exact lp_back h hx81
          refine H77 FU (t69.1, 0) r75 h76 ?_
          cases r75 with
          | inl r104 =>
            have h := lct_l h
            refine lpG_l ?_
            refine go_iinc (pc := 99) X [1, 2, 3, 0] 3 (Ls' := [(0, .ref (ad 0)), (2, .int (i32 a2)), (3, .int (i32 r104)), (4, .int (i32 (t69.2 + (-1))))]) dX8_ranked_99 rfl (by decide) rfl ?_
            refine go_goto (pc := 102) X 21 dX8_ranked_102 rfl ?_
            exact lp_back h hx72
          | inr u105 =>
            have h := lct_r h
            refine lpG_r ?_
            exact lp_back h hx72
      refine go_pick [0, 2, 3, 4] (Ls' := [(0, .ref (ad 0)), (2, .int (i32 a2)), (3, .int (i32 a1)), (4, .int (i32 99))]) rfl ?_
      refine H68 FU (a1, 99) r66 h67 ?_
      cases r66 with
      | inl r106 =>
        have h := lct_l h
        refine lpG_l ?_
        refine go_iconst (pc := 105) X dX8_ranked_105 ?_
        exact go_iretP (pc := 106) X h dX8_ranked_106
      | inr u107 =>
        have h := lct_r h
        refine lpG_r ?_
        exact h
    · rw [if_pos c4] at h
      refine go_iconst (pc := 13) X dX8_ranked_13 ?_
      exact go_iretP (pc := 14) X h dX8_ranked_14
set_option maxRecDepth 100000 in
set_option maxHeartbeats 4000000 in
theorem ct_X8_priceFor {l : Launch} {D : va_G} {cI cB : ClassId} {Z : (Nat → Nat) × (Nat → Nat)} {ad : Nat → Nat} {S : Mem} {a1 : Int} {r : Int} (h : f_X8_priceFor S a1 = some r) : Ctr l D cI cB Z ad shsM yX8_priceFor cX8_priceFor 3 (some .int) 4 88 [.ref (ad 0), .int (i32 a1)] S (some (.int (i32 r))) S := by
  refine ctr_of (by decide +kernel) (Nat.le_of_ble_eq_true rfl) rfl ?_
  intro p e s m args below meth c A X
  unfold f_X8_priceFor at h
  refine go_iload_n (pc := 0) X 1 dX8_priceFor_0 rfl rfl ?_
  refine go_if_ge (pc := 1) X 6 dX8_priceFor_1 rfl (fun c1 => ?_) (fun c1 => ?_)
  · rw [if_neg c1] at h
    refine go_iconst (pc := 6) X dX8_priceFor_6 ?_
    refine go_istore_n (pc := 7) X [1, 2, 0] (Ls' := [(0, .ref (ad 0)), (1, .int (i32 a1)), (2, .int (i32 0))]) dX8_priceFor_7 rfl (by decide) rfl ?_
    obtain ⟨r5, h6, h⟩ := bind_some h
    have H7 : ∀ (n : Nat) (t8 : Int) (z9 : Int), lp (f_X8_priceFor_l8 S a1) n t8 = some z9 → Go p l e { frames := 4, cells := 0, slots := 0, locals := 88 } s m args below meth c 3 D cI cB ad shsM A (MQ below (cQ D cI cB ad shsM (some (.int (i32 r))) S A) args s 0 0 A) 23 [(2, .int (i32 z9))] [] S → Go p l e { frames := 4, cells := 0, slots := 0, locals := 88 } s m args below meth c 3 D cI cB ad shsM A (MQ below (cQ D cI cB ad shsM (some (.int (i32 r))) S A) args s 0 0 A) 8 [(0, .ref (ad 0)), (1, .int (i32 a1)), (2, .int (i32 t8))] [] S := by
      refine lp_go (fun t8 : Int => Go p l e { frames := 4, cells := 0, slots := 0, locals := 88 } s m args below meth c 3 D cI cB ad shsM A (MQ below (cQ D cI cB ad shsM (some (.int (i32 r))) S A) args s 0 0 A) 8 [(0, .ref (ad 0)), (1, .int (i32 a1)), (2, .int (i32 t8))] [] S) (fun z9 : Int => Go p l e { frames := 4, cells := 0, slots := 0, locals := 88 } s m args below meth c 3 D cI cB ad shsM A (MQ below (cQ D cI cB ad shsM (some (.int (i32 r))) S A) args s 0 0 A) 23 [(2, .int (i32 z9))] [] S) ?_
      intro t8 x10 h hx11
      unfold f_X8_priceFor_l8 at h
      refine go_aload_n (pc := 8) X 0 dX8_priceFor_8 rfl rfl ?_
      refine go_iload_n (pc := 9) X 2 dX8_priceFor_9 rfl rfl ?_
      obtain ⟨r13, h14, h⟩ := bind_some h
      refine go_callVi (pc := 10) X 1 [] (ct_X8_wantedAt h14) sh8 rfl gg_X8_132 hd_X8_wantedAt ⟨Nat.le_of_ble_eq_true rfl, Nat.le_of_ble_eq_true rfl⟩ rfl rfl (Nat.le_of_ble_eq_true rfl) dX8_priceFor_10 ?_
      refine go_iload_n (pc := 13) X 1 dX8_priceFor_13 rfl rfl ?_
      refine go_icmp_le (pc := 14) X 23 dX8_priceFor_14 rfl (fun c15 => ?_) (fun c15 => ?_)
      · rw [if_neg c15] at h
        refine go_pick [2] (Ls' := [(2, .int (i32 t8))]) rfl ?_
        exact lp_back h hx11
      · rw [if_pos c15] at h
        refine go_iinc (pc := 17) X [1, 2, 0] 2 (Ls' := [(0, .ref (ad 0)), (1, .int (i32 a1)), (2, .int (i32 (t8 + 1)))]) dX8_priceFor_17 rfl (by decide) rfl ?_
        refine go_goto (pc := 20) X 8 dX8_priceFor_20 rfl ?_
        exact lp_back h hx11
    refine H7 FU 0 r5 h6 ?_
    refine go_iload_n (pc := 23) X 0 dX8_priceFor_23 rfl rfl ?_
    exact go_iretP (pc := 24) X h dX8_priceFor_24
  · rw [if_pos c1] at h
    refine go_iconst (pc := 4) X dX8_priceFor_4 ?_
    exact go_iretP (pc := 5) X h dX8_priceFor_5
set_option maxRecDepth 100000 in
set_option maxHeartbeats 4000000 in
theorem ct_X8_step {l : Launch} {D : va_G} {cI cB : ClassId} {Z : (Nat → Nat) × (Nat → Nat)} {ad : Nat → Nat} {S : Mem} {a1 : Int} {a2 : Int} {r : Int} (h : f_X8_step S a1 a2 = some r) : Ctr l D cI cB Z ad shsM yX8_step cX8_step 7 (some .int) 4 88 [.ref (ad 0), .int (i32 a1), .int (i32 a2)] S (some (.int (i32 r))) S := by
  refine ctr_of (by decide +kernel) (Nat.le_of_ble_eq_true rfl) rfl ?_
  intro p e s m args below meth c A X
  unfold f_X8_step at h
  refine go_iload_n (pc := 0) X 1 dX8_step_0 rfl rfl ?_
  refine go_if_lt (pc := 1) X 13 dX8_step_1 rfl (fun c1 => ?_) (fun c1 => ?_)
  · rw [if_pos c1] at h
    refine go_iconst (pc := 13) X dX8_step_13 ?_
    exact go_iretP (pc := 14) X h dX8_step_14
  · rw [if_neg c1] at h
    refine go_iload_n (pc := 4) X 2 dX8_step_4 rfl rfl ?_
    refine go_iconst (pc := 5) X dX8_step_5 ?_
    refine go_iconst (pc := 6) X dX8_step_6 ?_
    obtain ⟨r2, h3, h⟩ := bind_some h
    refine go_callSi (pc := 7) X 3 [] (ct_X8_in h3) gg_X8_65 hd_X8_in ⟨Nat.le_of_ble_eq_true rfl, Nat.le_of_ble_eq_true rfl⟩ rfl rfl (Nat.le_of_ble_eq_true rfl) dX8_step_7 ?_
    refine go_if_ne (pc := 10) X 15 dX8_step_10 rfl (fun c4 => ?_) (fun c4 => ?_)
    · rw [if_neg c4] at h
      refine go_iload_n (pc := 15) X 1 dX8_step_15 rfl rfl ?_
      refine go_istore_n (pc := 16) X [1, 2, 3, 0] (Ls' := [(0, .ref (ad 0)), (1, .int (i32 a1)), (2, .int (i32 a2)), (3, .int (i32 a1))]) dX8_step_16 rfl (by decide) rfl ?_
      refine go_iconst (pc := 17) X dX8_step_17 ?_
      refine go_istore (pc := 18) X [1, 2, 3, 4, 0] (Ls' := [(0, .ref (ad 0)), (1, .int (i32 a1)), (2, .int (i32 a2)), (3, .int (i32 a1)), (4, .int (i32 0))]) dX8_step_18 (by decide) rfl ?_
      obtain ⟨r42, h43, h⟩ := bind_some h
      have H44 : ∀ (n : Nat) (t45 : Int × Int) (z46 : (Unit) ⊕ (Int)), lp (f_X8_step_l20 S a2) n t45 = some z46 → lpG (fun z49 : Unit => Go p l e { frames := 4, cells := 0, slots := 0, locals := 88 } s m args below meth c 7 D cI cB ad shsM A (MQ below (cQ D cI cB ad shsM (some (.int (i32 r))) S A) args s 0 0 A) 124 [] [] S) (fun u : Int => some u = some r) z46 → Go p l e { frames := 4, cells := 0, slots := 0, locals := 88 } s m args below meth c 7 D cI cB ad shsM A (MQ below (cQ D cI cB ad shsM (some (.int (i32 r))) S A) args s 0 0 A) 20 [(0, .ref (ad 0)), (2, .int (i32 a2)), (3, .int (i32 t45.1)), (4, .int (i32 t45.2))] [] S := by
        refine lp_go (fun t45 : Int × Int => Go p l e { frames := 4, cells := 0, slots := 0, locals := 88 } s m args below meth c 7 D cI cB ad shsM A (MQ below (cQ D cI cB ad shsM (some (.int (i32 r))) S A) args s 0 0 A) 20 [(0, .ref (ad 0)), (2, .int (i32 a2)), (3, .int (i32 t45.1)), (4, .int (i32 t45.2))] [] S) (fun z46 : (Unit) ⊕ (Int) => lpG (fun z49 : Unit => Go p l e { frames := 4, cells := 0, slots := 0, locals := 88 } s m args below meth c 7 D cI cB ad shsM A (MQ below (cQ D cI cB ad shsM (some (.int (i32 r))) S A) args s 0 0 A) 124 [] [] S) (fun u : Int => some u = some r) z46) ?_
        intro t45 x47 h hx48
        unfold f_X8_step_l20 at h
        refine go_iload (pc := 20) X 3 dX8_step_20 rfl ?_
        refine go_bipush (pc := 22) X dX8_step_22 (by decide) (by decide) ?_
        refine go_icmp_gt (pc := 24) X 124 dX8_step_24 rfl (fun c50 => ?_) (fun c50 => ?_)
        · rw [if_pos c50] at h
          refine go_pick [] (Ls' := []) rfl ?_
          exact lp_back h hx48
        · rw [if_neg c50] at h
          refine go_aload_n (pc := 27) X 0 dX8_step_27 rfl rfl ?_
          refine go_iload (pc := 28) X 3 dX8_step_28 rfl ?_
          obtain ⟨r51, h52, h⟩ := bind_some h
          refine go_callVi (pc := 30) X 1 [] (ct_X8_wantedAt h52) sh8 rfl gg_X8_132 hd_X8_wantedAt ⟨Nat.le_of_ble_eq_true rfl, Nat.le_of_ble_eq_true rfl⟩ rfl rfl (Nat.le_of_ble_eq_true rfl) dX8_step_30 ?_
          refine go_aload_n (pc := 33) X 0 dX8_step_33 rfl rfl ?_
          refine go_iload (pc := 34) X 3 dX8_step_34 rfl ?_
          refine go_iconst (pc := 36) X dX8_step_36 ?_
          refine go_isub (pc := 37) X dX8_step_37 ?_
          obtain ⟨r53, h54, h⟩ := bind_some h
          refine go_callVi (pc := 38) X 1 [.int (i32 r51)] (ct_X8_wantedAt h54) sh8 rfl gg_X8_132 hd_X8_wantedAt ⟨Nat.le_of_ble_eq_true rfl, Nat.le_of_ble_eq_true rfl⟩ rfl rfl (Nat.le_of_ble_eq_true rfl) dX8_step_38 ?_
          refine go_icmp_ne (pc := 41) X 47 dX8_step_41 rfl (fun c55 => ?_) (fun c55 => ?_)
          · rw [if_neg c55] at h
            refine go_iload_n (pc := 47) X 2 dX8_step_47 rfl rfl ?_
            refine go_if_le (pc := 48) X 57 dX8_step_48 rfl (fun c56 => ?_) (fun c56 => ?_)
            · rw [if_neg c56] at h
              refine go_iconst (pc := 57) X dX8_step_57 ?_
              refine go_istore (pc := 58) X [1, 2, 3, 4, 0] (Ls' := [(0, .ref (ad 0)), (2, .int (i32 a2)), (3, .int (i32 t45.1)), (4, .int (i32 t45.2)), (5, .int (i32 0))]) dX8_step_58 (by decide) rfl ?_
              refine go_iconst (pc := 60) X dX8_step_60 ?_
              refine go_istore (pc := 61) X [1, 2, 3, 4, 5, 0] (Ls' := [(0, .ref (ad 0)), (2, .int (i32 a2)), (3, .int (i32 t45.1)), (4, .int (i32 t45.2)), (5, .int (i32 0)), (6, .int (i32 0))]) dX8_step_61 (by decide) rfl ?_
              obtain ⟨r57, h58, h⟩ := bind_some h
              have H59 : ∀ (n : Nat) (t60 : Int × Int) (z61 : Int), lp (f_X8_step_l63 S a2 t45.2) n t60 = some z61 → Go p l e { frames := 4, cells := 0, slots := 0, locals := 88 } s m args below meth c 7 D cI cB ad shsM A (MQ below (cQ D cI cB ad shsM (some (.int (i32 r))) S A) args s 0 0 A) 92 [(0, .ref (ad 0)), (2, .int (i32 a2)), (4, .int (i32 t45.2)), (5, .int (i32 z61))] [] S → Go p l e { frames := 4, cells := 0, slots := 0, locals := 88 } s m args below meth c 7 D cI cB ad shsM A (MQ below (cQ D cI cB ad shsM (some (.int (i32 r))) S A) args s 0 0 A) 63 [(0, .ref (ad 0)), (2, .int (i32 a2)), (4, .int (i32 t45.2)), (5, .int (i32 t60.1)), (6, .int (i32 t60.2))] [] S := by
                refine lp_go (fun t60 : Int × Int => Go p l e { frames := 4, cells := 0, slots := 0, locals := 88 } s m args below meth c 7 D cI cB ad shsM A (MQ below (cQ D cI cB ad shsM (some (.int (i32 r))) S A) args s 0 0 A) 63 [(0, .ref (ad 0)), (2, .int (i32 a2)), (4, .int (i32 t45.2)), (5, .int (i32 t60.1)), (6, .int (i32 t60.2))] [] S) (fun z61 : Int => Go p l e { frames := 4, cells := 0, slots := 0, locals := 88 } s m args below meth c 7 D cI cB ad shsM A (MQ below (cQ D cI cB ad shsM (some (.int (i32 r))) S A) args s 0 0 A) 92 [(0, .ref (ad 0)), (2, .int (i32 a2)), (4, .int (i32 t45.2)), (5, .int (i32 z61))] [] S) ?_
                intro t60 x62 h hx63
                unfold f_X8_step_l63 at h
                refine go_iload (pc := 63) X 4 dX8_step_63 rfl ?_
                refine go_aload_n (pc := 65) X 0 dX8_step_65 rfl rfl ?_
                obtain ⟨r65, h66, h⟩ := bind_some h
                refine go_callVi (pc := 66) X 0 [.int (i32 t60.2)] (ct_X8_many h66) sh8 rfl gg_X8_61 hd_X8_many ⟨Nat.le_of_ble_eq_true rfl, Nat.le_of_ble_eq_true rfl⟩ rfl rfl (Nat.le_of_ble_eq_true rfl) dX8_step_66 ?_
                refine go_icmp_ge (pc := 69) X 92 dX8_step_69 rfl (fun c67 => ?_) (fun c67 => ?_)
                · rw [if_neg c67] at h
                  refine go_pick [0, 1, 2, 3] (Ls' := [(0, .ref (ad 0)), (2, .int (i32 a2)), (4, .int (i32 t45.2)), (5, .int (i32 t60.1))]) rfl ?_
                  exact lp_back h hx63
                · rw [if_pos c67] at h
                  refine go_aload_n (pc := 72) X 0 dX8_step_72 rfl rfl ?_
                  refine go_iload (pc := 73) X 4 dX8_step_73 rfl ?_
                  refine go_iload (pc := 75) X 2 dX8_step_75 rfl ?_
                  obtain ⟨r68, h69, h⟩ := bind_some h
                  refine go_callVi (pc := 77) X 2 [] (ct_X8_aboveOf h69) sh8 rfl gg_X8_129 hd_X8_aboveOf ⟨Nat.le_of_ble_eq_true rfl, Nat.le_of_ble_eq_true rfl⟩ rfl rfl (Nat.le_of_ble_eq_true rfl) dX8_step_77 ?_
                  obtain ⟨j70, h71, h⟩ := bind_some h
                  have k72 : Go p l e { frames := 4, cells := 0, slots := 0, locals := 88 } s m args below meth c 7 D cI cB ad shsM A (MQ below (cQ D cI cB ad shsM (some (.int (i32 r))) S A) args s 0 0 A) 86 [(0, .ref (ad 0)), (2, .int (i32 a2)), (4, .int (i32 t45.2)), (5, .int (i32 j70)), (6, .int (i32 t60.2))] [] S := by
                    refine go_iinc (pc := 86) X [1, 2, 3, 4, 0] 4 (Ls' := [(0, .ref (ad 0)), (2, .int (i32 a2)), (4, .int (i32 t45.2)), (5, .int (i32 j70)), (6, .int (i32 (t60.2 + 1)))]) dX8_step_86 rfl (by decide) rfl ?_
                    refine go_goto (pc := 89) X 63 dX8_step_89 rfl ?_
                    exact lp_back h hx63
                  refine go_if_le (pc := 80) X 86 dX8_step_80 rfl (fun c73 => ?_) (fun c73 => ?_)
                  · rw [if_neg c73] at h71
                    cases h71
                    exact k72
                  · rw [if_pos c73] at h71
                    refine go_iinc (pc := 83) X [1, 2, 3, 0, 4] 3 (Ls' := [(0, .ref (ad 0)), (2, .int (i32 a2)), (4, .int (i32 t45.2)), (5, .int (i32 (t60.1 + 1))), (6, .int (i32 t60.2))]) dX8_step_83 rfl (by decide) rfl ?_
                    cases h71
                    exact k72
              refine go_pick [0, 1, 3, 4, 5] (Ls' := [(0, .ref (ad 0)), (2, .int (i32 a2)), (4, .int (i32 t45.2)), (5, .int (i32 0)), (6, .int (i32 0))]) rfl ?_
              refine H59 FU (0, 0) r57 h58 ?_
              refine go_iload_n (pc := 92) X 1 dX8_step_92 rfl rfl ?_
              refine go_if_ne (pc := 93) X 101 dX8_step_93 rfl (fun c74 => ?_) (fun c74 => ?_)
              · rw [if_neg c74] at h
                refine go_iload_n (pc := 101) X 1 dX8_step_101 rfl rfl ?_
                refine go_iconst (pc := 102) X dX8_step_102 ?_
                refine go_icmp_ne (pc := 103) X 115 dX8_step_103 rfl (fun c75 => ?_) (fun c75 => ?_)
                · rw [if_neg c75] at h
                  refine go_iload (pc := 115) X 3 dX8_step_115 rfl ?_
                  exact go_iretP (pc := 117) X (lp_back h hx48) dX8_step_117
                · rw [if_pos c75] at h
                  refine go_aload_n (pc := 106) X 0 dX8_step_106 rfl rfl ?_
                  refine go_iload (pc := 107) X 2 dX8_step_107 rfl ?_
                  obtain ⟨r76, h77, h⟩ := bind_some h
                  refine go_callVi (pc := 109) X 1 [] (ct_X8_wantedAt h77) sh8 rfl gg_X8_132 hd_X8_wantedAt ⟨Nat.le_of_ble_eq_true rfl, Nat.le_of_ble_eq_true rfl⟩ rfl rfl (Nat.le_of_ble_eq_true rfl) dX8_step_109 ?_
                  refine go_goto (pc := 112) X 117 dX8_step_112 rfl ?_
                  exact go_iretP (pc := 117) X (lp_back h hx48) dX8_step_117
              · rw [if_pos c74] at h
                refine go_iload (pc := 96) X 2 dX8_step_96 rfl ?_
                refine go_goto (pc := 98) X 117 dX8_step_98 rfl ?_
                exact go_iretP (pc := 117) X (lp_back h hx48) dX8_step_117
            · rw [if_pos c56] at h
              refine go_iinc (pc := 51) X [1, 2, 0, 3] 2 (Ls' := [(0, .ref (ad 0)), (2, .int (i32 a2)), (3, .int (i32 (t45.1 + (-1)))), (4, .int (i32 t45.2))]) dX8_step_51 rfl (by decide) rfl ?_
              refine go_goto (pc := 54) X 118 dX8_step_54 rfl ?_
              refine go_iinc (pc := 118) X [1, 2, 3, 0] 3 (Ls' := [(0, .ref (ad 0)), (2, .int (i32 a2)), (3, .int (i32 (t45.1 + (-1)))), (4, .int (i32 (t45.2 + 1)))]) dX8_step_118 rfl (by decide) rfl ?_
              refine go_goto (pc := 121) X 20 dX8_step_121 rfl ?_
              exact lp_back h hx48
          · rw [if_pos c55] at h
            refine go_goto (pc := 44) X 118 dX8_step_44 rfl ?_
            refine go_iinc (pc := 118) X [1, 2, 3, 0] 3 (Ls' := [(0, .ref (ad 0)), (2, .int (i32 a2)), (3, .int (i32 t45.1)), (4, .int (i32 (t45.2 + 1)))]) dX8_step_118 rfl (by decide) rfl ?_
            refine go_goto (pc := 121) X 20 dX8_step_121 rfl ?_
            exact lp_back h hx48
      refine go_pick [0, 2, 3, 4] (Ls' := [(0, .ref (ad 0)), (2, .int (i32 a2)), (3, .int (i32 a1)), (4, .int (i32 0))]) rfl ?_
      refine H44 FU (a1, 0) r42 h43 ?_
      cases r42 with
      | inl r78 =>
        have h := lct_l h
        refine lpG_l ?_
        refine go_iconst (pc := 124) X dX8_step_124 ?_
        exact go_iretP (pc := 125) X h dX8_step_125
      | inr u79 =>
        have h := lct_r h
        refine lpG_r ?_
        exact h
    · rw [if_pos c4] at h
      refine go_iconst (pc := 13) X dX8_step_13 ?_
      exact go_iretP (pc := 14) X h dX8_step_14
set_option maxRecDepth 100000 in
set_option maxHeartbeats 4000000 in
theorem ct_X8_envies {l : Launch} {D : va_G} {cI cB : ClassId} {Z : (Nat → Nat) × (Nat → Nat)} {ad : Nat → Nat} {S : Mem} {a1 : Int} {a2 : Int} {r : Int} {S' : Mem} (h : f_X8_envies S a1 a2 = some (r, S')) : Ctr l D cI cB Z ad shsM yX8_envies cX8_envies 6 (some .int) 7 156 [.ref (ad 0), .int (i32 a1), .int (i32 a2)] S (some (.int (i32 r))) S' := by
  refine ctr_of (by decide +kernel) (Nat.le_of_ble_eq_true rfl) rfl ?_
  intro p e s m args below meth c A X
  unfold f_X8_envies at h
  refine go_aload_n (pc := 0) X 0 dX8_envies_0 rfl rfl ?_
  refine go_iload_n (pc := 1) X 1 dX8_envies_1 rfl rfl ?_
  obtain ⟨r1, h2, h⟩ := bind_some h
  refine go_callVi (pc := 2) X 1 [] (ct_X8_isBidder h2) sh8 rfl gg_X8_90 hd_X8_isBidder ⟨Nat.le_of_ble_eq_true rfl, Nat.le_of_ble_eq_true rfl⟩ rfl rfl (Nat.le_of_ble_eq_true rfl) dX8_envies_2 ?_
  refine go_if_eq (pc := 5) X 15 dX8_envies_5 rfl (fun c3 => ?_) (fun c3 => ?_)
  · rw [if_pos c3] at h
    refine go_iconst (pc := 15) X dX8_envies_15 ?_
    exact go_iret (pc := 16) X h dX8_envies_16
  · rw [if_neg c3] at h
    refine go_iload_n (pc := 8) X 2 dX8_envies_8 rfl rfl ?_
    obtain ⟨r4, h5, h⟩ := bind_some h
    refine go_callSi (pc := 9) X 1 [] (ct_X8_isKind h5) gg_X8_168 hd_X8_isKind ⟨Nat.le_of_ble_eq_true rfl, Nat.le_of_ble_eq_true rfl⟩ rfl rfl (Nat.le_of_ble_eq_true rfl) dX8_envies_9 ?_
    refine go_if_ne (pc := 12) X 17 dX8_envies_12 rfl (fun c6 => ?_) (fun c6 => ?_)
    · rw [if_neg c6] at h
      refine go_aload_n (pc := 17) X 0 dX8_envies_17 rfl rfl ?_
      obtain ⟨S7, h8, h⟩ := bind_some h
      refine go_callVv (pc := 18) X 0 [] (ct_X8_runs h8) sh8 rfl gg_X8_171 hd_X8_runs ⟨Nat.le_of_ble_eq_true rfl, Nat.le_of_ble_eq_true rfl⟩ rfl rfl (Nat.le_of_ble_eq_true rfl) dX8_envies_18 ?_
      refine go_aload_n (pc := 21) X 0 dX8_envies_21 rfl rfl ?_
      refine go_iload_n (pc := 22) X 1 dX8_envies_22 rfl rfl ?_
      refine go_iload_n (pc := 23) X 2 dX8_envies_23 rfl rfl ?_
      obtain ⟨u9, h10, h⟩ := bind_some h
      refine go_callVi (pc := 24) X 2 [] (ct_X8_gainOf h10) sh8 rfl gg_X8_181 hd_X8_gainOf ⟨Nat.le_of_ble_eq_true rfl, Nat.le_of_ble_eq_true rfl⟩ rfl rfl (Nat.le_of_ble_eq_true rfl) dX8_envies_24 ?_
      refine go_istore_n (pc := 27) X [1, 2, 3, 0] (Ls' := [(0, .ref (ad 0)), (1, .int (i32 a1)), (2, .int (i32 a2)), (3, .int (i32 u9.1))]) dX8_envies_27 rfl (by decide) rfl ?_
      refine go_iconst (pc := 28) X dX8_envies_28 ?_
      refine go_istore (pc := 29) X [1, 2, 3, 4, 0] (Ls' := [(0, .ref (ad 0)), (1, .int (i32 a1)), (2, .int (i32 a2)), (3, .int (i32 u9.1)), (4, .int (i32 0))]) dX8_envies_29 (by decide) rfl ?_
      obtain ⟨r25, h26, h⟩ := bind_some h
      have H27 : ∀ (n : Nat) (t28 : Int × Mem) (z29 : (Mem) ⊕ (Int × Mem)), lp (f_X8_envies_l31 a1 a2 u9.1) n t28 = some z29 → lpG (fun z32 : Mem => Go p l e { frames := 7, cells := 0, slots := 0, locals := 156 } s m args below meth c 6 D cI cB ad shsM A (MQ below (cQ D cI cB ad shsM (some (.int (i32 r))) S' A) args s 0 0 A) 91 [] [] z32) (fun u : Int × Mem => some u = some (r, S')) z29 → Go p l e { frames := 7, cells := 0, slots := 0, locals := 156 } s m args below meth c 6 D cI cB ad shsM A (MQ below (cQ D cI cB ad shsM (some (.int (i32 r))) S' A) args s 0 0 A) 31 [(0, .ref (ad 0)), (1, .int (i32 a1)), (2, .int (i32 a2)), (3, .int (i32 u9.1)), (4, .int (i32 t28.1))] [] t28.2 := by
        refine lp_go (fun t28 : Int × Mem => Go p l e { frames := 7, cells := 0, slots := 0, locals := 156 } s m args below meth c 6 D cI cB ad shsM A (MQ below (cQ D cI cB ad shsM (some (.int (i32 r))) S' A) args s 0 0 A) 31 [(0, .ref (ad 0)), (1, .int (i32 a1)), (2, .int (i32 a2)), (3, .int (i32 u9.1)), (4, .int (i32 t28.1))] [] t28.2) (fun z29 : (Mem) ⊕ (Int × Mem) => lpG (fun z32 : Mem => Go p l e { frames := 7, cells := 0, slots := 0, locals := 156 } s m args below meth c 6 D cI cB ad shsM A (MQ below (cQ D cI cB ad shsM (some (.int (i32 r))) S' A) args s 0 0 A) 91 [] [] z32) (fun u : Int × Mem => some u = some (r, S')) z29) ?_
        intro t28 x30 h hx31
        unfold f_X8_envies_l31 at h
        refine go_iload (pc := 31) X 4 dX8_envies_31 rfl ?_
        refine go_aload_n (pc := 33) X 0 dX8_envies_33 rfl rfl ?_
        obtain ⟨r33, h34, h⟩ := bind_some h
        refine go_callVi (pc := 34) X 0 [.int (i32 t28.1)] (ct_X8_many h34) sh8 rfl gg_X8_61 hd_X8_many ⟨Nat.le_of_ble_eq_true rfl, Nat.le_of_ble_eq_true rfl⟩ rfl rfl (Nat.le_of_ble_eq_true rfl) dX8_envies_34 ?_
        refine go_icmp_ge (pc := 37) X 91 dX8_envies_37 rfl (fun c35 => ?_) (fun c35 => ?_)
        · rw [if_neg c35] at h
          refine go_pick [] (Ls' := []) rfl ?_
          exact lp_back h hx31
        · rw [if_pos c35] at h
          refine go_aload_n (pc := 40) X 0 dX8_envies_40 rfl rfl ?_
          refine go_getr (pc := 41) X (fk := 6) sh8 rfl inT_X8 (by decide) fL_X8_26 rfl dX8_envies_41 ?_
          refine go_iload (pc := 44) X 4 dX8_envies_44 rfl ?_
          obtain ⟨g36, h⟩ := gd_some h
          refine go_iald (pc := 46) X shM5 (Nat.le_of_ble_eq_true rfl) rfl g36 dX8_envies_46 ?_
          refine go_aload_n (pc := 47) X 0 dX8_envies_47 rfl rfl ?_
          refine go_iload_n (pc := 48) X 1 dX8_envies_48 rfl rfl ?_
          obtain ⟨r37, h38, h⟩ := bind_some h
          refine go_callVi (pc := 49) X 1 [.int (i32 (t28.2 5 t28.1))] (ct_X8_usedOf h38) sh8 rfl gg_X8_126 hd_X8_usedOf ⟨Nat.le_of_ble_eq_true rfl, Nat.le_of_ble_eq_true rfl⟩ rfl rfl (Nat.le_of_ble_eq_true rfl) dX8_envies_49 ?_
          obtain ⟨r39, h40, h⟩ := bind_some h
          refine go_callSi (pc := 52) X 2 [] (ct_X8_less h40) gg_X8_76 hd_X8_less ⟨Nat.le_of_ble_eq_true rfl, Nat.le_of_ble_eq_true rfl⟩ rfl rfl (Nat.le_of_ble_eq_true rfl) dX8_envies_52 ?_
          refine go_istore (pc := 55) X [1, 2, 3, 4, 5, 0] (Ls' := [(0, .ref (ad 0)), (1, .int (i32 a1)), (2, .int (i32 a2)), (3, .int (i32 u9.1)), (4, .int (i32 t28.1)), (5, .int (i32 r39))]) dX8_envies_55 (by decide) rfl ?_
          refine go_iload (pc := 57) X 4 dX8_envies_57 rfl ?_
          refine go_iload_n (pc := 59) X 1 dX8_envies_59 rfl rfl ?_
          refine go_icmp_eq (pc := 60) X 85 dX8_envies_60 rfl (fun c41 => ?_) (fun c41 => ?_)
          · rw [if_pos c41] at h
            refine go_iinc (pc := 85) X [1, 2, 3, 4, 0, 5] 4 (Ls' := [(0, .ref (ad 0)), (1, .int (i32 a1)), (2, .int (i32 a2)), (3, .int (i32 u9.1)), (4, .int (i32 (t28.1 + 1))), (5, .int (i32 r39))]) dX8_envies_85 rfl (by decide) rfl ?_
            refine go_goto (pc := 88) X 31 dX8_envies_88 rfl ?_
            refine go_pick [0, 1, 2, 3, 4] (Ls' := [(0, .ref (ad 0)), (1, .int (i32 a1)), (2, .int (i32 a2)), (3, .int (i32 u9.1)), (4, .int (i32 (t28.1 + 1)))]) rfl ?_
            exact lp_back h hx31
          · rw [if_neg c41] at h
            refine go_aload_n (pc := 63) X 0 dX8_envies_63 rfl rfl ?_
            refine go_iload_n (pc := 64) X 1 dX8_envies_64 rfl rfl ?_
            refine go_iload (pc := 65) X 5 dX8_envies_65 rfl ?_
            obtain ⟨r42, h43, h⟩ := bind_some h
            refine go_callVi (pc := 67) X 2 [] (ct_X8_firstOf h43) sh8 rfl gg_X8_150 hd_X8_firstOf ⟨Nat.le_of_ble_eq_true rfl, Nat.le_of_ble_eq_true rfl⟩ rfl rfl (Nat.le_of_ble_eq_true rfl) dX8_envies_67 ?_
            refine go_aload_n (pc := 70) X 0 dX8_envies_70 rfl rfl ?_
            refine go_iload (pc := 71) X 4 dX8_envies_71 rfl ?_
            refine go_iload_n (pc := 73) X 2 dX8_envies_73 rfl rfl ?_
            obtain ⟨u44, h45, h⟩ := bind_some h
            refine go_callVi (pc := 74) X 2 [.int (i32 r42)] (ct_X8_paysOf h45) sh8 rfl gg_X8_165 hd_X8_paysOf ⟨Nat.le_of_ble_eq_true rfl, Nat.le_of_ble_eq_true rfl⟩ rfl rfl (Nat.le_of_ble_eq_true rfl) dX8_envies_74 ?_
            refine go_isub (pc := 77) X dX8_envies_77 ?_
            refine go_iload_n (pc := 78) X 3 dX8_envies_78 rfl rfl ?_
            refine go_icmp_le (pc := 79) X 85 dX8_envies_79 rfl (fun c46 => ?_) (fun c46 => ?_)
            · rw [if_neg c46] at h
              refine go_iinc (pc := 85) X [1, 2, 3, 4, 0, 5] 4 (Ls' := [(0, .ref (ad 0)), (1, .int (i32 a1)), (2, .int (i32 a2)), (3, .int (i32 u9.1)), (4, .int (i32 (t28.1 + 1))), (5, .int (i32 r39))]) dX8_envies_85 rfl (by decide) rfl ?_
              refine go_goto (pc := 88) X 31 dX8_envies_88 rfl ?_
              refine go_pick [0, 1, 2, 3, 4] (Ls' := [(0, .ref (ad 0)), (1, .int (i32 a1)), (2, .int (i32 a2)), (3, .int (i32 u9.1)), (4, .int (i32 (t28.1 + 1)))]) rfl ?_
              exact lp_back h hx31
            · rw [if_pos c46] at h
              refine go_iload (pc := 82) X 4 dX8_envies_82 rfl ?_
              exact go_iret (pc := 84) X (lp_back h hx31) dX8_envies_84
      refine H27 FU (0, u9.2) r25 h26 ?_
      cases r25 with
      | inl r47 =>
        have h := lct_l h
        refine lpG_l ?_
        refine go_bipush (pc := 91) X dX8_envies_91 (by decide) (by decide) ?_
        exact go_iret (pc := 93) X h dX8_envies_93
      | inr u48 =>
        have h := lct_r h
        refine lpG_r ?_
        exact h
    · rw [if_pos c6] at h
      refine go_iconst (pc := 15) X dX8_envies_15 ?_
      exact go_iret (pc := 16) X h dX8_envies_16
set_option maxRecDepth 100000 in
set_option maxHeartbeats 4000000 in
theorem ct_X8_blocks {l : Launch} {D : va_G} {cI cB : ClassId} {Z : (Nat → Nat) × (Nat → Nat)} {ad : Nat → Nat} {S : Mem} {a1 : Int} {r : Int} {S' : Mem} (h : f_X8_blocks S a1 = some (r, S')) : Ctr l D cI cB Z ad shsM yX8_blocks cX8_blocks 6 (some .int) 7 156 [.ref (ad 0), .int (i32 a1)] S (some (.int (i32 r))) S' := by
  refine ctr_of (by decide +kernel) (Nat.le_of_ble_eq_true rfl) rfl ?_
  intro p e s m args below meth c A X
  unfold f_X8_blocks at h
  refine go_iload_n (pc := 0) X 1 dX8_blocks_0 rfl rfl ?_
  obtain ⟨r1, h2, h⟩ := bind_some h
  refine go_callSi (pc := 1) X 1 [] (ct_X8_isKind h2) gg_X8_168 hd_X8_isKind ⟨Nat.le_of_ble_eq_true rfl, Nat.le_of_ble_eq_true rfl⟩ rfl rfl (Nat.le_of_ble_eq_true rfl) dX8_blocks_1 ?_
  refine go_if_ne (pc := 4) X 9 dX8_blocks_4 rfl (fun c3 => ?_) (fun c3 => ?_)
  · rw [if_neg c3] at h
    refine go_aload_n (pc := 9) X 0 dX8_blocks_9 rfl rfl ?_
    obtain ⟨S4, h5, h⟩ := bind_some h
    refine go_callVv (pc := 10) X 0 [] (ct_X8_runs h5) sh8 rfl gg_X8_171 hd_X8_runs ⟨Nat.le_of_ble_eq_true rfl, Nat.le_of_ble_eq_true rfl⟩ rfl rfl (Nat.le_of_ble_eq_true rfl) dX8_blocks_10 ?_
    refine go_aload_n (pc := 13) X 0 dX8_blocks_13 rfl rfl ?_
    refine go_iload_n (pc := 14) X 1 dX8_blocks_14 rfl rfl ?_
    obtain ⟨u6, h7, h⟩ := bind_some h
    refine go_callVi (pc := 15) X 1 [] (ct_X8_paidAll h7) sh8 rfl gg_X8_174 hd_X8_paidAll ⟨Nat.le_of_ble_eq_true rfl, Nat.le_of_ble_eq_true rfl⟩ rfl rfl (Nat.le_of_ble_eq_true rfl) dX8_blocks_15 ?_
    refine go_aload_n (pc := 18) X 0 dX8_blocks_18 rfl rfl ?_
    refine go_getr (pc := 19) X (fk := 1) sh8 rfl inT_X8 (by decide) fL_X8_13 rfl dX8_blocks_19 ?_
    refine go_iconst (pc := 22) X dX8_blocks_22 ?_
    obtain ⟨g8, h⟩ := gd_some h
    refine go_iald (pc := 23) X shM1 (Nat.le_of_ble_eq_true rfl) rfl g8 dX8_blocks_23 ?_
    refine go_aload_n (pc := 24) X 0 dX8_blocks_24 rfl rfl ?_
    obtain ⟨r9, h10, h⟩ := bind_some h
    refine go_callVi (pc := 25) X 0 [.int (i32 (u6.2 1 1)), .int (i32 u6.1)] (ct_X8_unsold h10) sh8 rfl gg_X8_162 hd_X8_unsold ⟨Nat.le_of_ble_eq_true rfl, Nat.le_of_ble_eq_true rfl⟩ rfl rfl (Nat.le_of_ble_eq_true rfl) dX8_blocks_25 ?_
    refine go_imul (pc := 28) X dX8_blocks_28 ?_
    refine go_iadd (pc := 29) X dX8_blocks_29 ?_
    refine go_istore_n (pc := 30) X [1, 2, 0] (Ls' := [(0, .ref (ad 0)), (1, .int (i32 a1)), (2, .int (i32 (u6.1 + ((u6.2 1 1) * r9))))]) dX8_blocks_30 rfl (by decide) rfl ?_
    refine go_iconst (pc := 31) X dX8_blocks_31 ?_
    refine go_istore_n (pc := 32) X [1, 2, 3, 0] (Ls' := [(0, .ref (ad 0)), (1, .int (i32 a1)), (2, .int (i32 (u6.1 + ((u6.2 1 1) * r9)))), (3, .int (i32 1))]) dX8_blocks_32 rfl (by decide) rfl ?_
    obtain ⟨r44, h45, h⟩ := bind_some h
    have H46 : ∀ (n : Nat) (t47 : Int × Mem) (z48 : (Mem) ⊕ (Int × Mem)), lp (f_X8_blocks_l33 a1 (u6.1 + ((u6.2 1 1) * r9))) n t47 = some z48 → lpG (fun z51 : Mem => Go p l e { frames := 7, cells := 0, slots := 0, locals := 156 } s m args below meth c 6 D cI cB ad shsM A (MQ below (cQ D cI cB ad shsM (some (.int (i32 r))) S' A) args s 0 0 A) 108 [] [] z51) (fun u : Int × Mem => some u = some (r, S')) z48 → Go p l e { frames := 7, cells := 0, slots := 0, locals := 156 } s m args below meth c 6 D cI cB ad shsM A (MQ below (cQ D cI cB ad shsM (some (.int (i32 r))) S' A) args s 0 0 A) 33 [(0, .ref (ad 0)), (1, .int (i32 a1)), (2, .int (i32 (u6.1 + ((u6.2 1 1) * r9)))), (3, .int (i32 t47.1))] [] t47.2 := by
      refine lp_go (fun t47 : Int × Mem => Go p l e { frames := 7, cells := 0, slots := 0, locals := 156 } s m args below meth c 6 D cI cB ad shsM A (MQ below (cQ D cI cB ad shsM (some (.int (i32 r))) S' A) args s 0 0 A) 33 [(0, .ref (ad 0)), (1, .int (i32 a1)), (2, .int (i32 (u6.1 + ((u6.2 1 1) * r9)))), (3, .int (i32 t47.1))] [] t47.2) (fun z48 : (Mem) ⊕ (Int × Mem) => lpG (fun z51 : Mem => Go p l e { frames := 7, cells := 0, slots := 0, locals := 156 } s m args below meth c 6 D cI cB ad shsM A (MQ below (cQ D cI cB ad shsM (some (.int (i32 r))) S' A) args s 0 0 A) 108 [] [] z51) (fun u : Int × Mem => some u = some (r, S')) z48) ?_
      intro t47 x49 h hx50
      unfold f_X8_blocks_l33 at h
      refine go_iload_n (pc := 33) X 3 dX8_blocks_33 rfl rfl ?_
      refine go_aload_n (pc := 34) X 0 dX8_blocks_34 rfl rfl ?_
      obtain ⟨r52, h53, h⟩ := bind_some h
      refine go_callVi (pc := 35) X 0 [.int (i32 t47.1)] (ct_X8_everybody h53) sh8 rfl gg_X8_153 hd_X8_everybody ⟨Nat.le_of_ble_eq_true rfl, Nat.le_of_ble_eq_true rfl⟩ rfl rfl (Nat.le_of_ble_eq_true rfl) dX8_blocks_35 ?_
      refine go_icmp_gt (pc := 38) X 108 dX8_blocks_38 rfl (fun c54 => ?_) (fun c54 => ?_)
      · rw [if_pos c54] at h
        refine go_pick [] (Ls' := []) rfl ?_
        exact lp_back h hx50
      · rw [if_neg c54] at h
        refine go_iload_n (pc := 41) X 2 dX8_blocks_41 rfl rfl ?_
        refine go_istore (pc := 42) X [1, 2, 3, 4, 0] (Ls' := [(0, .ref (ad 0)), (1, .int (i32 a1)), (2, .int (i32 (u6.1 + ((u6.2 1 1) * r9)))), (3, .int (i32 t47.1)), (4, .int (i32 (u6.1 + ((u6.2 1 1) * r9))))]) dX8_blocks_42 (by decide) rfl ?_
        refine go_iconst (pc := 44) X dX8_blocks_44 ?_
        refine go_istore (pc := 45) X [1, 2, 3, 4, 5, 0] (Ls' := [(0, .ref (ad 0)), (1, .int (i32 a1)), (2, .int (i32 (u6.1 + ((u6.2 1 1) * r9)))), (3, .int (i32 t47.1)), (4, .int (i32 (u6.1 + ((u6.2 1 1) * r9)))), (5, .int (i32 0))]) dX8_blocks_45 (by decide) rfl ?_
        obtain ⟨r55, h56, h⟩ := bind_some h
        have H57 : ∀ (n : Nat) (t58 : Int × Int × Mem) (z59 : Int × Mem), lp (f_X8_blocks_l47 a1 (u6.1 + ((u6.2 1 1) * r9)) t47.1) n t58 = some z59 → Go p l e { frames := 7, cells := 0, slots := 0, locals := 156 } s m args below meth c 6 D cI cB ad shsM A (MQ below (cQ D cI cB ad shsM (some (.int (i32 r))) S' A) args s 0 0 A) 84 [(0, .ref (ad 0)), (1, .int (i32 a1)), (2, .int (i32 (u6.1 + ((u6.2 1 1) * r9)))), (3, .int (i32 t47.1)), (4, .int (i32 z59.1))] [] z59.2 → Go p l e { frames := 7, cells := 0, slots := 0, locals := 156 } s m args below meth c 6 D cI cB ad shsM A (MQ below (cQ D cI cB ad shsM (some (.int (i32 r))) S' A) args s 0 0 A) 47 [(0, .ref (ad 0)), (1, .int (i32 a1)), (2, .int (i32 (u6.1 + ((u6.2 1 1) * r9)))), (3, .int (i32 t47.1)), (4, .int (i32 t58.1)), (5, .int (i32 t58.2.1))] [] t58.2.2 := by
          refine lp_go (fun t58 : Int × Int × Mem => Go p l e { frames := 7, cells := 0, slots := 0, locals := 156 } s m args below meth c 6 D cI cB ad shsM A (MQ below (cQ D cI cB ad shsM (some (.int (i32 r))) S' A) args s 0 0 A) 47 [(0, .ref (ad 0)), (1, .int (i32 a1)), (2, .int (i32 (u6.1 + ((u6.2 1 1) * r9)))), (3, .int (i32 t47.1)), (4, .int (i32 t58.1)), (5, .int (i32 t58.2.1))] [] t58.2.2) (fun z59 : Int × Mem => Go p l e { frames := 7, cells := 0, slots := 0, locals := 156 } s m args below meth c 6 D cI cB ad shsM A (MQ below (cQ D cI cB ad shsM (some (.int (i32 r))) S' A) args s 0 0 A) 84 [(0, .ref (ad 0)), (1, .int (i32 a1)), (2, .int (i32 (u6.1 + ((u6.2 1 1) * r9)))), (3, .int (i32 t47.1)), (4, .int (i32 z59.1))] [] z59.2) ?_
          intro t58 x60 h hx61
          unfold f_X8_blocks_l47 at h
          refine go_iload (pc := 47) X 5 dX8_blocks_47 rfl ?_
          refine go_aload_n (pc := 49) X 0 dX8_blocks_49 rfl rfl ?_
          obtain ⟨r63, h64, h⟩ := bind_some h
          refine go_callVi (pc := 50) X 0 [.int (i32 t58.2.1)] (ct_X8_many h64) sh8 rfl gg_X8_61 hd_X8_many ⟨Nat.le_of_ble_eq_true rfl, Nat.le_of_ble_eq_true rfl⟩ rfl rfl (Nat.le_of_ble_eq_true rfl) dX8_blocks_50 ?_
          refine go_icmp_ge (pc := 53) X 84 dX8_blocks_53 rfl (fun c65 => ?_) (fun c65 => ?_)
          · rw [if_neg c65] at h
            refine go_pick [0, 1, 2, 3, 4] (Ls' := [(0, .ref (ad 0)), (1, .int (i32 a1)), (2, .int (i32 (u6.1 + ((u6.2 1 1) * r9)))), (3, .int (i32 t47.1)), (4, .int (i32 t58.1))]) rfl ?_
            exact lp_back h hx61
          · rw [if_pos c65] at h
            refine go_iload_n (pc := 56) X 3 dX8_blocks_56 rfl rfl ?_
            refine go_iload (pc := 57) X 5 dX8_blocks_57 rfl ?_
            refine go_ishr (pc := 59) X dX8_blocks_59 ?_
            refine go_iconst (pc := 60) X dX8_blocks_60 ?_
            refine go_iand (pc := 61) X dX8_blocks_61 ?_
            refine go_iconst (pc := 62) X dX8_blocks_62 ?_
            obtain ⟨j66, h67, h⟩ := bind_some h
            have k68 : Go p l e { frames := 7, cells := 0, slots := 0, locals := 156 } s m args below meth c 6 D cI cB ad shsM A (MQ below (cQ D cI cB ad shsM (some (.int (i32 r))) S' A) args s 0 0 A) 78 [(0, .ref (ad 0)), (1, .int (i32 a1)), (2, .int (i32 (u6.1 + ((u6.2 1 1) * r9)))), (3, .int (i32 t47.1)), (4, .int (i32 j66.1)), (5, .int (i32 t58.2.1))] [] j66.2 := by
              refine go_iinc (pc := 78) X [1, 2, 3, 4, 5, 0] 5 (Ls' := [(0, .ref (ad 0)), (1, .int (i32 a1)), (2, .int (i32 (u6.1 + ((u6.2 1 1) * r9)))), (3, .int (i32 t47.1)), (4, .int (i32 j66.1)), (5, .int (i32 (t58.2.1 + 1)))]) dX8_blocks_78 rfl (by decide) rfl ?_
              refine go_goto (pc := 81) X 47 dX8_blocks_81 rfl ?_
              exact lp_back h hx61
            refine go_icmp_ne (pc := 63) X 78 dX8_blocks_63 rfl (fun c69 => ?_) (fun c69 => ?_)
            · rw [if_neg c69] at h67
              cases h67
              exact k68
            · rw [if_pos c69] at h67
              refine go_iload (pc := 66) X 4 dX8_blocks_66 rfl ?_
              refine go_aload_n (pc := 68) X 0 dX8_blocks_68 rfl rfl ?_
              refine go_iload (pc := 69) X 5 dX8_blocks_69 rfl ?_
              refine go_iload_n (pc := 71) X 1 dX8_blocks_71 rfl rfl ?_
              obtain ⟨u70, h71, h67⟩ := bind_some h67
              refine go_callVi (pc := 72) X 2 [.int (i32 t58.1)] (ct_X8_gainOf h71) sh8 rfl gg_X8_181 hd_X8_gainOf ⟨Nat.le_of_ble_eq_true rfl, Nat.le_of_ble_eq_true rfl⟩ rfl rfl (Nat.le_of_ble_eq_true rfl) dX8_blocks_72 ?_
              refine go_iadd (pc := 75) X dX8_blocks_75 ?_
              refine go_istore (pc := 76) X [1, 2, 3, 4, 0, 5] (Ls' := [(0, .ref (ad 0)), (1, .int (i32 a1)), (2, .int (i32 (u6.1 + ((u6.2 1 1) * r9)))), (3, .int (i32 t47.1)), (4, .int (i32 (t58.1 + u70.1))), (5, .int (i32 t58.2.1))]) dX8_blocks_76 (by decide) rfl ?_
              cases h67
              exact k68
        refine H57 FU (u6.1 + ((u6.2 1 1) * r9), 0, t47.2) r55 h56 ?_
        refine go_aload_n (pc := 84) X 0 dX8_blocks_84 rfl rfl ?_
        refine go_iload_n (pc := 85) X 3 dX8_blocks_85 rfl rfl ?_
        refine go_aload_n (pc := 86) X 0 dX8_blocks_86 rfl rfl ?_
        refine go_getr (pc := 87) X (fk := 1) sh8 rfl inT_X8 (by decide) fL_X8_13 rfl dX8_blocks_87 ?_
        refine go_iconst (pc := 90) X dX8_blocks_90 ?_
        obtain ⟨g72, h⟩ := gd_some h
        refine go_iald (pc := 91) X shM1 (Nat.le_of_ble_eq_true rfl) rfl g72 dX8_blocks_91 ?_
        obtain ⟨u73, h74, h⟩ := bind_some h
        refine go_callVi (pc := 92) X 2 [] (ct_X8_worthTo h74) sh8 rfl gg_X8_156 hd_X8_worthTo ⟨Nat.le_of_ble_eq_true rfl, Nat.le_of_ble_eq_true rfl⟩ rfl rfl (Nat.le_of_ble_eq_true rfl) dX8_blocks_92 ?_
        refine go_iload (pc := 95) X 4 dX8_blocks_95 rfl ?_
        refine go_icmp_le (pc := 97) X 102 dX8_blocks_97 rfl (fun c75 => ?_) (fun c75 => ?_)
        · rw [if_neg c75] at h
          refine go_iinc (pc := 102) X [1, 2, 3, 0, 4] 3 (Ls' := [(0, .ref (ad 0)), (1, .int (i32 a1)), (2, .int (i32 (u6.1 + ((u6.2 1 1) * r9)))), (3, .int (i32 (t47.1 + 1))), (4, .int (i32 r55.1))]) dX8_blocks_102 rfl (by decide) rfl ?_
          refine go_goto (pc := 105) X 33 dX8_blocks_105 rfl ?_
          refine go_pick [0, 1, 2, 3] (Ls' := [(0, .ref (ad 0)), (1, .int (i32 a1)), (2, .int (i32 (u6.1 + ((u6.2 1 1) * r9)))), (3, .int (i32 (t47.1 + 1)))]) rfl ?_
          exact lp_back h hx50
        · rw [if_pos c75] at h
          refine go_iload_n (pc := 100) X 3 dX8_blocks_100 rfl rfl ?_
          exact go_iret (pc := 101) X (lp_back h hx50) dX8_blocks_101
    refine H46 FU (1, u6.2) r44 h45 ?_
    cases r44 with
    | inl r76 =>
      have h := lct_l h
      refine lpG_l ?_
      refine go_bipush (pc := 108) X dX8_blocks_108 (by decide) (by decide) ?_
      exact go_iret (pc := 110) X h dX8_blocks_110
    | inr u77 =>
      have h := lct_r h
      refine lpG_r ?_
      exact h
  · rw [if_pos c3] at h
    refine go_iconst (pc := 7) X dX8_blocks_7 ?_
    exact go_iret (pc := 8) X h dX8_blocks_8
set_option maxRecDepth 100000 in
set_option maxHeartbeats 4000000 in
theorem ct_X8_toldBy {l : Launch} {D : va_G} {cI cB : ClassId} {Z : (Nat → Nat) × (Nat → Nat)} {ad : Nat → Nat} {S : Mem} {a1 : Int} {a2 : Int} {a3 : Int} {r : Int} {S' : Mem} (h : f_X8_toldBy S a1 a2 a3 = some (r, S')) : Ctr l D cI cB Z ad shsM yX8_toldBy cX8_toldBy 6 (some .int) 8 180 [.ref (ad 0), .int (i32 a1), .int (i32 a2), .int (i32 a3)] S (some (.int (i32 r))) S' := by
  refine ctr_of (by decide +kernel) (Nat.le_of_ble_eq_true rfl) rfl ?_
  intro p e s m args below meth c A X
  unfold f_X8_toldBy at h
  refine go_aload_n (pc := 0) X 0 dX8_toldBy_0 rfl rfl ?_
  refine go_getr (pc := 1) X (fk := 1) sh8 rfl inT_X8 (by decide) fL_X8_13 rfl dX8_toldBy_1 ?_
  refine go_iload_n (pc := 4) X 1 dX8_toldBy_4 rfl rfl ?_
  obtain ⟨g1, h⟩ := gd_some h
  refine go_iald (pc := 5) X shM1 (Nat.le_of_ble_eq_true rfl) rfl g1 dX8_toldBy_5 ?_
  refine go_istore (pc := 6) X [1, 2, 3, 4, 0] (Ls' := [(0, .ref (ad 0)), (1, .int (i32 a1)), (2, .int (i32 a2)), (3, .int (i32 a3)), (4, .int (i32 (S 1 a1)))]) dX8_toldBy_6 (by decide) rfl ?_
  refine go_aload_n (pc := 8) X 0 dX8_toldBy_8 rfl rfl ?_
  refine go_getr (pc := 9) X (fk := 1) sh8 rfl inT_X8 (by decide) fL_X8_13 rfl dX8_toldBy_9 ?_
  refine go_iload_n (pc := 12) X 1 dX8_toldBy_12 rfl rfl ?_
  refine go_iload_n (pc := 13) X 2 dX8_toldBy_13 rfl rfl ?_
  obtain ⟨S2, e3, h⟩ := wrk_some h
  refine go_iastE (pc := 14) X e3 shM1 (Nat.le_of_ble_eq_true rfl) rfl g1 dX8_toldBy_14 ?_
  refine go_aload_n (pc := 15) X 0 dX8_toldBy_15 rfl rfl ?_
  refine go_iload_n (pc := 16) X 3 dX8_toldBy_16 rfl rfl ?_
  obtain ⟨u4, h5, h⟩ := bind_some h
  refine go_callVi (pc := 17) X 1 [] (ct_X8_told h5) sh8 rfl gg_X8_190 hd_X8_told ⟨Nat.le_of_ble_eq_true rfl, Nat.le_of_ble_eq_true rfl⟩ rfl rfl (Nat.le_of_ble_eq_true rfl) dX8_toldBy_17 ?_
  refine go_istore (pc := 20) X [1, 2, 3, 4, 5, 0] (Ls' := [(0, .ref (ad 0)), (1, .int (i32 a1)), (2, .int (i32 a2)), (3, .int (i32 a3)), (4, .int (i32 (S 1 a1))), (5, .int (i32 u4.1))]) dX8_toldBy_20 (by decide) rfl ?_
  refine go_aload_n (pc := 22) X 0 dX8_toldBy_22 rfl rfl ?_
  refine go_getr (pc := 23) X (fk := 1) sh8 rfl inT_X8 (by decide) fL_X8_13 rfl dX8_toldBy_23 ?_
  refine go_iload_n (pc := 26) X 1 dX8_toldBy_26 rfl rfl ?_
  refine go_iload (pc := 27) X 4 dX8_toldBy_27 rfl ?_
  obtain ⟨S6, e7, h⟩ := wrk_some h
  refine go_iastE (pc := 29) X e7 shM1 (Nat.le_of_ble_eq_true rfl) rfl g1 dX8_toldBy_29 ?_
  refine go_iload (pc := 30) X 5 dX8_toldBy_30 rfl ?_
  exact go_iret (pc := 32) X h dX8_toldBy_32
set_option maxRecDepth 100000 in
set_option maxHeartbeats 4000000 in
theorem ct_X8_bySupply {l : Launch} {D : va_G} {cI cB : ClassId} {Z : (Nat → Nat) × (Nat → Nat)} {ad : Nat → Nat} {S : Mem} {a1 : Int} {a2 : Int} {r : Int} {S' : Mem} (h : f_X8_bySupply S a1 a2 = some (r, S')) : Ctr l D cI cB Z ad shsM yX8_bySupply cX8_bySupply 3 (some .int) 9 205 [.ref (ad 0), .int (i32 a1), .int (i32 a2)] S (some (.int (i32 r))) S' := by
  refine ctr_of (by decide +kernel) (Nat.le_of_ble_eq_true rfl) rfl ?_
  intro p e s m args below meth c A X
  unfold f_X8_bySupply at h
  refine go_iload_n (pc := 0) X 1 dX8_bySupply_0 rfl rfl ?_
  refine go_iconst (pc := 1) X dX8_bySupply_1 ?_
  refine go_bipush (pc := 2) X dX8_bySupply_2 (by decide) (by decide) ?_
  obtain ⟨r1, h2, h⟩ := bind_some h
  refine go_callSi (pc := 4) X 3 [] (ct_X8_in h2) gg_X8_65 hd_X8_in ⟨Nat.le_of_ble_eq_true rfl, Nat.le_of_ble_eq_true rfl⟩ rfl rfl (Nat.le_of_ble_eq_true rfl) dX8_bySupply_4 ?_
  refine go_if_eq (pc := 7) X 27 dX8_bySupply_7 rfl (fun c3 => ?_) (fun c3 => ?_)
  · rw [if_pos c3] at h
    refine go_iconst (pc := 27) X dX8_bySupply_27 ?_
    exact go_iret (pc := 28) X h dX8_bySupply_28
  · rw [if_neg c3] at h
    refine go_iload_n (pc := 10) X 2 dX8_bySupply_10 rfl rfl ?_
    obtain ⟨r4, h5, h⟩ := bind_some h
    refine go_callSi (pc := 11) X 1 [] (ct_X8_isResult h5) gg_X8_187 hd_X8_isResult ⟨Nat.le_of_ble_eq_true rfl, Nat.le_of_ble_eq_true rfl⟩ rfl rfl (Nat.le_of_ble_eq_true rfl) dX8_bySupply_11 ?_
    refine go_if_eq (pc := 14) X 27 dX8_bySupply_14 rfl (fun c6 => ?_) (fun c6 => ?_)
    · rw [if_pos c6] at h
      refine go_iconst (pc := 27) X dX8_bySupply_27 ?_
      exact go_iret (pc := 28) X h dX8_bySupply_28
    · rw [if_neg c6] at h
      refine go_aload_n (pc := 17) X 0 dX8_bySupply_17 rfl rfl ?_
      refine go_iconst (pc := 18) X dX8_bySupply_18 ?_
      refine go_iload_n (pc := 19) X 1 dX8_bySupply_19 rfl rfl ?_
      refine go_iload_n (pc := 20) X 2 dX8_bySupply_20 rfl rfl ?_
      obtain ⟨u7, h8, h⟩ := bind_some h
      refine go_callVi (pc := 21) X 3 [] (ct_X8_toldBy h8) sh8 rfl gg_X8_193 hd_X8_toldBy ⟨Nat.le_of_ble_eq_true rfl, Nat.le_of_ble_eq_true rfl⟩ rfl rfl (Nat.le_of_ble_eq_true rfl) dX8_bySupply_21 ?_
      refine go_goto (pc := 24) X 28 dX8_bySupply_24 rfl ?_
      exact go_iret (pc := 28) X h dX8_bySupply_28
set_option maxRecDepth 100000 in
set_option maxHeartbeats 4000000 in
theorem ct_X8_byReserve {l : Launch} {D : va_G} {cI cB : ClassId} {Z : (Nat → Nat) × (Nat → Nat)} {ad : Nat → Nat} {S : Mem} {a1 : Int} {a2 : Int} {r : Int} {S' : Mem} (h : f_X8_byReserve S a1 a2 = some (r, S')) : Ctr l D cI cB Z ad shsM yX8_byReserve cX8_byReserve 3 (some .int) 9 205 [.ref (ad 0), .int (i32 a1), .int (i32 a2)] S (some (.int (i32 r))) S' := by
  refine ctr_of (by decide +kernel) (Nat.le_of_ble_eq_true rfl) rfl ?_
  intro p e s m args below meth c A X
  unfold f_X8_byReserve at h
  refine go_iload_n (pc := 0) X 1 dX8_byReserve_0 rfl rfl ?_
  obtain ⟨r1, h2, h⟩ := bind_some h
  refine go_callSi (pc := 1) X 1 [] (ct_X8_isPrice h2) gg_X8_98 hd_X8_isPrice ⟨Nat.le_of_ble_eq_true rfl, Nat.le_of_ble_eq_true rfl⟩ rfl rfl (Nat.le_of_ble_eq_true rfl) dX8_byReserve_1 ?_
  refine go_if_eq (pc := 4) X 24 dX8_byReserve_4 rfl (fun c3 => ?_) (fun c3 => ?_)
  · rw [if_pos c3] at h
    refine go_iconst (pc := 24) X dX8_byReserve_24 ?_
    exact go_iret (pc := 25) X h dX8_byReserve_25
  · rw [if_neg c3] at h
    refine go_iload_n (pc := 7) X 2 dX8_byReserve_7 rfl rfl ?_
    obtain ⟨r4, h5, h⟩ := bind_some h
    refine go_callSi (pc := 8) X 1 [] (ct_X8_isResult h5) gg_X8_187 hd_X8_isResult ⟨Nat.le_of_ble_eq_true rfl, Nat.le_of_ble_eq_true rfl⟩ rfl rfl (Nat.le_of_ble_eq_true rfl) dX8_byReserve_8 ?_
    refine go_if_eq (pc := 11) X 24 dX8_byReserve_11 rfl (fun c6 => ?_) (fun c6 => ?_)
    · rw [if_pos c6] at h
      refine go_iconst (pc := 24) X dX8_byReserve_24 ?_
      exact go_iret (pc := 25) X h dX8_byReserve_25
    · rw [if_neg c6] at h
      refine go_aload_n (pc := 14) X 0 dX8_byReserve_14 rfl rfl ?_
      refine go_iconst (pc := 15) X dX8_byReserve_15 ?_
      refine go_iload_n (pc := 16) X 1 dX8_byReserve_16 rfl rfl ?_
      refine go_iload_n (pc := 17) X 2 dX8_byReserve_17 rfl rfl ?_
      obtain ⟨u7, h8, h⟩ := bind_some h
      refine go_callVi (pc := 18) X 3 [] (ct_X8_toldBy h8) sh8 rfl gg_X8_193 hd_X8_toldBy ⟨Nat.le_of_ble_eq_true rfl, Nat.le_of_ble_eq_true rfl⟩ rfl rfl (Nat.le_of_ble_eq_true rfl) dX8_byReserve_18 ?_
      refine go_goto (pc := 21) X 25 dX8_byReserve_21 rfl ?_
      exact go_iret (pc := 25) X h dX8_byReserve_25
set_option maxRecDepth 100000 in
set_option maxHeartbeats 4000000 in
theorem ct_X8_bestReserve {l : Launch} {D : va_G} {cI cB : ClassId} {Z : (Nat → Nat) × (Nat → Nat)} {ad : Nat → Nat} {S : Mem} {a1 : Int} {r : Int} {S' : Mem} (h : f_X8_bestReserve S a1 = some (r, S')) : Ctr l D cI cB Z ad shsM yX8_bestReserve cX8_bestReserve 7 (some .int) 7 156 [.ref (ad 0), .int (i32 a1)] S (some (.int (i32 r))) S' := by
  refine ctr_of (by decide +kernel) (Nat.le_of_ble_eq_true rfl) rfl ?_
  intro p e s m args below meth c A X
  unfold f_X8_bestReserve at h
  refine go_iload_n (pc := 0) X 1 dX8_bestReserve_0 rfl rfl ?_
  obtain ⟨r1, h2, h⟩ := bind_some h
  refine go_callSi (pc := 1) X 1 [] (ct_X8_isKind h2) gg_X8_168 hd_X8_isKind ⟨Nat.le_of_ble_eq_true rfl, Nat.le_of_ble_eq_true rfl⟩ rfl rfl (Nat.le_of_ble_eq_true rfl) dX8_bestReserve_1 ?_
  refine go_if_ne (pc := 4) X 9 dX8_bestReserve_4 rfl (fun c3 => ?_) (fun c3 => ?_)
  · rw [if_neg c3] at h
    refine go_aload_n (pc := 9) X 0 dX8_bestReserve_9 rfl rfl ?_
    refine go_getr (pc := 10) X (fk := 1) sh8 rfl inT_X8 (by decide) fL_X8_13 rfl dX8_bestReserve_10 ?_
    refine go_iconst (pc := 13) X dX8_bestReserve_13 ?_
    obtain ⟨g4, h⟩ := gd_some h
    refine go_iald (pc := 14) X shM1 (Nat.le_of_ble_eq_true rfl) rfl g4 dX8_bestReserve_14 ?_
    refine go_istore_n (pc := 15) X [1, 2, 0] (Ls' := [(0, .ref (ad 0)), (1, .int (i32 a1)), (2, .int (i32 (S 1 1)))]) dX8_bestReserve_15 rfl (by decide) rfl ?_
    refine go_iconst (pc := 16) X dX8_bestReserve_16 ?_
    refine go_istore_n (pc := 17) X [1, 2, 3, 0] (Ls' := [(0, .ref (ad 0)), (1, .int (i32 a1)), (2, .int (i32 (S 1 1))), (3, .int (i32 0))]) dX8_bestReserve_17 rfl (by decide) rfl ?_
    refine go_iconst (pc := 18) X dX8_bestReserve_18 ?_
    refine go_istore (pc := 19) X [1, 2, 3, 4, 0] (Ls' := [(0, .ref (ad 0)), (1, .int (i32 a1)), (2, .int (i32 (S 1 1))), (3, .int (i32 0)), (4, .int (i32 (-1)))]) dX8_bestReserve_19 (by decide) rfl ?_
    refine go_iconst (pc := 21) X dX8_bestReserve_21 ?_
    refine go_istore (pc := 22) X [1, 2, 3, 4, 5, 0] (Ls' := [(0, .ref (ad 0)), (1, .int (i32 a1)), (2, .int (i32 (S 1 1))), (3, .int (i32 0)), (4, .int (i32 (-1))), (5, .int (i32 0))]) dX8_bestReserve_22 (by decide) rfl ?_
    obtain ⟨r17, h18, h⟩ := bind_some h
    have H19 : ∀ (n : Nat) (t20 : Int × Int × Int × Mem) (z21 : Int × Mem), lp (f_X8_bestReserve_l24 a1 (S 1 1)) n t20 = some z21 → Go p l e { frames := 7, cells := 0, slots := 0, locals := 156 } s m args below meth c 7 D cI cB ad shsM A (MQ below (cQ D cI cB ad shsM (some (.int (i32 r))) S' A) args s 0 0 A) 73 [(0, .ref (ad 0)), (2, .int (i32 (S 1 1))), (3, .int (i32 z21.1))] [] z21.2 → Go p l e { frames := 7, cells := 0, slots := 0, locals := 156 } s m args below meth c 7 D cI cB ad shsM A (MQ below (cQ D cI cB ad shsM (some (.int (i32 r))) S' A) args s 0 0 A) 24 [(0, .ref (ad 0)), (1, .int (i32 a1)), (2, .int (i32 (S 1 1))), (3, .int (i32 t20.1)), (4, .int (i32 t20.2.1)), (5, .int (i32 t20.2.2.1))] [] t20.2.2.2 := by
      refine lp_go (fun t20 : Int × Int × Int × Mem => Go p l e { frames := 7, cells := 0, slots := 0, locals := 156 } s m args below meth c 7 D cI cB ad shsM A (MQ below (cQ D cI cB ad shsM (some (.int (i32 r))) S' A) args s 0 0 A) 24 [(0, .ref (ad 0)), (1, .int (i32 a1)), (2, .int (i32 (S 1 1))), (3, .int (i32 t20.1)), (4, .int (i32 t20.2.1)), (5, .int (i32 t20.2.2.1))] [] t20.2.2.2) (fun z21 : Int × Mem => Go p l e { frames := 7, cells := 0, slots := 0, locals := 156 } s m args below meth c 7 D cI cB ad shsM A (MQ below (cQ D cI cB ad shsM (some (.int (i32 r))) S' A) args s 0 0 A) 73 [(0, .ref (ad 0)), (2, .int (i32 (S 1 1))), (3, .int (i32 z21.1))] [] z21.2) ?_
      intro t20 x22 h hx23
      unfold f_X8_bestReserve_l24 at h
      refine go_iload (pc := 24) X 5 dX8_bestReserve_24 rfl ?_
      refine go_bipush (pc := 26) X dX8_bestReserve_26 (by decide) (by decide) ?_
      refine go_icmp_gt (pc := 28) X 73 dX8_bestReserve_28 rfl (fun c25 => ?_) (fun c25 => ?_)
      · rw [if_pos c25] at h
        refine go_pick [0, 2, 3] (Ls' := [(0, .ref (ad 0)), (2, .int (i32 (S 1 1))), (3, .int (i32 t20.1))]) rfl ?_
        exact lp_back h hx23
      · rw [if_neg c25] at h
        refine go_aload_n (pc := 31) X 0 dX8_bestReserve_31 rfl rfl ?_
        refine go_getr (pc := 32) X (fk := 1) sh8 rfl inT_X8 (by decide) fL_X8_13 rfl dX8_bestReserve_32 ?_
        refine go_iconst (pc := 35) X dX8_bestReserve_35 ?_
        refine go_iload (pc := 36) X 5 dX8_bestReserve_36 rfl ?_
        obtain ⟨g26, h⟩ := gd_some h
        obtain ⟨S27, e28, h⟩ := wrk_some h
        refine go_iastE (pc := 38) X e28 shM1 (Nat.le_of_ble_eq_true rfl) rfl g26 dX8_bestReserve_38 ?_
        refine go_aload_n (pc := 39) X 0 dX8_bestReserve_39 rfl rfl ?_
        obtain ⟨S29, h30, h⟩ := bind_some h
        refine go_callVv (pc := 40) X 0 [] (ct_X8_runs h30) sh8 rfl gg_X8_171 hd_X8_runs ⟨Nat.le_of_ble_eq_true rfl, Nat.le_of_ble_eq_true rfl⟩ rfl rfl (Nat.le_of_ble_eq_true rfl) dX8_bestReserve_40 ?_
        refine go_aload_n (pc := 43) X 0 dX8_bestReserve_43 rfl rfl ?_
        refine go_iload_n (pc := 44) X 1 dX8_bestReserve_44 rfl rfl ?_
        obtain ⟨u31, h32, h⟩ := bind_some h
        refine go_callVi (pc := 45) X 1 [] (ct_X8_paidAll h32) sh8 rfl gg_X8_174 hd_X8_paidAll ⟨Nat.le_of_ble_eq_true rfl, Nat.le_of_ble_eq_true rfl⟩ rfl rfl (Nat.le_of_ble_eq_true rfl) dX8_bestReserve_45 ?_
        refine go_istore (pc := 48) X [1, 2, 3, 4, 5, 6, 0] (Ls' := [(0, .ref (ad 0)), (1, .int (i32 a1)), (2, .int (i32 (S 1 1))), (3, .int (i32 t20.1)), (4, .int (i32 t20.2.1)), (5, .int (i32 t20.2.2.1)), (6, .int (i32 u31.1))]) dX8_bestReserve_48 (by decide) rfl ?_
        refine go_iload (pc := 50) X 6 dX8_bestReserve_50 rfl ?_
        refine go_iload (pc := 52) X 4 dX8_bestReserve_52 rfl ?_
        obtain ⟨j33, h34, h⟩ := bind_some h
        have k35 : Go p l e { frames := 7, cells := 0, slots := 0, locals := 156 } s m args below meth c 7 D cI cB ad shsM A (MQ below (cQ D cI cB ad shsM (some (.int (i32 r))) S' A) args s 0 0 A) 67 [(0, .ref (ad 0)), (1, .int (i32 a1)), (2, .int (i32 (S 1 1))), (3, .int (i32 j33.1)), (4, .int (i32 j33.2)), (5, .int (i32 t20.2.2.1))] [] u31.2 := by
          refine go_iinc (pc := 67) X [1, 2, 3, 4, 5, 0] 5 (Ls' := [(0, .ref (ad 0)), (1, .int (i32 a1)), (2, .int (i32 (S 1 1))), (3, .int (i32 j33.1)), (4, .int (i32 j33.2)), (5, .int (i32 (t20.2.2.1 + 1)))]) dX8_bestReserve_67 rfl (by decide) rfl ?_
          refine go_goto (pc := 70) X 24 dX8_bestReserve_70 rfl ?_
          exact lp_back h hx23
        refine go_icmp_gt (pc := 54) X 60 dX8_bestReserve_54 rfl (fun c36 => ?_) (fun c36 => ?_)
        · rw [if_pos c36] at h34
          refine go_iload (pc := 60) X 6 dX8_bestReserve_60 rfl ?_
          refine go_istore (pc := 62) X [1, 2, 3, 4, 0, 5, 6] (Ls' := [(0, .ref (ad 0)), (1, .int (i32 a1)), (2, .int (i32 (S 1 1))), (3, .int (i32 t20.1)), (4, .int (i32 u31.1)), (5, .int (i32 t20.2.2.1)), (6, .int (i32 u31.1))]) dX8_bestReserve_62 (by decide) rfl ?_
          refine go_iload (pc := 64) X 5 dX8_bestReserve_64 rfl ?_
          refine go_istore_n (pc := 66) X [1, 2, 3, 0, 4, 5, 6] (Ls' := [(0, .ref (ad 0)), (1, .int (i32 a1)), (2, .int (i32 (S 1 1))), (3, .int (i32 t20.2.2.1)), (4, .int (i32 u31.1)), (5, .int (i32 t20.2.2.1)), (6, .int (i32 u31.1))]) dX8_bestReserve_66 rfl (by decide) rfl ?_
          cases h34
          refine go_pick [0, 1, 2, 3, 4, 5] (Ls' := [(0, .ref (ad 0)), (1, .int (i32 a1)), (2, .int (i32 (S 1 1))), (3, .int (i32 t20.2.2.1)), (4, .int (i32 u31.1)), (5, .int (i32 t20.2.2.1))]) rfl ?_
          exact k35
        · rw [if_neg c36] at h34
          refine go_goto (pc := 57) X 67 dX8_bestReserve_57 rfl ?_
          cases h34
          refine go_pick [0, 1, 2, 3, 4, 5] (Ls' := [(0, .ref (ad 0)), (1, .int (i32 a1)), (2, .int (i32 (S 1 1))), (3, .int (i32 t20.1)), (4, .int (i32 t20.2.1)), (5, .int (i32 t20.2.2.1))]) rfl ?_
          exact k35
    refine H19 FU (0, (-1), 0, S) r17 h18 ?_
    refine go_aload_n (pc := 73) X 0 dX8_bestReserve_73 rfl rfl ?_
    refine go_getr (pc := 74) X (fk := 1) sh8 rfl inT_X8 (by decide) fL_X8_13 rfl dX8_bestReserve_74 ?_
    refine go_iconst (pc := 77) X dX8_bestReserve_77 ?_
    refine go_iload_n (pc := 78) X 1 dX8_bestReserve_78 rfl rfl ?_
    obtain ⟨g37, h⟩ := gd_some h
    obtain ⟨S38, e39, h⟩ := wrk_some h
    refine go_iastE (pc := 79) X e39 shM1 (Nat.le_of_ble_eq_true rfl) rfl g37 dX8_bestReserve_79 ?_
    refine go_iload_n (pc := 80) X 2 dX8_bestReserve_80 rfl rfl ?_
    exact go_iret (pc := 81) X h dX8_bestReserve_81
  · rw [if_pos c3] at h
    refine go_iconst (pc := 7) X dX8_bestReserve_7 ?_
    exact go_iret (pc := 8) X h dX8_bestReserve_8
set_option maxRecDepth 100000 in
set_option maxHeartbeats 4000000 in
theorem ct_X8_unitsWithout {l : Launch} {D : va_G} {cI cB : ClassId} {Z : (Nat → Nat) × (Nat → Nat)} {ad : Nat → Nat} {S : Mem} {a1 : Int} {a2 : Int} {r : Int} {S' : Mem} (h : f_X8_unitsWithout S a1 a2 = some (r, S')) : Ctr l D cI cB Z ad shsM yX8_unitsWithout cX8_unitsWithout 3 (some .int) 7 156 [.ref (ad 0), .int (i32 a1), .int (i32 a2)] S (some (.int (i32 r))) S' := by
  refine ctr_of (by decide +kernel) (Nat.le_of_ble_eq_true rfl) rfl ?_
  intro p e s m args below meth c A X
  unfold f_X8_unitsWithout at h
  refine go_aload_n (pc := 0) X 0 dX8_unitsWithout_0 rfl rfl ?_
  refine go_iload_n (pc := 1) X 1 dX8_unitsWithout_1 rfl rfl ?_
  obtain ⟨r1, h2, h⟩ := bind_some h
  refine go_callVi (pc := 2) X 1 [] (ct_X8_isBidder h2) sh8 rfl gg_X8_90 hd_X8_isBidder ⟨Nat.le_of_ble_eq_true rfl, Nat.le_of_ble_eq_true rfl⟩ rfl rfl (Nat.le_of_ble_eq_true rfl) dX8_unitsWithout_2 ?_
  refine go_if_eq (pc := 5) X 21 dX8_unitsWithout_5 rfl (fun c3 => ?_) (fun c3 => ?_)
  · rw [if_pos c3] at h
    refine go_iconst (pc := 21) X dX8_unitsWithout_21 ?_
    exact go_iret (pc := 22) X h dX8_unitsWithout_22
  · rw [if_neg c3] at h
    refine go_aload_n (pc := 8) X 0 dX8_unitsWithout_8 rfl rfl ?_
    refine go_iload_n (pc := 9) X 2 dX8_unitsWithout_9 rfl rfl ?_
    obtain ⟨r4, h5, h⟩ := bind_some h
    refine go_callVi (pc := 10) X 1 [] (ct_X8_isBidder h5) sh8 rfl gg_X8_90 hd_X8_isBidder ⟨Nat.le_of_ble_eq_true rfl, Nat.le_of_ble_eq_true rfl⟩ rfl rfl (Nat.le_of_ble_eq_true rfl) dX8_unitsWithout_10 ?_
    refine go_if_eq (pc := 13) X 21 dX8_unitsWithout_13 rfl (fun c6 => ?_) (fun c6 => ?_)
    · rw [if_pos c6] at h
      refine go_iconst (pc := 21) X dX8_unitsWithout_21 ?_
      exact go_iret (pc := 22) X h dX8_unitsWithout_22
    · rw [if_neg c6] at h
      refine go_iload_n (pc := 16) X 1 dX8_unitsWithout_16 rfl rfl ?_
      refine go_iload_n (pc := 17) X 2 dX8_unitsWithout_17 rfl rfl ?_
      refine go_icmp_ne (pc := 18) X 23 dX8_unitsWithout_18 rfl (fun c7 => ?_) (fun c7 => ?_)
      · rw [if_neg c7] at h
        refine go_aload_n (pc := 23) X 0 dX8_unitsWithout_23 rfl rfl ?_
        obtain ⟨S8, h9, h⟩ := bind_some h
        refine go_callVv (pc := 24) X 0 [] (ct_X8_putsAside h9) sh8 rfl gg_X8_197 hd_X8_putsAside ⟨Nat.le_of_ble_eq_true rfl, Nat.le_of_ble_eq_true rfl⟩ rfl rfl (Nat.le_of_ble_eq_true rfl) dX8_unitsWithout_24 ?_
        refine go_aload_n (pc := 27) X 0 dX8_unitsWithout_27 rfl rfl ?_
        refine go_iload_n (pc := 28) X 2 dX8_unitsWithout_28 rfl rfl ?_
        obtain ⟨S10, h11, h⟩ := bind_some h
        refine go_callVv (pc := 29) X 1 [] (ct_X8_goes h11) sh8 rfl gg_X8_94 hd_X8_goes ⟨Nat.le_of_ble_eq_true rfl, Nat.le_of_ble_eq_true rfl⟩ rfl rfl (Nat.le_of_ble_eq_true rfl) dX8_unitsWithout_29 ?_
        refine go_aload_n (pc := 32) X 0 dX8_unitsWithout_32 rfl rfl ?_
        obtain ⟨S12, h13, h⟩ := bind_some h
        refine go_callVv (pc := 33) X 0 [] (ct_X8_runs h13) sh8 rfl gg_X8_171 hd_X8_runs ⟨Nat.le_of_ble_eq_true rfl, Nat.le_of_ble_eq_true rfl⟩ rfl rfl (Nat.le_of_ble_eq_true rfl) dX8_unitsWithout_33 ?_
        refine go_aload_n (pc := 36) X 0 dX8_unitsWithout_36 rfl rfl ?_
        obtain ⟨S14, h15, h⟩ := bind_some h
        refine go_callVv (pc := 37) X 0 [] (ct_X8_takesBack h15) sh8 rfl gg_X8_200 hd_X8_takesBack ⟨Nat.le_of_ble_eq_true rfl, Nat.le_of_ble_eq_true rfl⟩ rfl rfl (Nat.le_of_ble_eq_true rfl) dX8_unitsWithout_37 ?_
        refine go_aload_n (pc := 40) X 0 dX8_unitsWithout_40 rfl rfl ?_
        refine go_getr (pc := 41) X (fk := 6) sh8 rfl inT_X8 (by decide) fL_X8_26 rfl dX8_unitsWithout_41 ?_
        refine go_iload_n (pc := 44) X 2 dX8_unitsWithout_44 rfl rfl ?_
        refine go_iload_n (pc := 45) X 1 dX8_unitsWithout_45 rfl rfl ?_
        obtain ⟨j16, h17, h⟩ := bind_some h
        have k18 : Go p l e { frames := 7, cells := 0, slots := 0, locals := 156 } s m args below meth c 3 D cI cB ad shsM A (MQ below (cQ D cI cB ad shsM (some (.int (i32 r))) S' A) args s 0 0 A) 56 [] [.int (i32 j16), .ref (ad 5)] S14 := by
          obtain ⟨g19, h⟩ := gd_some h
          refine go_iald (pc := 56) X shM5 (Nat.le_of_ble_eq_true rfl) rfl g19 dX8_unitsWithout_56 ?_
          exact go_iret (pc := 57) X h dX8_unitsWithout_57
        refine go_icmp_ge (pc := 46) X 55 dX8_unitsWithout_46 rfl (fun c20 => ?_) (fun c20 => ?_)
        · rw [if_neg c20] at h17
          refine go_iload_n (pc := 55) X 1 dX8_unitsWithout_55 rfl rfl ?_
          cases h17
          refine go_pick [] (Ls' := []) rfl ?_
          exact k18
        · rw [if_pos c20] at h17
          refine go_iload_n (pc := 49) X 1 dX8_unitsWithout_49 rfl rfl ?_
          refine go_iconst (pc := 50) X dX8_unitsWithout_50 ?_
          refine go_isub (pc := 51) X dX8_unitsWithout_51 ?_
          refine go_goto (pc := 52) X 56 dX8_unitsWithout_52 rfl ?_
          cases h17
          refine go_pick [] (Ls' := []) rfl ?_
          exact k18
      · rw [if_pos c7] at h
        refine go_iconst (pc := 21) X dX8_unitsWithout_21 ?_
        exact go_iret (pc := 22) X h dX8_unitsWithout_22
set_option maxRecDepth 100000 in
set_option maxHeartbeats 4000000 in
theorem ct_X8_paidBut {l : Launch} {D : va_G} {cI cB : ClassId} {Z : (Nat → Nat) × (Nat → Nat)} {ad : Nat → Nat} {S : Mem} {a1 : Int} {a2 : Int} {r : Int} {S' : Mem} (h : f_X8_paidBut S a1 a2 = some (r, S')) : Ctr l D cI cB Z ad shsM yX8_paidBut cX8_paidBut 4 (some .int) 7 156 [.ref (ad 0), .int (i32 a1), .int (i32 a2)] S (some (.int (i32 r))) S' := by
  refine ctr_of (by decide +kernel) (Nat.le_of_ble_eq_true rfl) rfl ?_
  intro p e s m args below meth c A X
  unfold f_X8_paidBut at h
  refine go_aload_n (pc := 0) X 0 dX8_paidBut_0 rfl rfl ?_
  obtain ⟨S1, h2, h⟩ := bind_some h
  refine go_callVv (pc := 1) X 0 [] (ct_X8_putsAside h2) sh8 rfl gg_X8_197 hd_X8_putsAside ⟨Nat.le_of_ble_eq_true rfl, Nat.le_of_ble_eq_true rfl⟩ rfl rfl (Nat.le_of_ble_eq_true rfl) dX8_paidBut_1 ?_
  refine go_aload_n (pc := 4) X 0 dX8_paidBut_4 rfl rfl ?_
  refine go_iload_n (pc := 5) X 1 dX8_paidBut_5 rfl rfl ?_
  obtain ⟨S3, h4, h⟩ := bind_some h
  refine go_callVv (pc := 6) X 1 [] (ct_X8_goes h4) sh8 rfl gg_X8_94 hd_X8_goes ⟨Nat.le_of_ble_eq_true rfl, Nat.le_of_ble_eq_true rfl⟩ rfl rfl (Nat.le_of_ble_eq_true rfl) dX8_paidBut_6 ?_
  refine go_aload_n (pc := 9) X 0 dX8_paidBut_9 rfl rfl ?_
  obtain ⟨S5, h6, h⟩ := bind_some h
  refine go_callVv (pc := 10) X 0 [] (ct_X8_runs h6) sh8 rfl gg_X8_171 hd_X8_runs ⟨Nat.le_of_ble_eq_true rfl, Nat.le_of_ble_eq_true rfl⟩ rfl rfl (Nat.le_of_ble_eq_true rfl) dX8_paidBut_10 ?_
  refine go_aload_n (pc := 13) X 0 dX8_paidBut_13 rfl rfl ?_
  refine go_iload_n (pc := 14) X 2 dX8_paidBut_14 rfl rfl ?_
  obtain ⟨u7, h8, h⟩ := bind_some h
  refine go_callVi (pc := 15) X 1 [] (ct_X8_paidAll h8) sh8 rfl gg_X8_174 hd_X8_paidAll ⟨Nat.le_of_ble_eq_true rfl, Nat.le_of_ble_eq_true rfl⟩ rfl rfl (Nat.le_of_ble_eq_true rfl) dX8_paidBut_15 ?_
  refine go_istore_n (pc := 18) X [1, 2, 3, 0] (Ls' := [(0, .ref (ad 0)), (1, .int (i32 a1)), (2, .int (i32 a2)), (3, .int (i32 u7.1))]) dX8_paidBut_18 rfl (by decide) rfl ?_
  refine go_aload_n (pc := 19) X 0 dX8_paidBut_19 rfl rfl ?_
  obtain ⟨S9, h10, h⟩ := bind_some h
  refine go_callVv (pc := 20) X 0 [] (ct_X8_takesBack h10) sh8 rfl gg_X8_200 hd_X8_takesBack ⟨Nat.le_of_ble_eq_true rfl, Nat.le_of_ble_eq_true rfl⟩ rfl rfl (Nat.le_of_ble_eq_true rfl) dX8_paidBut_20 ?_
  refine go_iload_n (pc := 23) X 3 dX8_paidBut_23 rfl rfl ?_
  exact go_iret (pc := 24) X h dX8_paidBut_24
set_option maxRecDepth 100000 in
set_option maxHeartbeats 4000000 in
theorem ct_X8_paidWithout {l : Launch} {D : va_G} {cI cB : ClassId} {Z : (Nat → Nat) × (Nat → Nat)} {ad : Nat → Nat} {S : Mem} {a1 : Int} {a2 : Int} {r : Int} {S' : Mem} (h : f_X8_paidWithout S a1 a2 = some (r, S')) : Ctr l D cI cB Z ad shsM yX8_paidWithout cX8_paidWithout 3 (some .int) 8 179 [.ref (ad 0), .int (i32 a1), .int (i32 a2)] S (some (.int (i32 r))) S' := by
  refine ctr_of (by decide +kernel) (Nat.le_of_ble_eq_true rfl) rfl ?_
  intro p e s m args below meth c A X
  unfold f_X8_paidWithout at h
  refine go_aload_n (pc := 0) X 0 dX8_paidWithout_0 rfl rfl ?_
  refine go_iload_n (pc := 1) X 1 dX8_paidWithout_1 rfl rfl ?_
  obtain ⟨r1, h2, h⟩ := bind_some h
  refine go_callVi (pc := 2) X 1 [] (ct_X8_isBidder h2) sh8 rfl gg_X8_90 hd_X8_isBidder ⟨Nat.le_of_ble_eq_true rfl, Nat.le_of_ble_eq_true rfl⟩ rfl rfl (Nat.le_of_ble_eq_true rfl) dX8_paidWithout_2 ?_
  refine go_if_eq (pc := 5) X 24 dX8_paidWithout_5 rfl (fun c3 => ?_) (fun c3 => ?_)
  · rw [if_pos c3] at h
    refine go_iconst (pc := 24) X dX8_paidWithout_24 ?_
    exact go_iret (pc := 25) X h dX8_paidWithout_25
  · rw [if_neg c3] at h
    refine go_iload_n (pc := 8) X 2 dX8_paidWithout_8 rfl rfl ?_
    obtain ⟨r4, h5, h⟩ := bind_some h
    refine go_callSi (pc := 9) X 1 [] (ct_X8_isKind h5) gg_X8_168 hd_X8_isKind ⟨Nat.le_of_ble_eq_true rfl, Nat.le_of_ble_eq_true rfl⟩ rfl rfl (Nat.le_of_ble_eq_true rfl) dX8_paidWithout_9 ?_
    refine go_if_eq (pc := 12) X 24 dX8_paidWithout_12 rfl (fun c6 => ?_) (fun c6 => ?_)
    · rw [if_pos c6] at h
      refine go_iconst (pc := 24) X dX8_paidWithout_24 ?_
      exact go_iret (pc := 25) X h dX8_paidWithout_25
    · rw [if_neg c6] at h
      refine go_aload_n (pc := 15) X 0 dX8_paidWithout_15 rfl rfl ?_
      refine go_iload_n (pc := 16) X 1 dX8_paidWithout_16 rfl rfl ?_
      refine go_iload_n (pc := 17) X 2 dX8_paidWithout_17 rfl rfl ?_
      obtain ⟨u7, h8, h⟩ := bind_some h
      refine go_callVi (pc := 18) X 2 [] (ct_X8_paidBut h8) sh8 rfl gg_X8_203 hd_X8_paidBut ⟨Nat.le_of_ble_eq_true rfl, Nat.le_of_ble_eq_true rfl⟩ rfl rfl (Nat.le_of_ble_eq_true rfl) dX8_paidWithout_18 ?_
      refine go_goto (pc := 21) X 25 dX8_paidWithout_21 rfl ?_
      exact go_iret (pc := 25) X h dX8_paidWithout_25
set_option maxRecDepth 100000 in
set_option maxHeartbeats 4000000 in
theorem ct_X8_pivot {l : Launch} {D : va_G} {cI cB : ClassId} {Z : (Nat → Nat) × (Nat → Nat)} {ad : Nat → Nat} {S : Mem} {r : Int} {S' : Mem} (h : f_X8_pivot S = some (r, S')) : Ctr l D cI cB Z ad shsM yX8_pivot cX8_pivot 5 (some .int) 8 179 [.ref (ad 0)] S (some (.int (i32 r))) S' := by
  refine ctr_of (by decide +kernel) (Nat.le_of_ble_eq_true rfl) rfl ?_
  intro p e s m args below meth c A X
  unfold f_X8_pivot at h
  refine go_bipush (pc := 0) X dX8_pivot_0 (by decide) (by decide) ?_
  refine go_istore_n (pc := 2) X [1, 0] (Ls' := [(0, .ref (ad 0)), (1, .int (i32 (-2)))]) dX8_pivot_2 rfl (by decide) rfl ?_
  refine go_iconst (pc := 3) X dX8_pivot_3 ?_
  refine go_istore_n (pc := 4) X [1, 2, 0] (Ls' := [(0, .ref (ad 0)), (1, .int (i32 (-2))), (2, .int (i32 0))]) dX8_pivot_4 rfl (by decide) rfl ?_
  refine go_iconst (pc := 5) X dX8_pivot_5 ?_
  refine go_istore_n (pc := 6) X [1, 2, 3, 0] (Ls' := [(0, .ref (ad 0)), (1, .int (i32 (-2))), (2, .int (i32 0)), (3, .int (i32 0))]) dX8_pivot_6 rfl (by decide) rfl ?_
  obtain ⟨r11, h12, h⟩ := bind_some h
  have H13 : ∀ (n : Nat) (t14 : Int × Int × Int × Mem) (z15 : Int × Mem), lp (f_X8_pivot_l7) n t14 = some z15 → Go p l e { frames := 8, cells := 0, slots := 0, locals := 179 } s m args below meth c 5 D cI cB ad shsM A (MQ below (cQ D cI cB ad shsM (some (.int (i32 r))) S' A) args s 0 0 A) 47 [(1, .int (i32 z15.1))] [] z15.2 → Go p l e { frames := 8, cells := 0, slots := 0, locals := 179 } s m args below meth c 5 D cI cB ad shsM A (MQ below (cQ D cI cB ad shsM (some (.int (i32 r))) S' A) args s 0 0 A) 7 [(0, .ref (ad 0)), (1, .int (i32 t14.1)), (2, .int (i32 t14.2.1)), (3, .int (i32 t14.2.2.1))] [] t14.2.2.2 := by
    refine lp_go (fun t14 : Int × Int × Int × Mem => Go p l e { frames := 8, cells := 0, slots := 0, locals := 179 } s m args below meth c 5 D cI cB ad shsM A (MQ below (cQ D cI cB ad shsM (some (.int (i32 r))) S' A) args s 0 0 A) 7 [(0, .ref (ad 0)), (1, .int (i32 t14.1)), (2, .int (i32 t14.2.1)), (3, .int (i32 t14.2.2.1))] [] t14.2.2.2) (fun z15 : Int × Mem => Go p l e { frames := 8, cells := 0, slots := 0, locals := 179 } s m args below meth c 5 D cI cB ad shsM A (MQ below (cQ D cI cB ad shsM (some (.int (i32 r))) S' A) args s 0 0 A) 47 [(1, .int (i32 z15.1))] [] z15.2) ?_
    intro t14 x16 h hx17
    unfold f_X8_pivot_l7 at h
    refine go_iload_n (pc := 7) X 3 dX8_pivot_7 rfl rfl ?_
    refine go_aload_n (pc := 8) X 0 dX8_pivot_8 rfl rfl ?_
    obtain ⟨r19, h20, h⟩ := bind_some h
    refine go_callVi (pc := 9) X 0 [.int (i32 t14.2.2.1)] (ct_X8_many h20) sh8 rfl gg_X8_61 hd_X8_many ⟨Nat.le_of_ble_eq_true rfl, Nat.le_of_ble_eq_true rfl⟩ rfl rfl (Nat.le_of_ble_eq_true rfl) dX8_pivot_9 ?_
    refine go_icmp_ge (pc := 12) X 47 dX8_pivot_12 rfl (fun c21 => ?_) (fun c21 => ?_)
    · rw [if_neg c21] at h
      refine go_pick [1] (Ls' := [(1, .int (i32 t14.1))]) rfl ?_
      exact lp_back h hx17
    · rw [if_pos c21] at h
      refine go_aload_n (pc := 15) X 0 dX8_pivot_15 rfl rfl ?_
      refine go_iload_n (pc := 16) X 3 dX8_pivot_16 rfl rfl ?_
      refine go_iconst (pc := 17) X dX8_pivot_17 ?_
      obtain ⟨u22, h23, h⟩ := bind_some h
      refine go_callVi (pc := 18) X 2 [] (ct_X8_paidBut h23) sh8 rfl gg_X8_203 hd_X8_paidBut ⟨Nat.le_of_ble_eq_true rfl, Nat.le_of_ble_eq_true rfl⟩ rfl rfl (Nat.le_of_ble_eq_true rfl) dX8_pivot_18 ?_
      refine go_istore (pc := 21) X [1, 2, 3, 4, 0] (Ls' := [(0, .ref (ad 0)), (1, .int (i32 t14.1)), (2, .int (i32 t14.2.1)), (3, .int (i32 t14.2.2.1)), (4, .int (i32 u22.1))]) dX8_pivot_21 (by decide) rfl ?_
      refine go_iload_n (pc := 23) X 1 dX8_pivot_23 rfl rfl ?_
      obtain ⟨j24, h25, h⟩ := bind_some h
      have k26 : Go p l e { frames := 8, cells := 0, slots := 0, locals := 179 } s m args below meth c 5 D cI cB ad shsM A (MQ below (cQ D cI cB ad shsM (some (.int (i32 r))) S' A) args s 0 0 A) 41 [(0, .ref (ad 0)), (1, .int (i32 j24.1)), (2, .int (i32 j24.2)), (3, .int (i32 t14.2.2.1))] [] u22.2 := by
        refine go_iinc (pc := 41) X [1, 2, 3, 0] 3 (Ls' := [(0, .ref (ad 0)), (1, .int (i32 j24.1)), (2, .int (i32 j24.2)), (3, .int (i32 (t14.2.2.1 + 1)))]) dX8_pivot_41 rfl (by decide) rfl ?_
        refine go_goto (pc := 44) X 7 dX8_pivot_44 rfl ?_
        exact lp_back h hx17
      refine go_if_lt (pc := 24) X 36 dX8_pivot_24 rfl (fun c27 => ?_) (fun c27 => ?_)
      · rw [if_pos c27] at h25
        refine go_iload_n (pc := 36) X 3 dX8_pivot_36 rfl rfl ?_
        refine go_istore_n (pc := 37) X [1, 0, 2, 3, 4] (Ls' := [(0, .ref (ad 0)), (1, .int (i32 t14.2.2.1)), (2, .int (i32 t14.2.1)), (3, .int (i32 t14.2.2.1)), (4, .int (i32 u22.1))]) dX8_pivot_37 rfl (by decide) rfl ?_
        refine go_iload (pc := 38) X 4 dX8_pivot_38 rfl ?_
        refine go_istore_n (pc := 40) X [1, 2, 0, 3, 4] (Ls' := [(0, .ref (ad 0)), (1, .int (i32 t14.2.2.1)), (2, .int (i32 u22.1)), (3, .int (i32 t14.2.2.1)), (4, .int (i32 u22.1))]) dX8_pivot_40 rfl (by decide) rfl ?_
        cases h25
        refine go_pick [0, 1, 2, 3] (Ls' := [(0, .ref (ad 0)), (1, .int (i32 t14.2.2.1)), (2, .int (i32 u22.1)), (3, .int (i32 t14.2.2.1))]) rfl ?_
        exact k26
      · rw [if_neg c27] at h25
        refine go_iload (pc := 27) X 4 dX8_pivot_27 rfl ?_
        refine go_iload_n (pc := 29) X 2 dX8_pivot_29 rfl rfl ?_
        refine go_icmp_lt (pc := 30) X 36 dX8_pivot_30 rfl (fun c28 => ?_) (fun c28 => ?_)
        · rw [if_pos c28] at h25
          refine go_iload_n (pc := 36) X 3 dX8_pivot_36 rfl rfl ?_
          refine go_istore_n (pc := 37) X [1, 0, 2, 3, 4] (Ls' := [(0, .ref (ad 0)), (1, .int (i32 t14.2.2.1)), (2, .int (i32 t14.2.1)), (3, .int (i32 t14.2.2.1)), (4, .int (i32 u22.1))]) dX8_pivot_37 rfl (by decide) rfl ?_
          refine go_iload (pc := 38) X 4 dX8_pivot_38 rfl ?_
          refine go_istore_n (pc := 40) X [1, 2, 0, 3, 4] (Ls' := [(0, .ref (ad 0)), (1, .int (i32 t14.2.2.1)), (2, .int (i32 u22.1)), (3, .int (i32 t14.2.2.1)), (4, .int (i32 u22.1))]) dX8_pivot_40 rfl (by decide) rfl ?_
          cases h25
          refine go_pick [0, 1, 2, 3] (Ls' := [(0, .ref (ad 0)), (1, .int (i32 t14.2.2.1)), (2, .int (i32 u22.1)), (3, .int (i32 t14.2.2.1))]) rfl ?_
          exact k26
        · rw [if_neg c28] at h25
          refine go_goto (pc := 33) X 41 dX8_pivot_33 rfl ?_
          cases h25
          refine go_pick [0, 1, 2, 3] (Ls' := [(0, .ref (ad 0)), (1, .int (i32 t14.1)), (2, .int (i32 t14.2.1)), (3, .int (i32 t14.2.2.1))]) rfl ?_
          exact k26
  refine H13 FU ((-2), 0, 0, S) r11 h12 ?_
  refine go_iload_n (pc := 47) X 0 dX8_pivot_47 rfl rfl ?_
  exact go_iret (pc := 48) X h dX8_pivot_48
set_option maxRecDepth 100000 in
set_option maxHeartbeats 4000000 in
theorem ct_X8_truly {l : Launch} {D : va_G} {cI cB : ClassId} {Z : (Nat → Nat) × (Nat → Nat)} {ad : Nat → Nat} {S : Mem} {a1 : Int} {a2 : Int} {r : Int} {S' : Mem} (h : f_X8_truly S a1 a2 = some (r, S')) : Ctr l D cI cB Z ad shsM yX8_truly cX8_truly 4 (some .int) 7 156 [.ref (ad 0), .int (i32 a1), .int (i32 a2)] S (some (.int (i32 r))) S' := by
  refine ctr_of (by decide +kernel) (Nat.le_of_ble_eq_true rfl) rfl ?_
  intro p e s m args below meth c A X
  unfold f_X8_truly at h
  refine go_aload_n (pc := 0) X 0 dX8_truly_0 rfl rfl ?_
  obtain ⟨S1, h2, h⟩ := bind_some h
  refine go_callVv (pc := 1) X 0 [] (ct_X8_runs h2) sh8 rfl gg_X8_171 hd_X8_runs ⟨Nat.le_of_ble_eq_true rfl, Nat.le_of_ble_eq_true rfl⟩ rfl rfl (Nat.le_of_ble_eq_true rfl) dX8_truly_1 ?_
  refine go_aload_n (pc := 4) X 0 dX8_truly_4 rfl rfl ?_
  refine go_iload_n (pc := 5) X 1 dX8_truly_5 rfl rfl ?_
  refine go_iload_n (pc := 6) X 2 dX8_truly_6 rfl rfl ?_
  obtain ⟨u3, h4, h⟩ := bind_some h
  refine go_callVi (pc := 7) X 2 [] (ct_X8_paysOf h4) sh8 rfl gg_X8_165 hd_X8_paysOf ⟨Nat.le_of_ble_eq_true rfl, Nat.le_of_ble_eq_true rfl⟩ rfl rfl (Nat.le_of_ble_eq_true rfl) dX8_truly_7 ?_
  refine go_istore_n (pc := 10) X [1, 2, 3, 0] (Ls' := [(0, .ref (ad 0)), (1, .int (i32 a1)), (2, .int (i32 a2)), (3, .int (i32 u3.1))]) dX8_truly_10 rfl (by decide) rfl ?_
  refine go_aload_n (pc := 11) X 0 dX8_truly_11 rfl rfl ?_
  obtain ⟨S5, h6, h⟩ := bind_some h
  refine go_callVv (pc := 12) X 0 [] (ct_X8_takesBack h6) sh8 rfl gg_X8_200 hd_X8_takesBack ⟨Nat.le_of_ble_eq_true rfl, Nat.le_of_ble_eq_true rfl⟩ rfl rfl (Nat.le_of_ble_eq_true rfl) dX8_truly_12 ?_
  refine go_aload_n (pc := 15) X 0 dX8_truly_15 rfl rfl ?_
  refine go_iload_n (pc := 16) X 1 dX8_truly_16 rfl rfl ?_
  refine go_aload_n (pc := 17) X 0 dX8_truly_17 rfl rfl ?_
  refine go_getr (pc := 18) X (fk := 6) sh8 rfl inT_X8 (by decide) fL_X8_26 rfl dX8_truly_18 ?_
  refine go_iload_n (pc := 21) X 1 dX8_truly_21 rfl rfl ?_
  obtain ⟨g7, h⟩ := gd_some h
  refine go_iald (pc := 22) X shM5 (Nat.le_of_ble_eq_true rfl) rfl g7 dX8_truly_22 ?_
  obtain ⟨r8, h9, h⟩ := bind_some h
  refine go_callVi (pc := 23) X 2 [] (ct_X8_firstOf h9) sh8 rfl gg_X8_150 hd_X8_firstOf ⟨Nat.le_of_ble_eq_true rfl, Nat.le_of_ble_eq_true rfl⟩ rfl rfl (Nat.le_of_ble_eq_true rfl) dX8_truly_23 ?_
  refine go_iload_n (pc := 26) X 3 dX8_truly_26 rfl rfl ?_
  refine go_isub (pc := 27) X dX8_truly_27 ?_
  exact go_iret (pc := 28) X h dX8_truly_28
set_option maxRecDepth 100000 in
set_option maxHeartbeats 4000000 in
theorem ct_X8_tellsFirst {l : Launch} {D : va_G} {cI cB : ClassId} {Z : (Nat → Nat) × (Nat → Nat)} {ad : Nat → Nat} {S : Mem} {a1 : Int} {a2 : Int} {a3 : Int} {r : Int} {S' : Mem} (h : f_X8_tellsFirst S a1 a2 a3 = some (r, S')) : Ctr l D cI cB Z ad shsM yX8_tellsFirst cX8_tellsFirst 4 (some .int) 8 179 [.ref (ad 0), .int (i32 a1), .int (i32 a2), .int (i32 a3)] S (some (.int (i32 r))) S' := by
  refine ctr_of (by decide +kernel) (Nat.le_of_ble_eq_true rfl) rfl ?_
  intro p e s m args below meth c A X
  unfold f_X8_tellsFirst at h
  refine go_aload_n (pc := 0) X 0 dX8_tellsFirst_0 rfl rfl ?_
  obtain ⟨S1, h2, h⟩ := bind_some h
  refine go_callVv (pc := 1) X 0 [] (ct_X8_putsAside h2) sh8 rfl gg_X8_197 hd_X8_putsAside ⟨Nat.le_of_ble_eq_true rfl, Nat.le_of_ble_eq_true rfl⟩ rfl rfl (Nat.le_of_ble_eq_true rfl) dX8_tellsFirst_1 ?_
  refine go_aload_n (pc := 4) X 0 dX8_tellsFirst_4 rfl rfl ?_
  refine go_getr (pc := 5) X (fk := 1) sh8 rfl inT_X8 (by decide) fL_X8_13 rfl dX8_tellsFirst_5 ?_
  refine go_iconst (pc := 8) X dX8_tellsFirst_8 ?_
  refine go_bipush (pc := 9) X dX8_tellsFirst_9 (by decide) (by decide) ?_
  refine go_iload_n (pc := 11) X 1 dX8_tellsFirst_11 rfl rfl ?_
  refine go_imul (pc := 12) X dX8_tellsFirst_12 ?_
  refine go_iadd (pc := 13) X dX8_tellsFirst_13 ?_
  refine go_iconst (pc := 14) X dX8_tellsFirst_14 ?_
  refine go_iadd (pc := 15) X dX8_tellsFirst_15 ?_
  refine go_iload_n (pc := 16) X 3 dX8_tellsFirst_16 rfl rfl ?_
  obtain ⟨g3, h⟩ := gd_some h
  obtain ⟨S4, e5, h⟩ := wrk_some h
  refine go_iastE (pc := 17) X e5 shM1 (Nat.le_of_ble_eq_true rfl) rfl g3 dX8_tellsFirst_17 ?_
  refine go_aload_n (pc := 18) X 0 dX8_tellsFirst_18 rfl rfl ?_
  refine go_iload_n (pc := 19) X 1 dX8_tellsFirst_19 rfl rfl ?_
  refine go_iload_n (pc := 20) X 2 dX8_tellsFirst_20 rfl rfl ?_
  obtain ⟨u6, h7, h⟩ := bind_some h
  refine go_callVi (pc := 21) X 2 [] (ct_X8_truly h7) sh8 rfl gg_X8_206 hd_X8_truly ⟨Nat.le_of_ble_eq_true rfl, Nat.le_of_ble_eq_true rfl⟩ rfl rfl (Nat.le_of_ble_eq_true rfl) dX8_tellsFirst_21 ?_
  exact go_iret (pc := 24) X h dX8_tellsFirst_24
set_option maxRecDepth 100000 in
set_option maxHeartbeats 4000000 in
theorem ct_X8_tells {l : Launch} {D : va_G} {cI cB : ClassId} {Z : (Nat → Nat) × (Nat → Nat)} {ad : Nat → Nat} {S : Mem} {a1 : Int} {a2 : Int} {a3 : Int} {r : Int} {S' : Mem} (h : f_X8_tells S a1 a2 a3 = some (r, S')) : Ctr l D cI cB Z ad shsM yX8_tells cX8_tells 4 (some .int) 9 202 [.ref (ad 0), .int (i32 a1), .int (i32 a2), .int (i32 a3)] S (some (.int (i32 r))) S' := by
  refine ctr_of (by decide +kernel) (Nat.le_of_ble_eq_true rfl) rfl ?_
  intro p e s m args below meth c A X
  unfold f_X8_tells at h
  refine go_aload_n (pc := 0) X 0 dX8_tells_0 rfl rfl ?_
  refine go_iload_n (pc := 1) X 1 dX8_tells_1 rfl rfl ?_
  obtain ⟨r1, h2, h⟩ := bind_some h
  refine go_callVi (pc := 2) X 1 [] (ct_X8_isBidder h2) sh8 rfl gg_X8_90 hd_X8_isBidder ⟨Nat.le_of_ble_eq_true rfl, Nat.le_of_ble_eq_true rfl⟩ rfl rfl (Nat.le_of_ble_eq_true rfl) dX8_tells_2 ?_
  refine go_if_eq (pc := 5) X 38 dX8_tells_5 rfl (fun c3 => ?_) (fun c3 => ?_)
  · rw [if_pos c3] at h
    refine go_ldc (pc := 38) X (-100000) cn_X8_180 rfl dX8_tells_38 ?_
    exact go_iret (pc := 40) X h dX8_tells_40
  · rw [if_neg c3] at h
    refine go_iload_n (pc := 8) X 2 dX8_tells_8 rfl rfl ?_
    obtain ⟨r4, h5, h⟩ := bind_some h
    refine go_callSi (pc := 9) X 1 [] (ct_X8_isKind h5) gg_X8_168 hd_X8_isKind ⟨Nat.le_of_ble_eq_true rfl, Nat.le_of_ble_eq_true rfl⟩ rfl rfl (Nat.le_of_ble_eq_true rfl) dX8_tells_9 ?_
    refine go_if_eq (pc := 12) X 38 dX8_tells_12 rfl (fun c6 => ?_) (fun c6 => ?_)
    · rw [if_pos c6] at h
      refine go_ldc (pc := 38) X (-100000) cn_X8_180 rfl dX8_tells_38 ?_
      exact go_iret (pc := 40) X h dX8_tells_40
    · rw [if_neg c6] at h
      refine go_iload_n (pc := 15) X 3 dX8_tells_15 rfl rfl ?_
      refine go_iconst (pc := 16) X dX8_tells_16 ?_
      refine go_aload_n (pc := 17) X 0 dX8_tells_17 rfl rfl ?_
      refine go_iload_n (pc := 18) X 1 dX8_tells_18 rfl rfl ?_
      obtain ⟨r7, h8, h⟩ := bind_some h
      refine go_callVi (pc := 19) X 1 [.int (i32 0), .int (i32 a3)] (ct_X8_valuesOf h8) sh8 rfl gg_X8_73 hd_X8_valuesOf ⟨Nat.le_of_ble_eq_true rfl, Nat.le_of_ble_eq_true rfl⟩ rfl rfl (Nat.le_of_ble_eq_true rfl) dX8_tells_19 ?_
      obtain ⟨r9, h10, h⟩ := bind_some h
      refine go_callSi (pc := 22) X 3 [] (ct_X8_in h10) gg_X8_65 hd_X8_in ⟨Nat.le_of_ble_eq_true rfl, Nat.le_of_ble_eq_true rfl⟩ rfl rfl (Nat.le_of_ble_eq_true rfl) dX8_tells_22 ?_
      refine go_if_eq (pc := 25) X 38 dX8_tells_25 rfl (fun c11 => ?_) (fun c11 => ?_)
      · rw [if_pos c11] at h
        refine go_ldc (pc := 38) X (-100000) cn_X8_180 rfl dX8_tells_38 ?_
        exact go_iret (pc := 40) X h dX8_tells_40
      · rw [if_neg c11] at h
        refine go_aload_n (pc := 28) X 0 dX8_tells_28 rfl rfl ?_
        refine go_iload_n (pc := 29) X 1 dX8_tells_29 rfl rfl ?_
        refine go_iload_n (pc := 30) X 2 dX8_tells_30 rfl rfl ?_
        refine go_iload_n (pc := 31) X 3 dX8_tells_31 rfl rfl ?_
        obtain ⟨u12, h13, h⟩ := bind_some h
        refine go_callVi (pc := 32) X 3 [] (ct_X8_tellsFirst h13) sh8 rfl gg_X8_209 hd_X8_tellsFirst ⟨Nat.le_of_ble_eq_true rfl, Nat.le_of_ble_eq_true rfl⟩ rfl rfl (Nat.le_of_ble_eq_true rfl) dX8_tells_32 ?_
        refine go_goto (pc := 35) X 40 dX8_tells_35 rfl ?_
        exact go_iret (pc := 40) X h dX8_tells_40
set_option maxRecDepth 100000 in
set_option maxHeartbeats 4000000 in
theorem ct_X8_bestTells {l : Launch} {D : va_G} {cI cB : ClassId} {Z : (Nat → Nat) × (Nat → Nat)} {ad : Nat → Nat} {S : Mem} {a1 : Int} {a2 : Int} {r : Int} {S' : Mem} (h : f_X8_bestTells S a1 a2 = some (r, S')) : Ctr l D cI cB Z ad shsM yX8_bestTells cX8_bestTells 7 (some .int) 9 202 [.ref (ad 0), .int (i32 a1), .int (i32 a2)] S (some (.int (i32 r))) S' := by
  refine ctr_of (by decide +kernel) (Nat.le_of_ble_eq_true rfl) rfl ?_
  intro p e s m args below meth c A X
  unfold f_X8_bestTells at h
  refine go_aload_n (pc := 0) X 0 dX8_bestTells_0 rfl rfl ?_
  refine go_iload_n (pc := 1) X 1 dX8_bestTells_1 rfl rfl ?_
  obtain ⟨r1, h2, h⟩ := bind_some h
  refine go_callVi (pc := 2) X 1 [] (ct_X8_isBidder h2) sh8 rfl gg_X8_90 hd_X8_isBidder ⟨Nat.le_of_ble_eq_true rfl, Nat.le_of_ble_eq_true rfl⟩ rfl rfl (Nat.le_of_ble_eq_true rfl) dX8_bestTells_2 ?_
  refine go_if_eq (pc := 5) X 15 dX8_bestTells_5 rfl (fun c3 => ?_) (fun c3 => ?_)
  · rw [if_pos c3] at h
    refine go_iconst (pc := 15) X dX8_bestTells_15 ?_
    exact go_iret (pc := 16) X h dX8_bestTells_16
  · rw [if_neg c3] at h
    refine go_iload_n (pc := 8) X 2 dX8_bestTells_8 rfl rfl ?_
    obtain ⟨r4, h5, h⟩ := bind_some h
    refine go_callSi (pc := 9) X 1 [] (ct_X8_isKind h5) gg_X8_168 hd_X8_isKind ⟨Nat.le_of_ble_eq_true rfl, Nat.le_of_ble_eq_true rfl⟩ rfl rfl (Nat.le_of_ble_eq_true rfl) dX8_bestTells_9 ?_
    refine go_if_ne (pc := 12) X 17 dX8_bestTells_12 rfl (fun c6 => ?_) (fun c6 => ?_)
    · rw [if_neg c6] at h
      refine go_iconst (pc := 17) X dX8_bestTells_17 ?_
      refine go_istore_n (pc := 18) X [1, 2, 3, 0] (Ls' := [(0, .ref (ad 0)), (1, .int (i32 a1)), (2, .int (i32 a2)), (3, .int (i32 0))]) dX8_bestTells_18 rfl (by decide) rfl ?_
      refine go_ldc (pc := 19) X (-100000) cn_X8_180 rfl dX8_bestTells_19 ?_
      refine go_istore (pc := 21) X [1, 2, 3, 4, 0] (Ls' := [(0, .ref (ad 0)), (1, .int (i32 a1)), (2, .int (i32 a2)), (3, .int (i32 0)), (4, .int (i32 (-100000)))]) dX8_bestTells_21 (by decide) rfl ?_
      refine go_iconst (pc := 23) X dX8_bestTells_23 ?_
      refine go_istore (pc := 24) X [1, 2, 3, 4, 5, 0] (Ls' := [(0, .ref (ad 0)), (1, .int (i32 a1)), (2, .int (i32 a2)), (3, .int (i32 0)), (4, .int (i32 (-100000))), (5, .int (i32 0))]) dX8_bestTells_24 (by decide) rfl ?_
      obtain ⟨r16, h17, h⟩ := bind_some h
      have H18 : ∀ (n : Nat) (t19 : Int × Int × Int × Mem) (z20 : Int × Mem), lp (f_X8_bestTells_l26 a1 a2) n t19 = some z20 → Go p l e { frames := 9, cells := 0, slots := 0, locals := 202 } s m args below meth c 7 D cI cB ad shsM A (MQ below (cQ D cI cB ad shsM (some (.int (i32 r))) S' A) args s 0 0 A) 69 [(3, .int (i32 z20.1))] [] z20.2 → Go p l e { frames := 9, cells := 0, slots := 0, locals := 202 } s m args below meth c 7 D cI cB ad shsM A (MQ below (cQ D cI cB ad shsM (some (.int (i32 r))) S' A) args s 0 0 A) 26 [(0, .ref (ad 0)), (1, .int (i32 a1)), (2, .int (i32 a2)), (3, .int (i32 t19.1)), (4, .int (i32 t19.2.1)), (5, .int (i32 t19.2.2.1))] [] t19.2.2.2 := by
        refine lp_go (fun t19 : Int × Int × Int × Mem => Go p l e { frames := 9, cells := 0, slots := 0, locals := 202 } s m args below meth c 7 D cI cB ad shsM A (MQ below (cQ D cI cB ad shsM (some (.int (i32 r))) S' A) args s 0 0 A) 26 [(0, .ref (ad 0)), (1, .int (i32 a1)), (2, .int (i32 a2)), (3, .int (i32 t19.1)), (4, .int (i32 t19.2.1)), (5, .int (i32 t19.2.2.1))] [] t19.2.2.2) (fun z20 : Int × Mem => Go p l e { frames := 9, cells := 0, slots := 0, locals := 202 } s m args below meth c 7 D cI cB ad shsM A (MQ below (cQ D cI cB ad shsM (some (.int (i32 r))) S' A) args s 0 0 A) 69 [(3, .int (i32 z20.1))] [] z20.2) ?_
        intro t19 x21 h hx22
        unfold f_X8_bestTells_l26 at h
        refine go_iload (pc := 26) X 5 dX8_bestTells_26 rfl ?_
        refine go_aload_n (pc := 28) X 0 dX8_bestTells_28 rfl rfl ?_
        refine go_iload_n (pc := 29) X 1 dX8_bestTells_29 rfl rfl ?_
        obtain ⟨r24, h25, h⟩ := bind_some h
        refine go_callVi (pc := 30) X 1 [.int (i32 t19.2.2.1)] (ct_X8_valuesOf h25) sh8 rfl gg_X8_73 hd_X8_valuesOf ⟨Nat.le_of_ble_eq_true rfl, Nat.le_of_ble_eq_true rfl⟩ rfl rfl (Nat.le_of_ble_eq_true rfl) dX8_bestTells_30 ?_
        refine go_icmp_gt (pc := 33) X 69 dX8_bestTells_33 rfl (fun c26 => ?_) (fun c26 => ?_)
        · rw [if_pos c26] at h
          refine go_pick [3] (Ls' := [(3, .int (i32 t19.1))]) rfl ?_
          exact lp_back h hx22
        · rw [if_neg c26] at h
          refine go_aload_n (pc := 36) X 0 dX8_bestTells_36 rfl rfl ?_
          refine go_iload_n (pc := 37) X 1 dX8_bestTells_37 rfl rfl ?_
          refine go_iload_n (pc := 38) X 2 dX8_bestTells_38 rfl rfl ?_
          refine go_iload (pc := 39) X 5 dX8_bestTells_39 rfl ?_
          obtain ⟨u27, h28, h⟩ := bind_some h
          refine go_callVi (pc := 41) X 3 [] (ct_X8_tellsFirst h28) sh8 rfl gg_X8_209 hd_X8_tellsFirst ⟨Nat.le_of_ble_eq_true rfl, Nat.le_of_ble_eq_true rfl⟩ rfl rfl (Nat.le_of_ble_eq_true rfl) dX8_bestTells_41 ?_
          refine go_istore (pc := 44) X [1, 2, 3, 4, 5, 6, 0] (Ls' := [(0, .ref (ad 0)), (1, .int (i32 a1)), (2, .int (i32 a2)), (3, .int (i32 t19.1)), (4, .int (i32 t19.2.1)), (5, .int (i32 t19.2.2.1)), (6, .int (i32 u27.1))]) dX8_bestTells_44 (by decide) rfl ?_
          refine go_iload (pc := 46) X 6 dX8_bestTells_46 rfl ?_
          refine go_iload (pc := 48) X 4 dX8_bestTells_48 rfl ?_
          obtain ⟨j29, h30, h⟩ := bind_some h
          have k31 : Go p l e { frames := 9, cells := 0, slots := 0, locals := 202 } s m args below meth c 7 D cI cB ad shsM A (MQ below (cQ D cI cB ad shsM (some (.int (i32 r))) S' A) args s 0 0 A) 63 [(0, .ref (ad 0)), (1, .int (i32 a1)), (2, .int (i32 a2)), (3, .int (i32 j29.1)), (4, .int (i32 j29.2)), (5, .int (i32 t19.2.2.1))] [] u27.2 := by
            refine go_iinc (pc := 63) X [1, 2, 3, 4, 5, 0] 5 (Ls' := [(0, .ref (ad 0)), (1, .int (i32 a1)), (2, .int (i32 a2)), (3, .int (i32 j29.1)), (4, .int (i32 j29.2)), (5, .int (i32 (t19.2.2.1 + 1)))]) dX8_bestTells_63 rfl (by decide) rfl ?_
            refine go_goto (pc := 66) X 26 dX8_bestTells_66 rfl ?_
            exact lp_back h hx22
          refine go_icmp_ge (pc := 50) X 56 dX8_bestTells_50 rfl (fun c32 => ?_) (fun c32 => ?_)
          · rw [if_neg c32] at h30
            refine go_iload (pc := 56) X 6 dX8_bestTells_56 rfl ?_
            refine go_istore (pc := 58) X [1, 2, 3, 4, 0, 5, 6] (Ls' := [(0, .ref (ad 0)), (1, .int (i32 a1)), (2, .int (i32 a2)), (3, .int (i32 t19.1)), (4, .int (i32 u27.1)), (5, .int (i32 t19.2.2.1)), (6, .int (i32 u27.1))]) dX8_bestTells_58 (by decide) rfl ?_
            refine go_iload (pc := 60) X 5 dX8_bestTells_60 rfl ?_
            refine go_istore_n (pc := 62) X [1, 2, 3, 0, 4, 5, 6] (Ls' := [(0, .ref (ad 0)), (1, .int (i32 a1)), (2, .int (i32 a2)), (3, .int (i32 t19.2.2.1)), (4, .int (i32 u27.1)), (5, .int (i32 t19.2.2.1)), (6, .int (i32 u27.1))]) dX8_bestTells_62 rfl (by decide) rfl ?_
            cases h30
            refine go_pick [0, 1, 2, 3, 4, 5] (Ls' := [(0, .ref (ad 0)), (1, .int (i32 a1)), (2, .int (i32 a2)), (3, .int (i32 t19.2.2.1)), (4, .int (i32 u27.1)), (5, .int (i32 t19.2.2.1))]) rfl ?_
            exact k31
          · rw [if_pos c32] at h30
            refine go_goto (pc := 53) X 63 dX8_bestTells_53 rfl ?_
            cases h30
            refine go_pick [0, 1, 2, 3, 4, 5] (Ls' := [(0, .ref (ad 0)), (1, .int (i32 a1)), (2, .int (i32 a2)), (3, .int (i32 t19.1)), (4, .int (i32 t19.2.1)), (5, .int (i32 t19.2.2.1))]) rfl ?_
            exact k31
      refine H18 FU (0, (-100000), 0, S) r16 h17 ?_
      refine go_iload_n (pc := 69) X 0 dX8_bestTells_69 rfl rfl ?_
      exact go_iret (pc := 70) X h dX8_bestTells_70
    · rw [if_pos c6] at h
      refine go_iconst (pc := 15) X dX8_bestTells_15 ?_
      exact go_iret (pc := 16) X h dX8_bestTells_16
set_option maxRecDepth 100000 in
set_option maxHeartbeats 4000000 in
theorem ct_X8_hidesAll {l : Launch} {D : va_G} {cI cB : ClassId} {Z : (Nat → Nat) × (Nat → Nat)} {ad : Nat → Nat} {S : Mem} {a1 : Int} {a2 : Int} {a3 : Int} {r : Int} {S' : Mem} (h : f_X8_hidesAll S a1 a2 a3 = some (r, S')) : Ctr l D cI cB Z ad shsM yX8_hidesAll cX8_hidesAll 4 (some .int) 8 179 [.ref (ad 0), .int (i32 a1), .int (i32 a2), .int (i32 a3)] S (some (.int (i32 r))) S' := by
  refine ctr_of (by decide +kernel) (Nat.le_of_ble_eq_true rfl) rfl ?_
  intro p e s m args below meth c A X
  unfold f_X8_hidesAll at h
  refine go_aload_n (pc := 0) X 0 dX8_hidesAll_0 rfl rfl ?_
  obtain ⟨S1, h2, h⟩ := bind_some h
  refine go_callVv (pc := 1) X 0 [] (ct_X8_putsAside h2) sh8 rfl gg_X8_197 hd_X8_putsAside ⟨Nat.le_of_ble_eq_true rfl, Nat.le_of_ble_eq_true rfl⟩ rfl rfl (Nat.le_of_ble_eq_true rfl) dX8_hidesAll_1 ?_
  refine go_aload_n (pc := 4) X 0 dX8_hidesAll_4 rfl rfl ?_
  refine go_iload_n (pc := 5) X 1 dX8_hidesAll_5 rfl rfl ?_
  refine go_iload_n (pc := 6) X 3 dX8_hidesAll_6 rfl rfl ?_
  refine go_ineg (pc := 7) X dX8_hidesAll_7 ?_
  obtain ⟨u3, h4, h⟩ := bind_some h
  refine go_callVi (pc := 8) X 2 [] (ct_X8_shades h4) sh8 rfl gg_X8_123 hd_X8_shades ⟨Nat.le_of_ble_eq_true rfl, Nat.le_of_ble_eq_true rfl⟩ rfl rfl (Nat.le_of_ble_eq_true rfl) dX8_hidesAll_8 ?_
  refine go_pop (pc := 11) X dX8_hidesAll_11 rfl ?_
  refine go_aload_n (pc := 12) X 0 dX8_hidesAll_12 rfl rfl ?_
  refine go_iload_n (pc := 13) X 1 dX8_hidesAll_13 rfl rfl ?_
  refine go_iload_n (pc := 14) X 2 dX8_hidesAll_14 rfl rfl ?_
  obtain ⟨u5, h6, h⟩ := bind_some h
  refine go_callVi (pc := 15) X 2 [] (ct_X8_truly h6) sh8 rfl gg_X8_206 hd_X8_truly ⟨Nat.le_of_ble_eq_true rfl, Nat.le_of_ble_eq_true rfl⟩ rfl rfl (Nat.le_of_ble_eq_true rfl) dX8_hidesAll_15 ?_
  exact go_iret (pc := 18) X h dX8_hidesAll_18
set_option maxRecDepth 100000 in
set_option maxHeartbeats 4000000 in
theorem ct_X8_hides {l : Launch} {D : va_G} {cI cB : ClassId} {Z : (Nat → Nat) × (Nat → Nat)} {ad : Nat → Nat} {S : Mem} {a1 : Int} {a2 : Int} {a3 : Int} {r : Int} {S' : Mem} (h : f_X8_hides S a1 a2 a3 = some (r, S')) : Ctr l D cI cB Z ad shsM yX8_hides cX8_hides 4 (some .int) 9 202 [.ref (ad 0), .int (i32 a1), .int (i32 a2), .int (i32 a3)] S (some (.int (i32 r))) S' := by
  refine ctr_of (by decide +kernel) (Nat.le_of_ble_eq_true rfl) rfl ?_
  intro p e s m args below meth c A X
  unfold f_X8_hides at h
  refine go_aload_n (pc := 0) X 0 dX8_hides_0 rfl rfl ?_
  refine go_iload_n (pc := 1) X 1 dX8_hides_1 rfl rfl ?_
  obtain ⟨r1, h2, h⟩ := bind_some h
  refine go_callVi (pc := 2) X 1 [] (ct_X8_isBidder h2) sh8 rfl gg_X8_90 hd_X8_isBidder ⟨Nat.le_of_ble_eq_true rfl, Nat.le_of_ble_eq_true rfl⟩ rfl rfl (Nat.le_of_ble_eq_true rfl) dX8_hides_2 ?_
  refine go_if_eq (pc := 5) X 32 dX8_hides_5 rfl (fun c3 => ?_) (fun c3 => ?_)
  · rw [if_pos c3] at h
    refine go_ldc (pc := 32) X (-100000) cn_X8_180 rfl dX8_hides_32 ?_
    exact go_iret (pc := 34) X h dX8_hides_34
  · rw [if_neg c3] at h
    refine go_iload_n (pc := 8) X 2 dX8_hides_8 rfl rfl ?_
    obtain ⟨r4, h5, h⟩ := bind_some h
    refine go_callSi (pc := 9) X 1 [] (ct_X8_isKind h5) gg_X8_168 hd_X8_isKind ⟨Nat.le_of_ble_eq_true rfl, Nat.le_of_ble_eq_true rfl⟩ rfl rfl (Nat.le_of_ble_eq_true rfl) dX8_hides_9 ?_
    refine go_if_eq (pc := 12) X 32 dX8_hides_12 rfl (fun c6 => ?_) (fun c6 => ?_)
    · rw [if_pos c6] at h
      refine go_ldc (pc := 32) X (-100000) cn_X8_180 rfl dX8_hides_32 ?_
      exact go_iret (pc := 34) X h dX8_hides_34
    · rw [if_neg c6] at h
      refine go_iload_n (pc := 15) X 3 dX8_hides_15 rfl rfl ?_
      obtain ⟨r7, h8, h⟩ := bind_some h
      refine go_callSi (pc := 16) X 1 [] (ct_X8_isPrice h8) gg_X8_98 hd_X8_isPrice ⟨Nat.le_of_ble_eq_true rfl, Nat.le_of_ble_eq_true rfl⟩ rfl rfl (Nat.le_of_ble_eq_true rfl) dX8_hides_16 ?_
      refine go_if_eq (pc := 19) X 32 dX8_hides_19 rfl (fun c9 => ?_) (fun c9 => ?_)
      · rw [if_pos c9] at h
        refine go_ldc (pc := 32) X (-100000) cn_X8_180 rfl dX8_hides_32 ?_
        exact go_iret (pc := 34) X h dX8_hides_34
      · rw [if_neg c9] at h
        refine go_aload_n (pc := 22) X 0 dX8_hides_22 rfl rfl ?_
        refine go_iload_n (pc := 23) X 1 dX8_hides_23 rfl rfl ?_
        refine go_iload_n (pc := 24) X 2 dX8_hides_24 rfl rfl ?_
        refine go_iload_n (pc := 25) X 3 dX8_hides_25 rfl rfl ?_
        obtain ⟨u10, h11, h⟩ := bind_some h
        refine go_callVi (pc := 26) X 3 [] (ct_X8_hidesAll h11) sh8 rfl gg_X8_212 hd_X8_hidesAll ⟨Nat.le_of_ble_eq_true rfl, Nat.le_of_ble_eq_true rfl⟩ rfl rfl (Nat.le_of_ble_eq_true rfl) dX8_hides_26 ?_
        refine go_goto (pc := 29) X 34 dX8_hides_29 rfl ?_
        exact go_iret (pc := 34) X h dX8_hides_34
set_option maxRecDepth 100000 in
set_option maxHeartbeats 4000000 in
theorem ct_X8_bestHides {l : Launch} {D : va_G} {cI cB : ClassId} {Z : (Nat → Nat) × (Nat → Nat)} {ad : Nat → Nat} {S : Mem} {a1 : Int} {a2 : Int} {r : Int} {S' : Mem} (h : f_X8_bestHides S a1 a2 = some (r, S')) : Ctr l D cI cB Z ad shsM yX8_bestHides cX8_bestHides 7 (some .int) 9 202 [.ref (ad 0), .int (i32 a1), .int (i32 a2)] S (some (.int (i32 r))) S' := by
  refine ctr_of (by decide +kernel) (Nat.le_of_ble_eq_true rfl) rfl ?_
  intro p e s m args below meth c A X
  unfold f_X8_bestHides at h
  refine go_aload_n (pc := 0) X 0 dX8_bestHides_0 rfl rfl ?_
  refine go_iload_n (pc := 1) X 1 dX8_bestHides_1 rfl rfl ?_
  obtain ⟨r1, h2, h⟩ := bind_some h
  refine go_callVi (pc := 2) X 1 [] (ct_X8_isBidder h2) sh8 rfl gg_X8_90 hd_X8_isBidder ⟨Nat.le_of_ble_eq_true rfl, Nat.le_of_ble_eq_true rfl⟩ rfl rfl (Nat.le_of_ble_eq_true rfl) dX8_bestHides_2 ?_
  refine go_if_eq (pc := 5) X 15 dX8_bestHides_5 rfl (fun c3 => ?_) (fun c3 => ?_)
  · rw [if_pos c3] at h
    refine go_iconst (pc := 15) X dX8_bestHides_15 ?_
    exact go_iret (pc := 16) X h dX8_bestHides_16
  · rw [if_neg c3] at h
    refine go_iload_n (pc := 8) X 2 dX8_bestHides_8 rfl rfl ?_
    obtain ⟨r4, h5, h⟩ := bind_some h
    refine go_callSi (pc := 9) X 1 [] (ct_X8_isKind h5) gg_X8_168 hd_X8_isKind ⟨Nat.le_of_ble_eq_true rfl, Nat.le_of_ble_eq_true rfl⟩ rfl rfl (Nat.le_of_ble_eq_true rfl) dX8_bestHides_9 ?_
    refine go_if_ne (pc := 12) X 17 dX8_bestHides_12 rfl (fun c6 => ?_) (fun c6 => ?_)
    · rw [if_neg c6] at h
      refine go_iconst (pc := 17) X dX8_bestHides_17 ?_
      refine go_istore_n (pc := 18) X [1, 2, 3, 0] (Ls' := [(0, .ref (ad 0)), (1, .int (i32 a1)), (2, .int (i32 a2)), (3, .int (i32 0))]) dX8_bestHides_18 rfl (by decide) rfl ?_
      refine go_ldc (pc := 19) X (-100000) cn_X8_180 rfl dX8_bestHides_19 ?_
      refine go_istore (pc := 21) X [1, 2, 3, 4, 0] (Ls' := [(0, .ref (ad 0)), (1, .int (i32 a1)), (2, .int (i32 a2)), (3, .int (i32 0)), (4, .int (i32 (-100000)))]) dX8_bestHides_21 (by decide) rfl ?_
      refine go_iconst (pc := 23) X dX8_bestHides_23 ?_
      refine go_istore (pc := 24) X [1, 2, 3, 4, 5, 0] (Ls' := [(0, .ref (ad 0)), (1, .int (i32 a1)), (2, .int (i32 a2)), (3, .int (i32 0)), (4, .int (i32 (-100000))), (5, .int (i32 0))]) dX8_bestHides_24 (by decide) rfl ?_
      obtain ⟨r14, h15, h⟩ := bind_some h
      have H16 : ∀ (n : Nat) (t17 : Int × Int × Int × Mem) (z18 : Int × Mem), lp (f_X8_bestHides_l26 a1 a2) n t17 = some z18 → Go p l e { frames := 9, cells := 0, slots := 0, locals := 202 } s m args below meth c 7 D cI cB ad shsM A (MQ below (cQ D cI cB ad shsM (some (.int (i32 r))) S' A) args s 0 0 A) 66 [(3, .int (i32 z18.1))] [] z18.2 → Go p l e { frames := 9, cells := 0, slots := 0, locals := 202 } s m args below meth c 7 D cI cB ad shsM A (MQ below (cQ D cI cB ad shsM (some (.int (i32 r))) S' A) args s 0 0 A) 26 [(0, .ref (ad 0)), (1, .int (i32 a1)), (2, .int (i32 a2)), (3, .int (i32 t17.1)), (4, .int (i32 t17.2.1)), (5, .int (i32 t17.2.2.1))] [] t17.2.2.2 := by
        refine lp_go (fun t17 : Int × Int × Int × Mem => Go p l e { frames := 9, cells := 0, slots := 0, locals := 202 } s m args below meth c 7 D cI cB ad shsM A (MQ below (cQ D cI cB ad shsM (some (.int (i32 r))) S' A) args s 0 0 A) 26 [(0, .ref (ad 0)), (1, .int (i32 a1)), (2, .int (i32 a2)), (3, .int (i32 t17.1)), (4, .int (i32 t17.2.1)), (5, .int (i32 t17.2.2.1))] [] t17.2.2.2) (fun z18 : Int × Mem => Go p l e { frames := 9, cells := 0, slots := 0, locals := 202 } s m args below meth c 7 D cI cB ad shsM A (MQ below (cQ D cI cB ad shsM (some (.int (i32 r))) S' A) args s 0 0 A) 66 [(3, .int (i32 z18.1))] [] z18.2) ?_
        intro t17 x19 h hx20
        unfold f_X8_bestHides_l26 at h
        refine go_iload (pc := 26) X 5 dX8_bestHides_26 rfl ?_
        refine go_bipush (pc := 28) X dX8_bestHides_28 (by decide) (by decide) ?_
        refine go_icmp_gt (pc := 30) X 66 dX8_bestHides_30 rfl (fun c22 => ?_) (fun c22 => ?_)
        · rw [if_pos c22] at h
          refine go_pick [3] (Ls' := [(3, .int (i32 t17.1))]) rfl ?_
          exact lp_back h hx20
        · rw [if_neg c22] at h
          refine go_aload_n (pc := 33) X 0 dX8_bestHides_33 rfl rfl ?_
          refine go_iload_n (pc := 34) X 1 dX8_bestHides_34 rfl rfl ?_
          refine go_iload_n (pc := 35) X 2 dX8_bestHides_35 rfl rfl ?_
          refine go_iload (pc := 36) X 5 dX8_bestHides_36 rfl ?_
          obtain ⟨u23, h24, h⟩ := bind_some h
          refine go_callVi (pc := 38) X 3 [] (ct_X8_hidesAll h24) sh8 rfl gg_X8_212 hd_X8_hidesAll ⟨Nat.le_of_ble_eq_true rfl, Nat.le_of_ble_eq_true rfl⟩ rfl rfl (Nat.le_of_ble_eq_true rfl) dX8_bestHides_38 ?_
          refine go_istore (pc := 41) X [1, 2, 3, 4, 5, 6, 0] (Ls' := [(0, .ref (ad 0)), (1, .int (i32 a1)), (2, .int (i32 a2)), (3, .int (i32 t17.1)), (4, .int (i32 t17.2.1)), (5, .int (i32 t17.2.2.1)), (6, .int (i32 u23.1))]) dX8_bestHides_41 (by decide) rfl ?_
          refine go_iload (pc := 43) X 6 dX8_bestHides_43 rfl ?_
          refine go_iload (pc := 45) X 4 dX8_bestHides_45 rfl ?_
          obtain ⟨j25, h26, h⟩ := bind_some h
          have k27 : Go p l e { frames := 9, cells := 0, slots := 0, locals := 202 } s m args below meth c 7 D cI cB ad shsM A (MQ below (cQ D cI cB ad shsM (some (.int (i32 r))) S' A) args s 0 0 A) 60 [(0, .ref (ad 0)), (1, .int (i32 a1)), (2, .int (i32 a2)), (3, .int (i32 j25.1)), (4, .int (i32 j25.2)), (5, .int (i32 t17.2.2.1))] [] u23.2 := by
            refine go_iinc (pc := 60) X [1, 2, 3, 4, 5, 0] 5 (Ls' := [(0, .ref (ad 0)), (1, .int (i32 a1)), (2, .int (i32 a2)), (3, .int (i32 j25.1)), (4, .int (i32 j25.2)), (5, .int (i32 (t17.2.2.1 + 1)))]) dX8_bestHides_60 rfl (by decide) rfl ?_
            refine go_goto (pc := 63) X 26 dX8_bestHides_63 rfl ?_
            exact lp_back h hx20
          refine go_icmp_gt (pc := 47) X 53 dX8_bestHides_47 rfl (fun c28 => ?_) (fun c28 => ?_)
          · rw [if_pos c28] at h26
            refine go_iload (pc := 53) X 6 dX8_bestHides_53 rfl ?_
            refine go_istore (pc := 55) X [1, 2, 3, 4, 0, 5, 6] (Ls' := [(0, .ref (ad 0)), (1, .int (i32 a1)), (2, .int (i32 a2)), (3, .int (i32 t17.1)), (4, .int (i32 u23.1)), (5, .int (i32 t17.2.2.1)), (6, .int (i32 u23.1))]) dX8_bestHides_55 (by decide) rfl ?_
            refine go_iload (pc := 57) X 5 dX8_bestHides_57 rfl ?_
            refine go_istore_n (pc := 59) X [1, 2, 3, 0, 4, 5, 6] (Ls' := [(0, .ref (ad 0)), (1, .int (i32 a1)), (2, .int (i32 a2)), (3, .int (i32 t17.2.2.1)), (4, .int (i32 u23.1)), (5, .int (i32 t17.2.2.1)), (6, .int (i32 u23.1))]) dX8_bestHides_59 rfl (by decide) rfl ?_
            cases h26
            refine go_pick [0, 1, 2, 3, 4, 5] (Ls' := [(0, .ref (ad 0)), (1, .int (i32 a1)), (2, .int (i32 a2)), (3, .int (i32 t17.2.2.1)), (4, .int (i32 u23.1)), (5, .int (i32 t17.2.2.1))]) rfl ?_
            exact k27
          · rw [if_neg c28] at h26
            refine go_goto (pc := 50) X 60 dX8_bestHides_50 rfl ?_
            cases h26
            refine go_pick [0, 1, 2, 3, 4, 5] (Ls' := [(0, .ref (ad 0)), (1, .int (i32 a1)), (2, .int (i32 a2)), (3, .int (i32 t17.1)), (4, .int (i32 t17.2.1)), (5, .int (i32 t17.2.2.1))]) rfl ?_
            exact k27
      refine H16 FU (0, (-100000), 0, S) r14 h15 ?_
      refine go_iload_n (pc := 66) X 0 dX8_bestHides_66 rfl rfl ?_
      exact go_iret (pc := 67) X h dX8_bestHides_67
    · rw [if_pos c6] at h
      refine go_iconst (pc := 15) X dX8_bestHides_15 ?_
      exact go_iret (pc := 16) X h dX8_bestHides_16
set_option maxRecDepth 100000 in
set_option maxHeartbeats 4000000 in
theorem ct_X8_inTwo {l : Launch} {D : va_G} {cI cB : ClassId} {Z : (Nat → Nat) × (Nat → Nat)} {ad : Nat → Nat} {S : Mem} {a1 : Int} {a2 : Int} {r : Int} {S' : Mem} (h : f_X8_inTwo S a1 a2 = some (r, S')) : Ctr l D cI cB Z ad shsM yX8_inTwo cX8_inTwo 5 (some .int) 7 156 [.ref (ad 0), .int (i32 a1), .int (i32 a2)] S (some (.int (i32 r))) S' := by
  refine ctr_of (by decide +kernel) (Nat.le_of_ble_eq_true rfl) rfl ?_
  intro p e s m args below meth c A X
  unfold f_X8_inTwo at h
  refine go_iload_n (pc := 0) X 1 dX8_inTwo_0 rfl rfl ?_
  refine go_iconst (pc := 1) X dX8_inTwo_1 ?_
  refine go_aload_n (pc := 2) X 0 dX8_inTwo_2 rfl rfl ?_
  refine go_getr (pc := 3) X (fk := 1) sh8 rfl inT_X8 (by decide) fL_X8_13 rfl dX8_inTwo_3 ?_
  refine go_iconst (pc := 6) X dX8_inTwo_6 ?_
  obtain ⟨g1, h⟩ := gd_some h
  refine go_iald (pc := 7) X shM1 (Nat.le_of_ble_eq_true rfl) rfl g1 dX8_inTwo_7 ?_
  refine go_iconst (pc := 8) X dX8_inTwo_8 ?_
  refine go_isub (pc := 9) X dX8_inTwo_9 ?_
  obtain ⟨r2, h3, h⟩ := bind_some h
  refine go_callSi (pc := 10) X 3 [] (ct_X8_in h3) gg_X8_65 hd_X8_in ⟨Nat.le_of_ble_eq_true rfl, Nat.le_of_ble_eq_true rfl⟩ rfl rfl (Nat.le_of_ble_eq_true rfl) dX8_inTwo_10 ?_
  refine go_if_eq (pc := 13) X 23 dX8_inTwo_13 rfl (fun c4 => ?_) (fun c4 => ?_)
  · rw [if_pos c4] at h
    refine go_iconst (pc := 23) X dX8_inTwo_23 ?_
    exact go_iret (pc := 24) X h dX8_inTwo_24
  · rw [if_neg c4] at h
    refine go_iload_n (pc := 16) X 2 dX8_inTwo_16 rfl rfl ?_
    obtain ⟨r5, h6, h⟩ := bind_some h
    refine go_callSi (pc := 17) X 1 [] (ct_X8_isKind h6) gg_X8_168 hd_X8_isKind ⟨Nat.le_of_ble_eq_true rfl, Nat.le_of_ble_eq_true rfl⟩ rfl rfl (Nat.le_of_ble_eq_true rfl) dX8_inTwo_17 ?_
    refine go_if_ne (pc := 20) X 25 dX8_inTwo_20 rfl (fun c7 => ?_) (fun c7 => ?_)
    · rw [if_neg c7] at h
      refine go_aload_n (pc := 25) X 0 dX8_inTwo_25 rfl rfl ?_
      obtain ⟨S8, h9, h⟩ := bind_some h
      refine go_callVv (pc := 26) X 0 [] (ct_X8_putsAside h9) sh8 rfl gg_X8_197 hd_X8_putsAside ⟨Nat.le_of_ble_eq_true rfl, Nat.le_of_ble_eq_true rfl⟩ rfl rfl (Nat.le_of_ble_eq_true rfl) dX8_inTwo_26 ?_
      refine go_aload_n (pc := 29) X 0 dX8_inTwo_29 rfl rfl ?_
      refine go_getr (pc := 30) X (fk := 1) sh8 rfl inT_X8 (by decide) fL_X8_13 rfl dX8_inTwo_30 ?_
      refine go_iconst (pc := 33) X dX8_inTwo_33 ?_
      refine go_iald (pc := 34) X shM1 (Nat.le_of_ble_eq_true rfl) rfl g1 dX8_inTwo_34 ?_
      refine go_iload_n (pc := 35) X 1 dX8_inTwo_35 rfl rfl ?_
      refine go_isub (pc := 36) X dX8_inTwo_36 ?_
      refine go_istore_n (pc := 37) X [1, 2, 3, 0] (Ls' := [(0, .ref (ad 0)), (1, .int (i32 a1)), (2, .int (i32 a2)), (3, .int (i32 ((S8 1 0) - a1)))]) dX8_inTwo_37 rfl (by decide) rfl ?_
      refine go_aload_n (pc := 38) X 0 dX8_inTwo_38 rfl rfl ?_
      refine go_getr (pc := 39) X (fk := 1) sh8 rfl inT_X8 (by decide) fL_X8_13 rfl dX8_inTwo_39 ?_
      refine go_iconst (pc := 42) X dX8_inTwo_42 ?_
      refine go_iload_n (pc := 43) X 1 dX8_inTwo_43 rfl rfl ?_
      obtain ⟨S10, e11, h⟩ := wrk_some h
      refine go_iastE (pc := 44) X e11 shM1 (Nat.le_of_ble_eq_true rfl) rfl g1 dX8_inTwo_44 ?_
      refine go_aload_n (pc := 45) X 0 dX8_inTwo_45 rfl rfl ?_
      obtain ⟨S12, h13, h⟩ := bind_some h
      refine go_callVv (pc := 46) X 0 [] (ct_X8_runs h13) sh8 rfl gg_X8_171 hd_X8_runs ⟨Nat.le_of_ble_eq_true rfl, Nat.le_of_ble_eq_true rfl⟩ rfl rfl (Nat.le_of_ble_eq_true rfl) dX8_inTwo_46 ?_
      refine go_aload_n (pc := 49) X 0 dX8_inTwo_49 rfl rfl ?_
      refine go_iload_n (pc := 50) X 2 dX8_inTwo_50 rfl rfl ?_
      obtain ⟨u14, h15, h⟩ := bind_some h
      refine go_callVi (pc := 51) X 1 [] (ct_X8_paidAll h15) sh8 rfl gg_X8_174 hd_X8_paidAll ⟨Nat.le_of_ble_eq_true rfl, Nat.le_of_ble_eq_true rfl⟩ rfl rfl (Nat.le_of_ble_eq_true rfl) dX8_inTwo_51 ?_
      refine go_istore (pc := 54) X [1, 2, 3, 4, 0] (Ls' := [(0, .ref (ad 0)), (1, .int (i32 a1)), (2, .int (i32 a2)), (3, .int (i32 ((S8 1 0) - a1))), (4, .int (i32 u14.1))]) dX8_inTwo_54 (by decide) rfl ?_
      refine go_aload_n (pc := 56) X 0 dX8_inTwo_56 rfl rfl ?_
      obtain ⟨S16, h17, h⟩ := bind_some h
      refine go_callVv (pc := 57) X 0 [] (ct_X8_settles h17) sh8 rfl gg_X8_177 hd_X8_settles ⟨Nat.le_of_ble_eq_true rfl, Nat.le_of_ble_eq_true rfl⟩ rfl rfl (Nat.le_of_ble_eq_true rfl) dX8_inTwo_57 ?_
      refine go_aload_n (pc := 60) X 0 dX8_inTwo_60 rfl rfl ?_
      refine go_getr (pc := 61) X (fk := 1) sh8 rfl inT_X8 (by decide) fL_X8_13 rfl dX8_inTwo_61 ?_
      refine go_iconst (pc := 64) X dX8_inTwo_64 ?_
      refine go_iload_n (pc := 65) X 3 dX8_inTwo_65 rfl rfl ?_
      obtain ⟨S18, e19, h⟩ := wrk_some h
      refine go_iastE (pc := 66) X e19 shM1 (Nat.le_of_ble_eq_true rfl) rfl g1 dX8_inTwo_66 ?_
      refine go_aload_n (pc := 67) X 0 dX8_inTwo_67 rfl rfl ?_
      obtain ⟨S20, h21, h⟩ := bind_some h
      refine go_callVv (pc := 68) X 0 [] (ct_X8_runs h21) sh8 rfl gg_X8_171 hd_X8_runs ⟨Nat.le_of_ble_eq_true rfl, Nat.le_of_ble_eq_true rfl⟩ rfl rfl (Nat.le_of_ble_eq_true rfl) dX8_inTwo_68 ?_
      refine go_iload (pc := 71) X 4 dX8_inTwo_71 rfl ?_
      refine go_aload_n (pc := 73) X 0 dX8_inTwo_73 rfl rfl ?_
      refine go_iload_n (pc := 74) X 2 dX8_inTwo_74 rfl rfl ?_
      obtain ⟨u22, h23, h⟩ := bind_some h
      refine go_callVi (pc := 75) X 1 [.int (i32 u14.1)] (ct_X8_paidAll h23) sh8 rfl gg_X8_174 hd_X8_paidAll ⟨Nat.le_of_ble_eq_true rfl, Nat.le_of_ble_eq_true rfl⟩ rfl rfl (Nat.le_of_ble_eq_true rfl) dX8_inTwo_75 ?_
      refine go_iadd (pc := 78) X dX8_inTwo_78 ?_
      refine go_istore (pc := 79) X [1, 2, 3, 4, 0] (Ls' := [(0, .ref (ad 0)), (1, .int (i32 a1)), (2, .int (i32 a2)), (3, .int (i32 ((S8 1 0) - a1))), (4, .int (i32 (u14.1 + u22.1)))]) dX8_inTwo_79 (by decide) rfl ?_
      refine go_aload_n (pc := 81) X 0 dX8_inTwo_81 rfl rfl ?_
      obtain ⟨S24, h25, h⟩ := bind_some h
      refine go_callVv (pc := 82) X 0 [] (ct_X8_takesBack h25) sh8 rfl gg_X8_200 hd_X8_takesBack ⟨Nat.le_of_ble_eq_true rfl, Nat.le_of_ble_eq_true rfl⟩ rfl rfl (Nat.le_of_ble_eq_true rfl) dX8_inTwo_82 ?_
      refine go_iload (pc := 85) X 4 dX8_inTwo_85 rfl ?_
      exact go_iret (pc := 87) X h dX8_inTwo_87
    · rw [if_pos c7] at h
      refine go_iconst (pc := 23) X dX8_inTwo_23 ?_
      exact go_iret (pc := 24) X h dX8_inTwo_24
set_option maxRecDepth 100000 in
set_option maxHeartbeats 4000000 in
theorem ct_X8_splitGain {l : Launch} {D : va_G} {cI cB : ClassId} {Z : (Nat → Nat) × (Nat → Nat)} {ad : Nat → Nat} {S : Mem} {a1 : Int} {a2 : Int} {a3 : Int} {r : Int} {S' : Mem} (h : f_X8_splitGain S a1 a2 a3 = some (r, S')) : Ctr l D cI cB Z ad shsM yX8_splitGain cX8_splitGain 7 (some .int) 7 156 [.ref (ad 0), .int (i32 a1), .int (i32 a2), .int (i32 a3)] S (some (.int (i32 r))) S' := by
  refine ctr_of (by decide +kernel) (Nat.le_of_ble_eq_true rfl) rfl ?_
  intro p e s m args below meth c A X
  unfold f_X8_splitGain at h
  refine go_aload_n (pc := 0) X 0 dX8_splitGain_0 rfl rfl ?_
  refine go_iload_n (pc := 1) X 1 dX8_splitGain_1 rfl rfl ?_
  obtain ⟨r1, h2, h⟩ := bind_some h
  refine go_callVi (pc := 2) X 1 [] (ct_X8_isBidder h2) sh8 rfl gg_X8_90 hd_X8_isBidder ⟨Nat.le_of_ble_eq_true rfl, Nat.le_of_ble_eq_true rfl⟩ rfl rfl (Nat.le_of_ble_eq_true rfl) dX8_splitGain_2 ?_
  refine go_if_eq (pc := 5) X 30 dX8_splitGain_5 rfl (fun c3 => ?_) (fun c3 => ?_)
  · rw [if_pos c3] at h
    refine go_ldc (pc := 30) X (-100000) cn_X8_180 rfl dX8_splitGain_30 ?_
    exact go_iret (pc := 32) X h dX8_splitGain_32
  · rw [if_neg c3] at h
    refine go_iload_n (pc := 8) X 3 dX8_splitGain_8 rfl rfl ?_
    obtain ⟨r4, h5, h⟩ := bind_some h
    refine go_callSi (pc := 9) X 1 [] (ct_X8_isKind h5) gg_X8_168 hd_X8_isKind ⟨Nat.le_of_ble_eq_true rfl, Nat.le_of_ble_eq_true rfl⟩ rfl rfl (Nat.le_of_ble_eq_true rfl) dX8_splitGain_9 ?_
    refine go_if_eq (pc := 12) X 30 dX8_splitGain_12 rfl (fun c6 => ?_) (fun c6 => ?_)
    · rw [if_pos c6] at h
      refine go_ldc (pc := 30) X (-100000) cn_X8_180 rfl dX8_splitGain_30 ?_
      exact go_iret (pc := 32) X h dX8_splitGain_32
    · rw [if_neg c6] at h
      refine go_iload_n (pc := 15) X 2 dX8_splitGain_15 rfl rfl ?_
      refine go_iconst (pc := 16) X dX8_splitGain_16 ?_
      refine go_aload_n (pc := 17) X 0 dX8_splitGain_17 rfl rfl ?_
      refine go_iload_n (pc := 18) X 1 dX8_splitGain_18 rfl rfl ?_
      obtain ⟨r7, h8, h⟩ := bind_some h
      refine go_callVi (pc := 19) X 1 [.int (i32 1), .int (i32 a2)] (ct_X8_valuesOf h8) sh8 rfl gg_X8_73 hd_X8_valuesOf ⟨Nat.le_of_ble_eq_true rfl, Nat.le_of_ble_eq_true rfl⟩ rfl rfl (Nat.le_of_ble_eq_true rfl) dX8_splitGain_19 ?_
      refine go_iconst (pc := 22) X dX8_splitGain_22 ?_
      refine go_isub (pc := 23) X dX8_splitGain_23 ?_
      obtain ⟨r9, h10, h⟩ := bind_some h
      refine go_callSi (pc := 24) X 3 [] (ct_X8_in h10) gg_X8_65 hd_X8_in ⟨Nat.le_of_ble_eq_true rfl, Nat.le_of_ble_eq_true rfl⟩ rfl rfl (Nat.le_of_ble_eq_true rfl) dX8_splitGain_24 ?_
      refine go_if_ne (pc := 27) X 33 dX8_splitGain_27 rfl (fun c11 => ?_) (fun c11 => ?_)
      · rw [if_neg c11] at h
        refine go_aload_n (pc := 33) X 0 dX8_splitGain_33 rfl rfl ?_
        obtain ⟨S12, h13, h⟩ := bind_some h
        refine go_callVv (pc := 34) X 0 [] (ct_X8_runs h13) sh8 rfl gg_X8_171 hd_X8_runs ⟨Nat.le_of_ble_eq_true rfl, Nat.le_of_ble_eq_true rfl⟩ rfl rfl (Nat.le_of_ble_eq_true rfl) dX8_splitGain_34 ?_
        refine go_aload_n (pc := 37) X 0 dX8_splitGain_37 rfl rfl ?_
        refine go_iload_n (pc := 38) X 1 dX8_splitGain_38 rfl rfl ?_
        refine go_iload_n (pc := 39) X 3 dX8_splitGain_39 rfl rfl ?_
        obtain ⟨u14, h15, h⟩ := bind_some h
        refine go_callVi (pc := 40) X 2 [] (ct_X8_paysOf h15) sh8 rfl gg_X8_165 hd_X8_paysOf ⟨Nat.le_of_ble_eq_true rfl, Nat.le_of_ble_eq_true rfl⟩ rfl rfl (Nat.le_of_ble_eq_true rfl) dX8_splitGain_40 ?_
        refine go_istore (pc := 43) X [1, 2, 3, 4, 0] (Ls' := [(0, .ref (ad 0)), (1, .int (i32 a1)), (2, .int (i32 a2)), (3, .int (i32 a3)), (4, .int (i32 u14.1))]) dX8_splitGain_43 (by decide) rfl ?_
        refine go_aload_n (pc := 45) X 0 dX8_splitGain_45 rfl rfl ?_
        obtain ⟨S16, h17, h⟩ := bind_some h
        refine go_callVv (pc := 46) X 0 [] (ct_X8_putsAside h17) sh8 rfl gg_X8_197 hd_X8_putsAside ⟨Nat.le_of_ble_eq_true rfl, Nat.le_of_ble_eq_true rfl⟩ rfl rfl (Nat.le_of_ble_eq_true rfl) dX8_splitGain_46 ?_
        refine go_aload_n (pc := 49) X 0 dX8_splitGain_49 rfl rfl ?_
        refine go_iload_n (pc := 50) X 1 dX8_splitGain_50 rfl rfl ?_
        refine go_iload_n (pc := 51) X 2 dX8_splitGain_51 rfl rfl ?_
        obtain ⟨u18, h19, h⟩ := bind_some h
        refine go_callVi (pc := 52) X 2 [] (ct_X8_parts h19) sh8 rfl gg_X8_117 hd_X8_parts ⟨Nat.le_of_ble_eq_true rfl, Nat.le_of_ble_eq_true rfl⟩ rfl rfl (Nat.le_of_ble_eq_true rfl) dX8_splitGain_52 ?_
        refine go_istore (pc := 55) X [1, 2, 3, 4, 5, 0] (Ls' := [(0, .ref (ad 0)), (1, .int (i32 a1)), (2, .int (i32 a2)), (3, .int (i32 a3)), (4, .int (i32 u14.1)), (5, .int (i32 u18.1))]) dX8_splitGain_55 (by decide) rfl ?_
        refine go_aload_n (pc := 57) X 0 dX8_splitGain_57 rfl rfl ?_
        obtain ⟨S20, h21, h⟩ := bind_some h
        refine go_callVv (pc := 58) X 0 [] (ct_X8_runs h21) sh8 rfl gg_X8_171 hd_X8_runs ⟨Nat.le_of_ble_eq_true rfl, Nat.le_of_ble_eq_true rfl⟩ rfl rfl (Nat.le_of_ble_eq_true rfl) dX8_splitGain_58 ?_
        refine go_aload_n (pc := 61) X 0 dX8_splitGain_61 rfl rfl ?_
        refine go_iload_n (pc := 62) X 1 dX8_splitGain_62 rfl rfl ?_
        refine go_iload_n (pc := 63) X 3 dX8_splitGain_63 rfl rfl ?_
        obtain ⟨u22, h23, h⟩ := bind_some h
        refine go_callVi (pc := 64) X 2 [] (ct_X8_paysOf h23) sh8 rfl gg_X8_165 hd_X8_paysOf ⟨Nat.le_of_ble_eq_true rfl, Nat.le_of_ble_eq_true rfl⟩ rfl rfl (Nat.le_of_ble_eq_true rfl) dX8_splitGain_64 ?_
        refine go_aload_n (pc := 67) X 0 dX8_splitGain_67 rfl rfl ?_
        refine go_iload (pc := 68) X 5 dX8_splitGain_68 rfl ?_
        refine go_iload_n (pc := 70) X 3 dX8_splitGain_70 rfl rfl ?_
        obtain ⟨u24, h25, h⟩ := bind_some h
        refine go_callVi (pc := 71) X 2 [.int (i32 u22.1)] (ct_X8_paysOf h25) sh8 rfl gg_X8_165 hd_X8_paysOf ⟨Nat.le_of_ble_eq_true rfl, Nat.le_of_ble_eq_true rfl⟩ rfl rfl (Nat.le_of_ble_eq_true rfl) dX8_splitGain_71 ?_
        refine go_iadd (pc := 74) X dX8_splitGain_74 ?_
        refine go_istore (pc := 75) X [1, 2, 3, 4, 5, 6, 0] (Ls' := [(0, .ref (ad 0)), (1, .int (i32 a1)), (2, .int (i32 a2)), (3, .int (i32 a3)), (4, .int (i32 u14.1)), (5, .int (i32 u18.1)), (6, .int (i32 (u22.1 + u24.1)))]) dX8_splitGain_75 (by decide) rfl ?_
        refine go_aload_n (pc := 77) X 0 dX8_splitGain_77 rfl rfl ?_
        obtain ⟨S26, h27, h⟩ := bind_some h
        refine go_callVv (pc := 78) X 0 [] (ct_X8_takesBack h27) sh8 rfl gg_X8_200 hd_X8_takesBack ⟨Nat.le_of_ble_eq_true rfl, Nat.le_of_ble_eq_true rfl⟩ rfl rfl (Nat.le_of_ble_eq_true rfl) dX8_splitGain_78 ?_
        refine go_iload (pc := 81) X 4 dX8_splitGain_81 rfl ?_
        refine go_iload (pc := 83) X 6 dX8_splitGain_83 rfl ?_
        refine go_isub (pc := 85) X dX8_splitGain_85 ?_
        exact go_iret (pc := 86) X h dX8_splitGain_86
      · rw [if_pos c11] at h
        refine go_ldc (pc := 30) X (-100000) cn_X8_180 rfl dX8_splitGain_30 ?_
        exact go_iret (pc := 32) X h dX8_splitGain_32
set_option maxRecDepth 100000 in
set_option maxHeartbeats 4000000 in
theorem ct_X8_reserveFor {l : Launch} {D : va_G} {cI cB : ClassId} {Z : (Nat → Nat) × (Nat → Nat)} {ad : Nat → Nat} {S : Mem} {a1 : Int} {r : Int} {S' : Mem} (h : f_X8_reserveFor S a1 = some (r, S')) : Ctr l D cI cB Z ad shsM yX8_reserveFor cX8_reserveFor 3 (some .int) 9 205 [.ref (ad 0), .int (i32 a1)] S (some (.int (i32 r))) S' := by
  refine ctr_of (by decide +kernel) (Nat.le_of_ble_eq_true rfl) rfl ?_
  intro p e s m args below meth c A X
  unfold f_X8_reserveFor at h
  refine go_iload_n (pc := 0) X 1 dX8_reserveFor_0 rfl rfl ?_
  refine go_iconst (pc := 1) X dX8_reserveFor_1 ?_
  refine go_icmp_ge (pc := 2) X 7 dX8_reserveFor_2 rfl (fun c1 => ?_) (fun c1 => ?_)
  · rw [if_neg c1] at h
    refine go_iconst (pc := 7) X dX8_reserveFor_7 ?_
    refine go_istore_n (pc := 8) X [1, 2, 0] (Ls' := [(0, .ref (ad 0)), (1, .int (i32 a1)), (2, .int (i32 0))]) dX8_reserveFor_8 rfl (by decide) rfl ?_
    obtain ⟨r6, h7, h⟩ := bind_some h
    have H8 : ∀ (n : Nat) (t9 : Int × Mem) (z10 : (Mem) ⊕ (Int × Mem)), lp (f_X8_reserveFor_l9 a1) n t9 = some z10 → lpG (fun z13 : Mem => Go p l e { frames := 9, cells := 0, slots := 0, locals := 205 } s m args below meth c 3 D cI cB ad shsM A (MQ below (cQ D cI cB ad shsM (some (.int (i32 r))) S' A) args s 0 0 A) 34 [] [] z13) (fun u : Int × Mem => some u = some (r, S')) z10 → Go p l e { frames := 9, cells := 0, slots := 0, locals := 205 } s m args below meth c 3 D cI cB ad shsM A (MQ below (cQ D cI cB ad shsM (some (.int (i32 r))) S' A) args s 0 0 A) 9 [(0, .ref (ad 0)), (1, .int (i32 a1)), (2, .int (i32 t9.1))] [] t9.2 := by
      refine lp_go (fun t9 : Int × Mem => Go p l e { frames := 9, cells := 0, slots := 0, locals := 205 } s m args below meth c 3 D cI cB ad shsM A (MQ below (cQ D cI cB ad shsM (some (.int (i32 r))) S' A) args s 0 0 A) 9 [(0, .ref (ad 0)), (1, .int (i32 a1)), (2, .int (i32 t9.1))] [] t9.2) (fun z10 : (Mem) ⊕ (Int × Mem) => lpG (fun z13 : Mem => Go p l e { frames := 9, cells := 0, slots := 0, locals := 205 } s m args below meth c 3 D cI cB ad shsM A (MQ below (cQ D cI cB ad shsM (some (.int (i32 r))) S' A) args s 0 0 A) 34 [] [] z13) (fun u : Int × Mem => some u = some (r, S')) z10) ?_
      intro t9 x11 h hx12
      unfold f_X8_reserveFor_l9 at h
      refine go_iload_n (pc := 9) X 2 dX8_reserveFor_9 rfl rfl ?_
      refine go_bipush (pc := 10) X dX8_reserveFor_10 (by decide) (by decide) ?_
      refine go_icmp_gt (pc := 12) X 34 dX8_reserveFor_12 rfl (fun c14 => ?_) (fun c14 => ?_)
      · rw [if_pos c14] at h
        refine go_pick [] (Ls' := []) rfl ?_
        exact lp_back h hx12
      · rw [if_neg c14] at h
        refine go_aload_n (pc := 15) X 0 dX8_reserveFor_15 rfl rfl ?_
        refine go_iconst (pc := 16) X dX8_reserveFor_16 ?_
        refine go_iload_n (pc := 17) X 2 dX8_reserveFor_17 rfl rfl ?_
        refine go_iconst (pc := 18) X dX8_reserveFor_18 ?_
        obtain ⟨u15, h16, h⟩ := bind_some h
        refine go_callVi (pc := 19) X 3 [] (ct_X8_toldBy h16) sh8 rfl gg_X8_193 hd_X8_toldBy ⟨Nat.le_of_ble_eq_true rfl, Nat.le_of_ble_eq_true rfl⟩ rfl rfl (Nat.le_of_ble_eq_true rfl) dX8_reserveFor_19 ?_
        refine go_iload_n (pc := 22) X 1 dX8_reserveFor_22 rfl rfl ?_
        refine go_icmp_lt (pc := 23) X 28 dX8_reserveFor_23 rfl (fun c17 => ?_) (fun c17 => ?_)
        · rw [if_pos c17] at h
          refine go_iinc (pc := 28) X [1, 2, 0] 2 (Ls' := [(0, .ref (ad 0)), (1, .int (i32 a1)), (2, .int (i32 (t9.1 + 1)))]) dX8_reserveFor_28 rfl (by decide) rfl ?_
          refine go_goto (pc := 31) X 9 dX8_reserveFor_31 rfl ?_
          exact lp_back h hx12
        · rw [if_neg c17] at h
          refine go_iload_n (pc := 26) X 2 dX8_reserveFor_26 rfl rfl ?_
          exact go_iret (pc := 27) X (lp_back h hx12) dX8_reserveFor_27
    refine H8 FU (0, S) r6 h7 ?_
    cases r6 with
    | inl r18 =>
      have h := lct_l h
      refine lpG_l ?_
      refine go_bipush (pc := 34) X dX8_reserveFor_34 (by decide) (by decide) ?_
      exact go_iret (pc := 36) X h dX8_reserveFor_36
    | inr u19 =>
      have h := lct_r h
      refine lpG_r ?_
      exact h
  · rw [if_pos c1] at h
    refine go_iconst (pc := 5) X dX8_reserveFor_5 ?_
    exact go_iret (pc := 6) X h dX8_reserveFor_6
set_option maxRecDepth 100000 in
set_option maxHeartbeats 4000000 in
theorem ct_X8_collude {l : Launch} {D : va_G} {cI cB : ClassId} {Z : (Nat → Nat) × (Nat → Nat)} {ad : Nat → Nat} {S : Mem} {a1 : Int} {a2 : Int} {a3 : Int} {r : Int} {S' : Mem} (h : f_X8_collude S a1 a2 a3 = some (r, S')) : Ctr l D cI cB Z ad shsM yX8_collude cX8_collude 7 (some .int) 7 156 [.ref (ad 0), .int (i32 a1), .int (i32 a2), .int (i32 a3)] S (some (.int (i32 r))) S' := by
  refine ctr_of (by decide +kernel) (Nat.le_of_ble_eq_true rfl) rfl ?_
  intro p e s m args below meth c A X
  unfold f_X8_collude at h
  refine go_aload_n (pc := 0) X 0 dX8_collude_0 rfl rfl ?_
  refine go_iload_n (pc := 1) X 1 dX8_collude_1 rfl rfl ?_
  obtain ⟨r1, h2, h⟩ := bind_some h
  refine go_callVi (pc := 2) X 1 [] (ct_X8_isBidder h2) sh8 rfl gg_X8_90 hd_X8_isBidder ⟨Nat.le_of_ble_eq_true rfl, Nat.le_of_ble_eq_true rfl⟩ rfl rfl (Nat.le_of_ble_eq_true rfl) dX8_collude_2 ?_
  refine go_if_eq (pc := 5) X 28 dX8_collude_5 rfl (fun c3 => ?_) (fun c3 => ?_)
  · rw [if_pos c3] at h
    refine go_ldc (pc := 28) X (-100000) cn_X8_180 rfl dX8_collude_28 ?_
    exact go_iret (pc := 30) X h dX8_collude_30
  · rw [if_neg c3] at h
    refine go_aload_n (pc := 8) X 0 dX8_collude_8 rfl rfl ?_
    refine go_iload_n (pc := 9) X 2 dX8_collude_9 rfl rfl ?_
    obtain ⟨r4, h5, h⟩ := bind_some h
    refine go_callVi (pc := 10) X 1 [] (ct_X8_isBidder h5) sh8 rfl gg_X8_90 hd_X8_isBidder ⟨Nat.le_of_ble_eq_true rfl, Nat.le_of_ble_eq_true rfl⟩ rfl rfl (Nat.le_of_ble_eq_true rfl) dX8_collude_10 ?_
    refine go_if_eq (pc := 13) X 28 dX8_collude_13 rfl (fun c6 => ?_) (fun c6 => ?_)
    · rw [if_pos c6] at h
      refine go_ldc (pc := 28) X (-100000) cn_X8_180 rfl dX8_collude_28 ?_
      exact go_iret (pc := 30) X h dX8_collude_30
    · rw [if_neg c6] at h
      refine go_iload_n (pc := 16) X 1 dX8_collude_16 rfl rfl ?_
      refine go_iload_n (pc := 17) X 2 dX8_collude_17 rfl rfl ?_
      refine go_icmp_eq (pc := 18) X 28 dX8_collude_18 rfl (fun c7 => ?_) (fun c7 => ?_)
      · rw [if_pos c7] at h
        refine go_ldc (pc := 28) X (-100000) cn_X8_180 rfl dX8_collude_28 ?_
        exact go_iret (pc := 30) X h dX8_collude_30
      · rw [if_neg c7] at h
        refine go_iload_n (pc := 21) X 3 dX8_collude_21 rfl rfl ?_
        obtain ⟨r8, h9, h⟩ := bind_some h
        refine go_callSi (pc := 22) X 1 [] (ct_X8_isKind h9) gg_X8_168 hd_X8_isKind ⟨Nat.le_of_ble_eq_true rfl, Nat.le_of_ble_eq_true rfl⟩ rfl rfl (Nat.le_of_ble_eq_true rfl) dX8_collude_22 ?_
        refine go_if_ne (pc := 25) X 31 dX8_collude_25 rfl (fun c10 => ?_) (fun c10 => ?_)
        · rw [if_neg c10] at h
          refine go_aload_n (pc := 31) X 0 dX8_collude_31 rfl rfl ?_
          obtain ⟨S11, h12, h⟩ := bind_some h
          refine go_callVv (pc := 32) X 0 [] (ct_X8_runs h12) sh8 rfl gg_X8_171 hd_X8_runs ⟨Nat.le_of_ble_eq_true rfl, Nat.le_of_ble_eq_true rfl⟩ rfl rfl (Nat.le_of_ble_eq_true rfl) dX8_collude_32 ?_
          refine go_aload_n (pc := 35) X 0 dX8_collude_35 rfl rfl ?_
          refine go_iload_n (pc := 36) X 1 dX8_collude_36 rfl rfl ?_
          refine go_iload_n (pc := 37) X 3 dX8_collude_37 rfl rfl ?_
          obtain ⟨u13, h14, h⟩ := bind_some h
          refine go_callVi (pc := 38) X 2 [] (ct_X8_paysOf h14) sh8 rfl gg_X8_165 hd_X8_paysOf ⟨Nat.le_of_ble_eq_true rfl, Nat.le_of_ble_eq_true rfl⟩ rfl rfl (Nat.le_of_ble_eq_true rfl) dX8_collude_38 ?_
          refine go_aload_n (pc := 41) X 0 dX8_collude_41 rfl rfl ?_
          refine go_iload_n (pc := 42) X 2 dX8_collude_42 rfl rfl ?_
          refine go_iload_n (pc := 43) X 3 dX8_collude_43 rfl rfl ?_
          obtain ⟨u15, h16, h⟩ := bind_some h
          refine go_callVi (pc := 44) X 2 [.int (i32 u13.1)] (ct_X8_paysOf h16) sh8 rfl gg_X8_165 hd_X8_paysOf ⟨Nat.le_of_ble_eq_true rfl, Nat.le_of_ble_eq_true rfl⟩ rfl rfl (Nat.le_of_ble_eq_true rfl) dX8_collude_44 ?_
          refine go_iadd (pc := 47) X dX8_collude_47 ?_
          refine go_istore (pc := 48) X [1, 2, 3, 4, 0] (Ls' := [(0, .ref (ad 0)), (1, .int (i32 a1)), (2, .int (i32 a2)), (3, .int (i32 a3)), (4, .int (i32 (u13.1 + u15.1)))]) dX8_collude_48 (by decide) rfl ?_
          refine go_aload_n (pc := 50) X 0 dX8_collude_50 rfl rfl ?_
          obtain ⟨S17, h18, h⟩ := bind_some h
          refine go_callVv (pc := 51) X 0 [] (ct_X8_putsAside h18) sh8 rfl gg_X8_197 hd_X8_putsAside ⟨Nat.le_of_ble_eq_true rfl, Nat.le_of_ble_eq_true rfl⟩ rfl rfl (Nat.le_of_ble_eq_true rfl) dX8_collude_51 ?_
          refine go_aload_n (pc := 54) X 0 dX8_collude_54 rfl rfl ?_
          refine go_getr (pc := 55) X (fk := 1) sh8 rfl inT_X8 (by decide) fL_X8_13 rfl dX8_collude_55 ?_
          refine go_iconst (pc := 58) X dX8_collude_58 ?_
          refine go_bipush (pc := 59) X dX8_collude_59 (by decide) (by decide) ?_
          refine go_iload_n (pc := 61) X 1 dX8_collude_61 rfl rfl ?_
          refine go_imul (pc := 62) X dX8_collude_62 ?_
          refine go_iadd (pc := 63) X dX8_collude_63 ?_
          refine go_bipush (pc := 64) X dX8_collude_64 (by decide) (by decide) ?_
          refine go_aload_n (pc := 66) X 0 dX8_collude_66 rfl rfl ?_
          refine go_iload_n (pc := 67) X 1 dX8_collude_67 rfl rfl ?_
          obtain ⟨r19, h20, h⟩ := bind_some h
          refine go_callVi (pc := 68) X 1 [.int (i32 8), .int (i32 (3 + (10 * a1))), .ref (ad 1)] (ct_X8_capOf h20) sh8 rfl gg_X8_69 hd_X8_capOf ⟨Nat.le_of_ble_eq_true rfl, Nat.le_of_ble_eq_true rfl⟩ rfl rfl (Nat.le_of_ble_eq_true rfl) dX8_collude_68 ?_
          refine go_aload_n (pc := 71) X 0 dX8_collude_71 rfl rfl ?_
          refine go_iload_n (pc := 72) X 2 dX8_collude_72 rfl rfl ?_
          obtain ⟨r21, h22, h⟩ := bind_some h
          refine go_callVi (pc := 73) X 1 [.int (i32 r19), .int (i32 8), .int (i32 (3 + (10 * a1))), .ref (ad 1)] (ct_X8_capOf h22) sh8 rfl gg_X8_69 hd_X8_capOf ⟨Nat.le_of_ble_eq_true rfl, Nat.le_of_ble_eq_true rfl⟩ rfl rfl (Nat.le_of_ble_eq_true rfl) dX8_collude_73 ?_
          refine go_iadd (pc := 76) X dX8_collude_76 ?_
          obtain ⟨r23, h24, h⟩ := bind_some h
          refine go_callSi (pc := 77) X 2 [.int (i32 (3 + (10 * a1))), .ref (ad 1)] (ct_X8_less h24) gg_X8_76 hd_X8_less ⟨Nat.le_of_ble_eq_true rfl, Nat.le_of_ble_eq_true rfl⟩ rfl rfl (Nat.le_of_ble_eq_true rfl) dX8_collude_77 ?_
          obtain ⟨g25, h⟩ := gd_some h
          obtain ⟨S26, e27, h⟩ := wrk_some h
          refine go_iastE (pc := 80) X e27 shM1 (Nat.le_of_ble_eq_true rfl) rfl g25 dX8_collude_80 ?_
          refine go_iconst (pc := 81) X dX8_collude_81 ?_
          refine go_istore (pc := 82) X [1, 2, 3, 4, 5, 0] (Ls' := [(0, .ref (ad 0)), (1, .int (i32 a1)), (2, .int (i32 a2)), (3, .int (i32 a3)), (4, .int (i32 (u13.1 + u15.1))), (5, .int (i32 0))]) dX8_collude_82 (by decide) rfl ?_
          obtain ⟨r62, h63, h⟩ := bind_some h
          have H64 : ∀ (n : Nat) (t65 : Int × Mem) (z66 : Mem), lp (f_X8_collude_l84 a1 a2 a3 (u13.1 + u15.1)) n t65 = some z66 → Go p l e { frames := 7, cells := 0, slots := 0, locals := 156 } s m args below meth c 7 D cI cB ad shsM A (MQ below (cQ D cI cB ad shsM (some (.int (i32 r))) S' A) args s 0 0 A) 158 [(0, .ref (ad 0)), (1, .int (i32 a1)), (2, .int (i32 a2)), (3, .int (i32 a3)), (4, .int (i32 (u13.1 + u15.1)))] [] z66 → Go p l e { frames := 7, cells := 0, slots := 0, locals := 156 } s m args below meth c 7 D cI cB ad shsM A (MQ below (cQ D cI cB ad shsM (some (.int (i32 r))) S' A) args s 0 0 A) 84 [(0, .ref (ad 0)), (1, .int (i32 a1)), (2, .int (i32 a2)), (3, .int (i32 a3)), (4, .int (i32 (u13.1 + u15.1))), (5, .int (i32 t65.1))] [] t65.2 := by
            refine lp_go (fun t65 : Int × Mem => Go p l e { frames := 7, cells := 0, slots := 0, locals := 156 } s m args below meth c 7 D cI cB ad shsM A (MQ below (cQ D cI cB ad shsM (some (.int (i32 r))) S' A) args s 0 0 A) 84 [(0, .ref (ad 0)), (1, .int (i32 a1)), (2, .int (i32 a2)), (3, .int (i32 a3)), (4, .int (i32 (u13.1 + u15.1))), (5, .int (i32 t65.1))] [] t65.2) (fun z66 : Mem => Go p l e { frames := 7, cells := 0, slots := 0, locals := 156 } s m args below meth c 7 D cI cB ad shsM A (MQ below (cQ D cI cB ad shsM (some (.int (i32 r))) S' A) args s 0 0 A) 158 [(0, .ref (ad 0)), (1, .int (i32 a1)), (2, .int (i32 a2)), (3, .int (i32 a3)), (4, .int (i32 (u13.1 + u15.1)))] [] z66) ?_
            intro t65 x67 h hx68
            unfold f_X8_collude_l84 at h
            refine go_iload (pc := 84) X 5 dX8_collude_84 rfl ?_
            refine go_aload_n (pc := 86) X 0 dX8_collude_86 rfl rfl ?_
            refine go_iload_n (pc := 87) X 2 dX8_collude_87 rfl rfl ?_
            obtain ⟨r70, h71, h⟩ := bind_some h
            refine go_callVi (pc := 88) X 1 [.int (i32 t65.1)] (ct_X8_valuesOf h71) sh8 rfl gg_X8_73 hd_X8_valuesOf ⟨Nat.le_of_ble_eq_true rfl, Nat.le_of_ble_eq_true rfl⟩ rfl rfl (Nat.le_of_ble_eq_true rfl) dX8_collude_88 ?_
            refine go_icmp_ge (pc := 91) X 158 dX8_collude_91 rfl (fun c72 => ?_) (fun c72 => ?_)
            · rw [if_neg c72] at h
              refine go_pick [0, 1, 2, 3, 4] (Ls' := [(0, .ref (ad 0)), (1, .int (i32 a1)), (2, .int (i32 a2)), (3, .int (i32 a3)), (4, .int (i32 (u13.1 + u15.1)))]) rfl ?_
              exact lp_back h hx68
            · rw [if_pos c72] at h
              refine go_aload_n (pc := 94) X 0 dX8_collude_94 rfl rfl ?_
              refine go_iload_n (pc := 95) X 2 dX8_collude_95 rfl rfl ?_
              refine go_iload (pc := 96) X 5 dX8_collude_96 rfl ?_
              obtain ⟨r73, h74, h⟩ := bind_some h
              refine go_callVi (pc := 98) X 2 [] (ct_X8_valueAt h74) sh8 rfl gg_X8_114 hd_X8_valueAt ⟨Nat.le_of_ble_eq_true rfl, Nat.le_of_ble_eq_true rfl⟩ rfl rfl (Nat.le_of_ble_eq_true rfl) dX8_collude_98 ?_
              refine go_istore (pc := 101) X [1, 2, 3, 4, 5, 6, 0] (Ls' := [(0, .ref (ad 0)), (1, .int (i32 a1)), (2, .int (i32 a2)), (3, .int (i32 a3)), (4, .int (i32 (u13.1 + u15.1))), (5, .int (i32 t65.1)), (6, .int (i32 r73))]) dX8_collude_101 (by decide) rfl ?_
              refine go_aload_n (pc := 103) X 0 dX8_collude_103 rfl rfl ?_
              refine go_iload_n (pc := 104) X 1 dX8_collude_104 rfl rfl ?_
              obtain ⟨r75, h76, h⟩ := bind_some h
              refine go_callVi (pc := 105) X 1 [] (ct_X8_valuesOf h76) sh8 rfl gg_X8_73 hd_X8_valuesOf ⟨Nat.le_of_ble_eq_true rfl, Nat.le_of_ble_eq_true rfl⟩ rfl rfl (Nat.le_of_ble_eq_true rfl) dX8_collude_105 ?_
              refine go_bipush (pc := 108) X dX8_collude_108 (by decide) (by decide) ?_
              obtain ⟨j77, h78, h⟩ := bind_some h
              have k79 : Go p l e { frames := 7, cells := 0, slots := 0, locals := 156 } s m args below meth c 7 D cI cB ad shsM A (MQ below (cQ D cI cB ad shsM (some (.int (i32 r))) S' A) args s 0 0 A) 152 [(0, .ref (ad 0)), (1, .int (i32 a1)), (2, .int (i32 a2)), (3, .int (i32 a3)), (4, .int (i32 (u13.1 + u15.1))), (5, .int (i32 t65.1))] [] j77 := by
                refine go_iinc (pc := 152) X [1, 2, 3, 4, 5, 0] 5 (Ls' := [(0, .ref (ad 0)), (1, .int (i32 a1)), (2, .int (i32 a2)), (3, .int (i32 a3)), (4, .int (i32 (u13.1 + u15.1))), (5, .int (i32 (t65.1 + 1)))]) dX8_collude_152 rfl (by decide) rfl ?_
                refine go_goto (pc := 155) X 84 dX8_collude_155 rfl ?_
                exact lp_back h hx68
              refine go_icmp_ne (pc := 110) X 128 dX8_collude_110 rfl (fun c80 => ?_) (fun c80 => ?_)
              · rw [if_neg c80] at h78
                refine go_aload_n (pc := 128) X 0 dX8_collude_128 rfl rfl ?_
                refine go_iload_n (pc := 129) X 1 dX8_collude_129 rfl rfl ?_
                obtain ⟨r81, h82, h78⟩ := bind_some h78
                refine go_callVi (pc := 130) X 1 [] (ct_X8_valuesOf h82) sh8 rfl gg_X8_73 hd_X8_valuesOf ⟨Nat.le_of_ble_eq_true rfl, Nat.le_of_ble_eq_true rfl⟩ rfl rfl (Nat.le_of_ble_eq_true rfl) dX8_collude_130 ?_
                refine go_bipush (pc := 133) X dX8_collude_133 (by decide) (by decide) ?_
                obtain ⟨j83, h84, h78⟩ := bind_some h78
                have k85 : Go p l e { frames := 7, cells := 0, slots := 0, locals := 156 } s m args below meth c 7 D cI cB ad shsM A (MQ below (cQ D cI cB ad shsM (some (.int (i32 r))) S' A) args s 0 0 A) 145 [(0, .ref (ad 0)), (1, .int (i32 a1)), (2, .int (i32 a2)), (3, .int (i32 a3)), (4, .int (i32 (u13.1 + u15.1))), (5, .int (i32 t65.1)), (6, .int (i32 r73))] [] j83 := by
                  refine go_aload_n (pc := 145) X 0 dX8_collude_145 rfl rfl ?_
                  refine go_iload_n (pc := 146) X 1 dX8_collude_146 rfl rfl ?_
                  refine go_iload (pc := 147) X 6 dX8_collude_147 rfl ?_
                  obtain ⟨S86, h87, h78⟩ := bind_some h78
                  refine go_callVv (pc := 149) X 2 [] (ct_X8_comes h87) sh8 rfl gg_X8_101 hd_X8_comes ⟨Nat.le_of_ble_eq_true rfl, Nat.le_of_ble_eq_true rfl⟩ rfl rfl (Nat.le_of_ble_eq_true rfl) dX8_collude_149 ?_
                  cases h78
                  refine go_pick [0, 1, 2, 3, 4, 5] (Ls' := [(0, .ref (ad 0)), (1, .int (i32 a1)), (2, .int (i32 a2)), (3, .int (i32 a3)), (4, .int (i32 (u13.1 + u15.1))), (5, .int (i32 t65.1))]) rfl ?_
                  exact k79
                refine go_icmp_ne (pc := 135) X 145 dX8_collude_135 rfl (fun c88 => ?_) (fun c88 => ?_)
                · rw [if_neg c88] at h84
                  cases h84
                  exact k85
                · rw [if_pos c88] at h84
                  refine go_aload_n (pc := 138) X 0 dX8_collude_138 rfl rfl ?_
                  refine go_iload_n (pc := 139) X 1 dX8_collude_139 rfl rfl ?_
                  refine go_bipush (pc := 140) X dX8_collude_140 (by decide) (by decide) ?_
                  obtain ⟨S89, h90, h84⟩ := bind_some h84
                  refine go_callVv (pc := 142) X 2 [] (ct_X8_drops h90) sh8 rfl gg_X8_108 hd_X8_drops ⟨Nat.le_of_ble_eq_true rfl, Nat.le_of_ble_eq_true rfl⟩ rfl rfl (Nat.le_of_ble_eq_true rfl) dX8_collude_142 ?_
                  cases h84
                  exact k85
              · rw [if_pos c80] at h78
                refine go_aload_n (pc := 113) X 0 dX8_collude_113 rfl rfl ?_
                refine go_iload_n (pc := 114) X 1 dX8_collude_114 rfl rfl ?_
                refine go_bipush (pc := 115) X dX8_collude_115 (by decide) (by decide) ?_
                obtain ⟨r91, h92, h78⟩ := bind_some h78
                refine go_callVi (pc := 117) X 2 [] (ct_X8_valueAt h92) sh8 rfl gg_X8_114 hd_X8_valueAt ⟨Nat.le_of_ble_eq_true rfl, Nat.le_of_ble_eq_true rfl⟩ rfl rfl (Nat.le_of_ble_eq_true rfl) dX8_collude_117 ?_
                refine go_iload (pc := 120) X 6 dX8_collude_120 rfl ?_
                refine go_icmp_lt (pc := 122) X 128 dX8_collude_122 rfl (fun c93 => ?_) (fun c93 => ?_)
                · rw [if_pos c93] at h78
                  refine go_aload_n (pc := 128) X 0 dX8_collude_128 rfl rfl ?_
                  refine go_iload_n (pc := 129) X 1 dX8_collude_129 rfl rfl ?_
                  obtain ⟨r94, h95, h78⟩ := bind_some h78
                  refine go_callVi (pc := 130) X 1 [] (ct_X8_valuesOf h95) sh8 rfl gg_X8_73 hd_X8_valuesOf ⟨Nat.le_of_ble_eq_true rfl, Nat.le_of_ble_eq_true rfl⟩ rfl rfl (Nat.le_of_ble_eq_true rfl) dX8_collude_130 ?_
                  refine go_bipush (pc := 133) X dX8_collude_133 (by decide) (by decide) ?_
                  obtain ⟨j96, h97, h78⟩ := bind_some h78
                  have k98 : Go p l e { frames := 7, cells := 0, slots := 0, locals := 156 } s m args below meth c 7 D cI cB ad shsM A (MQ below (cQ D cI cB ad shsM (some (.int (i32 r))) S' A) args s 0 0 A) 145 [(0, .ref (ad 0)), (1, .int (i32 a1)), (2, .int (i32 a2)), (3, .int (i32 a3)), (4, .int (i32 (u13.1 + u15.1))), (5, .int (i32 t65.1)), (6, .int (i32 r73))] [] j96 := by
                    refine go_aload_n (pc := 145) X 0 dX8_collude_145 rfl rfl ?_
                    refine go_iload_n (pc := 146) X 1 dX8_collude_146 rfl rfl ?_
                    refine go_iload (pc := 147) X 6 dX8_collude_147 rfl ?_
                    obtain ⟨S99, h100, h78⟩ := bind_some h78
                    refine go_callVv (pc := 149) X 2 [] (ct_X8_comes h100) sh8 rfl gg_X8_101 hd_X8_comes ⟨Nat.le_of_ble_eq_true rfl, Nat.le_of_ble_eq_true rfl⟩ rfl rfl (Nat.le_of_ble_eq_true rfl) dX8_collude_149 ?_
                    cases h78
                    refine go_pick [0, 1, 2, 3, 4, 5] (Ls' := [(0, .ref (ad 0)), (1, .int (i32 a1)), (2, .int (i32 a2)), (3, .int (i32 a3)), (4, .int (i32 (u13.1 + u15.1))), (5, .int (i32 t65.1))]) rfl ?_
                    exact k79
                  refine go_icmp_ne (pc := 135) X 145 dX8_collude_135 rfl (fun c101 => ?_) (fun c101 => ?_)
                  · rw [if_neg c101] at h97
                    cases h97
                    exact k98
                  · rw [if_pos c101] at h97
                    refine go_aload_n (pc := 138) X 0 dX8_collude_138 rfl rfl ?_
                    refine go_iload_n (pc := 139) X 1 dX8_collude_139 rfl rfl ?_
                    refine go_bipush (pc := 140) X dX8_collude_140 (by decide) (by decide) ?_
                    obtain ⟨S102, h103, h97⟩ := bind_some h97
                    refine go_callVv (pc := 142) X 2 [] (ct_X8_drops h103) sh8 rfl gg_X8_108 hd_X8_drops ⟨Nat.le_of_ble_eq_true rfl, Nat.le_of_ble_eq_true rfl⟩ rfl rfl (Nat.le_of_ble_eq_true rfl) dX8_collude_142 ?_
                    cases h97
                    exact k98
                · rw [if_neg c93] at h78
                  refine go_goto (pc := 125) X 152 dX8_collude_125 rfl ?_
                  cases h78
                  refine go_pick [0, 1, 2, 3, 4, 5] (Ls' := [(0, .ref (ad 0)), (1, .int (i32 a1)), (2, .int (i32 a2)), (3, .int (i32 a3)), (4, .int (i32 (u13.1 + u15.1))), (5, .int (i32 t65.1))]) rfl ?_
                  exact k79
          refine H64 FU (0, S26) r62 h63 ?_
          refine go_aload_n (pc := 158) X 0 dX8_collude_158 rfl rfl ?_
          refine go_iload_n (pc := 159) X 2 dX8_collude_159 rfl rfl ?_
          obtain ⟨S104, h105, h⟩ := bind_some h
          refine go_callVv (pc := 160) X 1 [] (ct_X8_goes h105) sh8 rfl gg_X8_94 hd_X8_goes ⟨Nat.le_of_ble_eq_true rfl, Nat.le_of_ble_eq_true rfl⟩ rfl rfl (Nat.le_of_ble_eq_true rfl) dX8_collude_160 ?_
          refine go_aload_n (pc := 163) X 0 dX8_collude_163 rfl rfl ?_
          obtain ⟨S106, h107, h⟩ := bind_some h
          refine go_callVv (pc := 164) X 0 [] (ct_X8_runs h107) sh8 rfl gg_X8_171 hd_X8_runs ⟨Nat.le_of_ble_eq_true rfl, Nat.le_of_ble_eq_true rfl⟩ rfl rfl (Nat.le_of_ble_eq_true rfl) dX8_collude_164 ?_
          refine go_aload_n (pc := 167) X 0 dX8_collude_167 rfl rfl ?_
          refine go_iload_n (pc := 168) X 2 dX8_collude_168 rfl rfl ?_
          refine go_iload_n (pc := 169) X 1 dX8_collude_169 rfl rfl ?_
          obtain ⟨j108, h109, h⟩ := bind_some h
          have k110 : Go p l e { frames := 7, cells := 0, slots := 0, locals := 156 } s m args below meth c 7 D cI cB ad shsM A (MQ below (cQ D cI cB ad shsM (some (.int (i32 r))) S' A) args s 0 0 A) 180 [(0, .ref (ad 0)), (3, .int (i32 a3)), (4, .int (i32 (u13.1 + u15.1)))] [.int (i32 j108), .ref (ad 0)] S106 := by
            refine go_iload_n (pc := 180) X 1 dX8_collude_180 rfl rfl ?_
            obtain ⟨u111, h112, h⟩ := bind_some h
            refine go_callVi (pc := 181) X 2 [] (ct_X8_paysOf h112) sh8 rfl gg_X8_165 hd_X8_paysOf ⟨Nat.le_of_ble_eq_true rfl, Nat.le_of_ble_eq_true rfl⟩ rfl rfl (Nat.le_of_ble_eq_true rfl) dX8_collude_181 ?_
            refine go_istore (pc := 184) X [1, 2, 3, 0] (Ls' := [(0, .ref (ad 0)), (3, .int (i32 a3)), (4, .int (i32 (u13.1 + u15.1))), (5, .int (i32 u111.1))]) dX8_collude_184 (by decide) rfl ?_
            refine go_aload_n (pc := 186) X 0 dX8_collude_186 rfl rfl ?_
            obtain ⟨S113, h114, h⟩ := bind_some h
            refine go_callVv (pc := 187) X 0 [] (ct_X8_takesBack h114) sh8 rfl gg_X8_200 hd_X8_takesBack ⟨Nat.le_of_ble_eq_true rfl, Nat.le_of_ble_eq_true rfl⟩ rfl rfl (Nat.le_of_ble_eq_true rfl) dX8_collude_187 ?_
            refine go_iload (pc := 190) X 2 dX8_collude_190 rfl ?_
            refine go_iload (pc := 192) X 3 dX8_collude_192 rfl ?_
            refine go_isub (pc := 194) X dX8_collude_194 ?_
            exact go_iret (pc := 195) X h dX8_collude_195
          refine go_icmp_ge (pc := 170) X 179 dX8_collude_170 rfl (fun c115 => ?_) (fun c115 => ?_)
          · rw [if_neg c115] at h109
            refine go_iload_n (pc := 179) X 1 dX8_collude_179 rfl rfl ?_
            cases h109
            refine go_pick [0, 3, 4] (Ls' := [(0, .ref (ad 0)), (3, .int (i32 a3)), (4, .int (i32 (u13.1 + u15.1)))]) rfl ?_
            exact k110
          · rw [if_pos c115] at h109
            refine go_iload_n (pc := 173) X 1 dX8_collude_173 rfl rfl ?_
            refine go_iconst (pc := 174) X dX8_collude_174 ?_
            refine go_isub (pc := 175) X dX8_collude_175 ?_
            refine go_goto (pc := 176) X 180 dX8_collude_176 rfl ?_
            cases h109
            refine go_pick [0, 3, 4] (Ls' := [(0, .ref (ad 0)), (3, .int (i32 a3)), (4, .int (i32 (u13.1 + u15.1)))]) rfl ?_
            exact k110
        · rw [if_pos c10] at h
          refine go_ldc (pc := 28) X (-100000) cn_X8_180 rfl dX8_collude_28 ?_
          exact go_iret (pc := 30) X h dX8_collude_30
