set_option maxRecDepth 100000 in
set_option maxHeartbeats 4000000 in
theorem ct_X8_supplyFor {l : Launch} {D : va_G} {cI cB : ClassId} {Z : (Nat → Nat) × (Nat → Nat)} {ad : Nat → Nat} {S : Mem} {a1 : Int} {r : Int} {S' : Mem} (h : f_X8_supplyFor S a1 = some (r, S')) : Ctr l D cI cB Z ad shsM yX8_supplyFor cX8_supplyFor 3 (some .int) 9 205 [.ref (ad 0), .int (i32 a1)] S (some (.int (i32 r))) S' := by
  refine ctr_of (by decide +kernel) (Nat.le_of_ble_eq_true rfl) rfl ?_
  intro p e s m args below meth c A X
  unfold f_X8_supplyFor at h
  refine go_iload_n (pc := 0) X 1 dX8_supplyFor_0 rfl rfl ?_
  obtain ⟨r1, h2, h⟩ := bind_some h
  refine go_callSi (pc := 1) X 1 [] (ct_X8_isPrice h2) gg_X8_98 hd_X8_isPrice ⟨Nat.le_of_ble_eq_true rfl, Nat.le_of_ble_eq_true rfl⟩ rfl rfl (Nat.le_of_ble_eq_true rfl) dX8_supplyFor_1 ?_
  refine go_if_ne (pc := 4) X 9 dX8_supplyFor_4 rfl (fun c3 => ?_) (fun c3 => ?_)
  · rw [if_neg c3] at h
    refine go_iconst (pc := 9) X dX8_supplyFor_9 ?_
    refine go_istore_n (pc := 10) X [1, 2, 0] (Ls' := [(0, .ref (ad 0)), (1, .int (i32 a1)), (2, .int (i32 1))]) dX8_supplyFor_10 rfl (by decide) rfl ?_
    obtain ⟨r8, h9, h⟩ := bind_some h
    have H10 : ∀ (n : Nat) (t11 : Int × Mem) (z12 : (Mem) ⊕ (Int × Mem)), lp (f_X8_supplyFor_l11 a1) n t11 = some z12 → lpG (fun z15 : Mem => Go p l e { frames := 9, cells := 0, slots := 0, locals := 205 } s m args below meth c 3 D cI cB ad shsM A (MQ below (cQ D cI cB ad shsM (some (.int (i32 r))) S' A) args s 0 0 A) 36 [] [] z15) (fun u : Int × Mem => some u = some (r, S')) z12 → Go p l e { frames := 9, cells := 0, slots := 0, locals := 205 } s m args below meth c 3 D cI cB ad shsM A (MQ below (cQ D cI cB ad shsM (some (.int (i32 r))) S' A) args s 0 0 A) 11 [(0, .ref (ad 0)), (1, .int (i32 a1)), (2, .int (i32 t11.1))] [] t11.2 := by
      refine lp_go (fun t11 : Int × Mem => Go p l e { frames := 9, cells := 0, slots := 0, locals := 205 } s m args below meth c 3 D cI cB ad shsM A (MQ below (cQ D cI cB ad shsM (some (.int (i32 r))) S' A) args s 0 0 A) 11 [(0, .ref (ad 0)), (1, .int (i32 a1)), (2, .int (i32 t11.1))] [] t11.2) (fun z12 : (Mem) ⊕ (Int × Mem) => lpG (fun z15 : Mem => Go p l e { frames := 9, cells := 0, slots := 0, locals := 205 } s m args below meth c 3 D cI cB ad shsM A (MQ below (cQ D cI cB ad shsM (some (.int (i32 r))) S' A) args s 0 0 A) 36 [] [] z15) (fun u : Int × Mem => some u = some (r, S')) z12) ?_
      intro t11 x13 h hx14
      unfold f_X8_supplyFor_l11 at h
      refine go_iload_n (pc := 11) X 2 dX8_supplyFor_11 rfl rfl ?_
      refine go_bipush (pc := 12) X dX8_supplyFor_12 (by decide) (by decide) ?_
      refine go_icmp_gt (pc := 14) X 36 dX8_supplyFor_14 rfl (fun c16 => ?_) (fun c16 => ?_)
      · rw [if_pos c16] at h
        refine go_pick [] (Ls' := []) rfl ?_
        exact lp_back h hx14
      · rw [if_neg c16] at h
        refine go_aload_n (pc := 17) X 0 dX8_supplyFor_17 rfl rfl ?_
        refine go_iconst (pc := 18) X dX8_supplyFor_18 ?_
        refine go_iload_n (pc := 19) X 2 dX8_supplyFor_19 rfl rfl ?_
        refine go_iconst (pc := 20) X dX8_supplyFor_20 ?_
        obtain ⟨u17, h18, h⟩ := bind_some h
        refine go_callVi (pc := 21) X 3 [] (ct_X8_toldBy h18) sh8 rfl gg_X8_193 hd_X8_toldBy ⟨Nat.le_of_ble_eq_true rfl, Nat.le_of_ble_eq_true rfl⟩ rfl rfl (Nat.le_of_ble_eq_true rfl) dX8_supplyFor_21 ?_
        refine go_iload_n (pc := 24) X 1 dX8_supplyFor_24 rfl rfl ?_
        refine go_icmp_gt (pc := 25) X 30 dX8_supplyFor_25 rfl (fun c19 => ?_) (fun c19 => ?_)
        · rw [if_pos c19] at h
          refine go_iinc (pc := 30) X [1, 2, 0] 2 (Ls' := [(0, .ref (ad 0)), (1, .int (i32 a1)), (2, .int (i32 (t11.1 + 1)))]) dX8_supplyFor_30 rfl (by decide) rfl ?_
          refine go_goto (pc := 33) X 11 dX8_supplyFor_33 rfl ?_
          exact lp_back h hx14
        · rw [if_neg c19] at h
          refine go_iload_n (pc := 28) X 2 dX8_supplyFor_28 rfl rfl ?_
          exact go_iret (pc := 29) X (lp_back h hx14) dX8_supplyFor_29
    refine H10 FU (1, S) r8 h9 ?_
    cases r8 with
    | inl r20 =>
      have h := lct_l h
      refine lpG_l ?_
      refine go_bipush (pc := 36) X dX8_supplyFor_36 (by decide) (by decide) ?_
      exact go_iret (pc := 38) X h dX8_supplyFor_38
    | inr u21 =>
      have h := lct_r h
      refine lpG_r ?_
      exact h
  · rw [if_pos c3] at h
    refine go_iconst (pc := 7) X dX8_supplyFor_7 ?_
    exact go_iret (pc := 8) X h dX8_supplyFor_8
set_option maxRecDepth 100000 in
set_option maxHeartbeats 4000000 in
theorem ct_X8_valueFor {l : Launch} {D : va_G} {cI cB : ClassId} {Z : (Nat → Nat) × (Nat → Nat)} {ad : Nat → Nat} {S : Mem} {a1 : Int} {r : Int} {S' : Mem} (h : f_X8_valueFor S a1 = some (r, S')) : Ctr l D cI cB Z ad shsM yX8_valueFor cX8_valueFor 4 (some .int) 7 156 [.ref (ad 0), .int (i32 a1)] S (some (.int (i32 r))) S' := by
  refine ctr_of (by decide +kernel) (Nat.le_of_ble_eq_true rfl) rfl ?_
  intro p e s m args below meth c A X
  unfold f_X8_valueFor at h
  refine go_aload_n (pc := 0) X 0 dX8_valueFor_0 rfl rfl ?_
  refine go_iload_n (pc := 1) X 1 dX8_valueFor_1 rfl rfl ?_
  obtain ⟨r1, h2, h⟩ := bind_some h
  refine go_callVi (pc := 2) X 1 [] (ct_X8_isBidder h2) sh8 rfl gg_X8_90 hd_X8_isBidder ⟨Nat.le_of_ble_eq_true rfl, Nat.le_of_ble_eq_true rfl⟩ rfl rfl (Nat.le_of_ble_eq_true rfl) dX8_valueFor_2 ?_
  refine go_if_eq (pc := 5) X 18 dX8_valueFor_5 rfl (fun c3 => ?_) (fun c3 => ?_)
  · rw [if_pos c3] at h
    refine go_iconst (pc := 18) X dX8_valueFor_18 ?_
    exact go_iret (pc := 19) X h dX8_valueFor_19
  · rw [if_neg c3] at h
    refine go_aload_n (pc := 8) X 0 dX8_valueFor_8 rfl rfl ?_
    refine go_iload_n (pc := 9) X 1 dX8_valueFor_9 rfl rfl ?_
    obtain ⟨r4, h5, h⟩ := bind_some h
    refine go_callVi (pc := 10) X 1 [] (ct_X8_valuesOf h5) sh8 rfl gg_X8_73 hd_X8_valuesOf ⟨Nat.le_of_ble_eq_true rfl, Nat.le_of_ble_eq_true rfl⟩ rfl rfl (Nat.le_of_ble_eq_true rfl) dX8_valueFor_10 ?_
    refine go_bipush (pc := 13) X dX8_valueFor_13 (by decide) (by decide) ?_
    refine go_icmp_ne (pc := 15) X 20 dX8_valueFor_15 rfl (fun c6 => ?_) (fun c6 => ?_)
    · rw [if_neg c6] at h
      refine go_aload_n (pc := 20) X 0 dX8_valueFor_20 rfl rfl ?_
      obtain ⟨S7, h8, h⟩ := bind_some h
      refine go_callVv (pc := 21) X 0 [] (ct_X8_runs h8) sh8 rfl gg_X8_171 hd_X8_runs ⟨Nat.le_of_ble_eq_true rfl, Nat.le_of_ble_eq_true rfl⟩ rfl rfl (Nat.le_of_ble_eq_true rfl) dX8_valueFor_21 ?_
      refine go_aload_n (pc := 24) X 0 dX8_valueFor_24 rfl rfl ?_
      refine go_getr (pc := 25) X (fk := 6) sh8 rfl inT_X8 (by decide) fL_X8_26 rfl dX8_valueFor_25 ?_
      refine go_iload_n (pc := 28) X 1 dX8_valueFor_28 rfl rfl ?_
      obtain ⟨g9, h⟩ := gd_some h
      refine go_iald (pc := 29) X shM5 (Nat.le_of_ble_eq_true rfl) rfl g9 dX8_valueFor_29 ?_
      refine go_istore_n (pc := 30) X [1, 2, 0] (Ls' := [(0, .ref (ad 0)), (1, .int (i32 a1)), (2, .int (i32 (S7 5 a1)))]) dX8_valueFor_30 rfl (by decide) rfl ?_
      refine go_iconst (pc := 31) X dX8_valueFor_31 ?_
      refine go_istore_n (pc := 32) X [1, 2, 3, 0] (Ls' := [(0, .ref (ad 0)), (1, .int (i32 a1)), (2, .int (i32 (S7 5 a1))), (3, .int (i32 0))]) dX8_valueFor_32 rfl (by decide) rfl ?_
      obtain ⟨r21, h22, h⟩ := bind_some h
      have H23 : ∀ (n : Nat) (t24 : Int × Mem) (z25 : (Mem) ⊕ (Int × Mem)), lp (f_X8_valueFor_l33 a1 (S7 5 a1)) n t24 = some z25 → lpG (fun z28 : Mem => Go p l e { frames := 7, cells := 0, slots := 0, locals := 156 } s m args below meth c 4 D cI cB ad shsM A (MQ below (cQ D cI cB ad shsM (some (.int (i32 r))) S' A) args s 0 0 A) 75 [] [] z28) (fun u : Int × Mem => some u = some (r, S')) z25 → Go p l e { frames := 7, cells := 0, slots := 0, locals := 156 } s m args below meth c 4 D cI cB ad shsM A (MQ below (cQ D cI cB ad shsM (some (.int (i32 r))) S' A) args s 0 0 A) 33 [(0, .ref (ad 0)), (1, .int (i32 a1)), (2, .int (i32 (S7 5 a1))), (3, .int (i32 t24.1))] [] t24.2 := by
        refine lp_go (fun t24 : Int × Mem => Go p l e { frames := 7, cells := 0, slots := 0, locals := 156 } s m args below meth c 4 D cI cB ad shsM A (MQ below (cQ D cI cB ad shsM (some (.int (i32 r))) S' A) args s 0 0 A) 33 [(0, .ref (ad 0)), (1, .int (i32 a1)), (2, .int (i32 (S7 5 a1))), (3, .int (i32 t24.1))] [] t24.2) (fun z25 : (Mem) ⊕ (Int × Mem) => lpG (fun z28 : Mem => Go p l e { frames := 7, cells := 0, slots := 0, locals := 156 } s m args below meth c 4 D cI cB ad shsM A (MQ below (cQ D cI cB ad shsM (some (.int (i32 r))) S' A) args s 0 0 A) 75 [] [] z28) (fun u : Int × Mem => some u = some (r, S')) z25) ?_
        intro t24 x26 h hx27
        unfold f_X8_valueFor_l33 at h
        refine go_iload_n (pc := 33) X 3 dX8_valueFor_33 rfl rfl ?_
        refine go_bipush (pc := 34) X dX8_valueFor_34 (by decide) (by decide) ?_
        refine go_icmp_gt (pc := 36) X 75 dX8_valueFor_36 rfl (fun c29 => ?_) (fun c29 => ?_)
        · rw [if_pos c29] at h
          refine go_pick [] (Ls' := []) rfl ?_
          exact lp_back h hx27
        · rw [if_neg c29] at h
          refine go_aload_n (pc := 39) X 0 dX8_valueFor_39 rfl rfl ?_
          obtain ⟨S30, h31, h⟩ := bind_some h
          refine go_callVv (pc := 40) X 0 [] (ct_X8_putsAside h31) sh8 rfl gg_X8_197 hd_X8_putsAside ⟨Nat.le_of_ble_eq_true rfl, Nat.le_of_ble_eq_true rfl⟩ rfl rfl (Nat.le_of_ble_eq_true rfl) dX8_valueFor_40 ?_
          refine go_aload_n (pc := 43) X 0 dX8_valueFor_43 rfl rfl ?_
          refine go_iload_n (pc := 44) X 1 dX8_valueFor_44 rfl rfl ?_
          refine go_iload_n (pc := 45) X 3 dX8_valueFor_45 rfl rfl ?_
          obtain ⟨S32, h33, h⟩ := bind_some h
          refine go_callVv (pc := 46) X 2 [] (ct_X8_comes h33) sh8 rfl gg_X8_101 hd_X8_comes ⟨Nat.le_of_ble_eq_true rfl, Nat.le_of_ble_eq_true rfl⟩ rfl rfl (Nat.le_of_ble_eq_true rfl) dX8_valueFor_46 ?_
          refine go_aload_n (pc := 49) X 0 dX8_valueFor_49 rfl rfl ?_
          obtain ⟨S34, h35, h⟩ := bind_some h
          refine go_callVv (pc := 50) X 0 [] (ct_X8_runs h35) sh8 rfl gg_X8_171 hd_X8_runs ⟨Nat.le_of_ble_eq_true rfl, Nat.le_of_ble_eq_true rfl⟩ rfl rfl (Nat.le_of_ble_eq_true rfl) dX8_valueFor_50 ?_
          refine go_aload_n (pc := 53) X 0 dX8_valueFor_53 rfl rfl ?_
          obtain ⟨S36, h37, h⟩ := bind_some h
          refine go_callVv (pc := 54) X 0 [] (ct_X8_takesBack h37) sh8 rfl gg_X8_200 hd_X8_takesBack ⟨Nat.le_of_ble_eq_true rfl, Nat.le_of_ble_eq_true rfl⟩ rfl rfl (Nat.le_of_ble_eq_true rfl) dX8_valueFor_54 ?_
          refine go_aload_n (pc := 57) X 0 dX8_valueFor_57 rfl rfl ?_
          refine go_getr (pc := 58) X (fk := 6) sh8 rfl inT_X8 (by decide) fL_X8_26 rfl dX8_valueFor_58 ?_
          refine go_iload_n (pc := 61) X 1 dX8_valueFor_61 rfl rfl ?_
          obtain ⟨g38, h⟩ := gd_some h
          refine go_iald (pc := 62) X shM5 (Nat.le_of_ble_eq_true rfl) rfl g38 dX8_valueFor_62 ?_
          refine go_iload_n (pc := 63) X 2 dX8_valueFor_63 rfl rfl ?_
          refine go_icmp_le (pc := 64) X 69 dX8_valueFor_64 rfl (fun c39 => ?_) (fun c39 => ?_)
          · rw [if_neg c39] at h
            refine go_iinc (pc := 69) X [1, 2, 3, 0] 3 (Ls' := [(0, .ref (ad 0)), (1, .int (i32 a1)), (2, .int (i32 (S7 5 a1))), (3, .int (i32 (t24.1 + 1)))]) dX8_valueFor_69 rfl (by decide) rfl ?_
            refine go_goto (pc := 72) X 33 dX8_valueFor_72 rfl ?_
            exact lp_back h hx27
          · rw [if_pos c39] at h
            refine go_iload_n (pc := 67) X 3 dX8_valueFor_67 rfl rfl ?_
            exact go_iret (pc := 68) X (lp_back h hx27) dX8_valueFor_68
      refine H23 FU (0, S7) r21 h22 ?_
      cases r21 with
      | inl r40 =>
        have h := lct_l h
        refine lpG_l ?_
        refine go_bipush (pc := 75) X dX8_valueFor_75 (by decide) (by decide) ?_
        exact go_iret (pc := 77) X h dX8_valueFor_77
      | inr u41 =>
        have h := lct_r h
        refine lpG_r ?_
        exact h
    · rw [if_pos c6] at h
      refine go_iconst (pc := 18) X dX8_valueFor_18 ?_
      exact go_iret (pc := 19) X h dX8_valueFor_19
set_option maxRecDepth 100000 in
set_option maxHeartbeats 4000000 in
theorem ct_X8_writes {l : Launch} {D : va_G} {cI cB : ClassId} {Z : (Nat → Nat) × (Nat → Nat)} {ad : Nat → Nat} {S : Mem} {a1 : Int} {S' : Mem} (h : f_X8_writes S a1 = some S') : Ctr l D cI cB Z ad shsM yX8_writes cX8_writes 2 none 0 0 [.ref (ad 0), .int (i32 a1)] S (none) S' := by
  refine ctr_of (by decide +kernel) (Nat.le_of_ble_eq_true rfl) rfl ?_
  intro p e s m args below meth c A X
  unfold f_X8_writes at h
  refine go_aload_n (pc := 0) X 0 dX8_writes_0 rfl rfl ?_
  refine go_getr (pc := 1) X (fk := 14) sh8 rfl inT_X8 (by decide) fL_X8_44 rfl dX8_writes_1 ?_
  refine go_aload_n (pc := 4) X 0 dX8_writes_4 rfl rfl ?_
  refine go_get (pc := 5) X (fk := 15) (fi := 15) rfl sh8 rfl inT_X8 (by decide) fL_X8_215 rfl dX8_writes_5 ?_
  refine go_iload_n (pc := 8) X 1 dX8_writes_8 rfl rfl ?_
  obtain ⟨g1, h⟩ := gd_some h
  obtain ⟨S2, e3, h⟩ := wrk_some h
  refine go_iastE (pc := 9) X e3 shM11 (Nat.le_of_ble_eq_true rfl) rfl g1 dX8_writes_9 ?_
  refine go_aload_n (pc := 10) X 0 dX8_writes_10 rfl rfl ?_
  refine go_dup (pc := 11) X dX8_writes_11 rfl ?_
  refine go_get (pc := 12) X (fk := 15) (fi := 15) rfl sh8 rfl inT_X8 (by decide) fL_X8_215 rfl dX8_writes_12 ?_
  refine go_iconst (pc := 15) X dX8_writes_15 ?_
  refine go_iadd (pc := 16) X dX8_writes_16 ?_
  obtain ⟨S4, e5, h⟩ := wrk_some h
  refine go_putE (pc := 17) X (fk := 15) (fi := 15) rfl e5 sh8 rfl inT_X8 tyX8_ok nmX8 (by decide) fL_X8_215 rfl rfl rfl rfl rfl dX8_writes_17 ?_
  exact go_vret (pc := 20) X h dX8_writes_20
set_option maxRecDepth 100000 in
set_option maxHeartbeats 4000000 in
theorem ct_X8_wordFrom {l : Launch} {D : va_G} {cI cB : ClassId} {Z : (Nat → Nat) × (Nat → Nat)} {ad : Nat → Nat} {S : Mem} {a1 : Int} {r : Int} (h : f_X8_wordFrom S a1 = some r) : Ctr l D cI cB Z ad shsM yX8_wordFrom cX8_wordFrom 4 (some .int) 0 0 [.ref (ad 0), .int (i32 a1)] S (some (.int (i32 r))) S := by
  refine ctr_of (by decide +kernel) (Nat.le_of_ble_eq_true rfl) rfl ?_
  intro p e s m args below meth c A X
  unfold f_X8_wordFrom at h
  refine go_iconst (pc := 0) X dX8_wordFrom_0 ?_
  refine go_istore_n (pc := 1) X [1, 2, 0] (Ls' := [(0, .ref (ad 0)), (1, .int (i32 a1)), (2, .int (i32 0))]) dX8_wordFrom_1 rfl (by decide) rfl ?_
  refine go_iload_n (pc := 2) X 1 dX8_wordFrom_2 rfl rfl ?_
  refine go_istore_n (pc := 3) X [1, 2, 3, 0] (Ls' := [(0, .ref (ad 0)), (1, .int (i32 a1)), (2, .int (i32 0)), (3, .int (i32 a1))]) dX8_wordFrom_3 rfl (by decide) rfl ?_
  obtain ⟨r7, h8, h⟩ := bind_some h
  have H9 : ∀ (n : Nat) (t10 : Int × Int) (z11 : Int), lp (f_X8_wordFrom_l4 S) n t10 = some z11 → Go p l e { frames := 0, cells := 0, slots := 0, locals := 0 } s m args below meth c 4 D cI cB ad shsM A (MQ below (cQ D cI cB ad shsM (some (.int (i32 r))) S A) args s 0 0 A) 26 [(2, .int (i32 z11))] [] S → Go p l e { frames := 0, cells := 0, slots := 0, locals := 0 } s m args below meth c 4 D cI cB ad shsM A (MQ below (cQ D cI cB ad shsM (some (.int (i32 r))) S A) args s 0 0 A) 4 [(0, .ref (ad 0)), (2, .int (i32 t10.1)), (3, .int (i32 t10.2))] [] S := by
    refine lp_go (fun t10 : Int × Int => Go p l e { frames := 0, cells := 0, slots := 0, locals := 0 } s m args below meth c 4 D cI cB ad shsM A (MQ below (cQ D cI cB ad shsM (some (.int (i32 r))) S A) args s 0 0 A) 4 [(0, .ref (ad 0)), (2, .int (i32 t10.1)), (3, .int (i32 t10.2))] [] S) (fun z11 : Int => Go p l e { frames := 0, cells := 0, slots := 0, locals := 0 } s m args below meth c 4 D cI cB ad shsM A (MQ below (cQ D cI cB ad shsM (some (.int (i32 r))) S A) args s 0 0 A) 26 [(2, .int (i32 z11))] [] S) ?_
    intro t10 x12 h hx13
    unfold f_X8_wordFrom_l4 at h
    refine go_iload_n (pc := 4) X 2 dX8_wordFrom_4 rfl rfl ?_
    refine go_if_le (pc := 5) X 26 dX8_wordFrom_5 rfl (fun c15 => ?_) (fun c15 => ?_)
    · rw [if_neg c15] at h
      refine go_pick [1] (Ls' := [(2, .int (i32 t10.1))]) rfl ?_
      exact lp_back h hx13
    · rw [if_pos c15] at h
      refine go_aload_n (pc := 8) X 0 dX8_wordFrom_8 rfl rfl ?_
      refine go_getr (pc := 9) X (fk := 18) sh8 rfl inT_X8 (by decide) fL_X8_50 rfl dX8_wordFrom_9 ?_
      refine go_iload_n (pc := 12) X 1 dX8_wordFrom_12 rfl rfl ?_
      obtain ⟨g16, h⟩ := gd_some h
      refine go_bald (pc := 13) X shM13 (Nat.le_of_ble_eq_true rfl) rfl g16 dX8_wordFrom_13 ?_
      obtain ⟨j17, h18, h⟩ := bind_some h
      have k19 : Go p l e { frames := 0, cells := 0, slots := 0, locals := 0 } s m args below meth c 4 D cI cB ad shsM A (MQ below (cQ D cI cB ad shsM (some (.int (i32 r))) S A) args s 0 0 A) 20 [(0, .ref (ad 0)), (2, .int (i32 t10.1)), (3, .int (i32 j17))] [] S := by
        refine go_iinc (pc := 20) X [1, 0, 2] 1 (Ls' := [(0, .ref (ad 0)), (2, .int (i32 (t10.1 + 1))), (3, .int (i32 j17))]) dX8_wordFrom_20 rfl (by decide) rfl ?_
        refine go_goto (pc := 23) X 4 dX8_wordFrom_23 rfl ?_
        exact lp_back h hx13
      refine go_if_ne (pc := 14) X 20 dX8_wordFrom_14 rfl (fun c20 => ?_) (fun c20 => ?_)
      · rw [if_neg c20] at h18
        cases h18
        exact k19
      · rw [if_pos c20] at h18
        refine go_iinc (pc := 17) X [1, 2, 0] 2 (Ls' := [(0, .ref (ad 0)), (2, .int (i32 t10.1)), (3, .int (i32 (t10.2 + (-1))))]) dX8_wordFrom_17 rfl (by decide) rfl ?_
        cases h18
        exact k19
  refine go_pick [0, 2, 3] (Ls' := [(0, .ref (ad 0)), (2, .int (i32 0)), (3, .int (i32 a1))]) rfl ?_
  refine H9 FU (0, a1) r7 h8 ?_
  refine go_iload_n (pc := 26) X 0 dX8_wordFrom_26 rfl rfl ?_
  exact go_iretP (pc := 27) X h dX8_wordFrom_27
set_option maxRecDepth 100000 in
set_option maxHeartbeats 4000000 in
theorem ct_X8_writesWord {l : Launch} {D : va_G} {cI cB : ClassId} {Z : (Nat → Nat) × (Nat → Nat)} {ad : Nat → Nat} {S : Mem} {a1 : Int} {S' : Mem} (h : f_X8_writesWord S a1 = some S') : Ctr l D cI cB Z ad shsM yX8_writesWord cX8_writesWord 3 none 1 23 [.ref (ad 0), .int (i32 a1)] S (none) S' := by
  refine ctr_of (by decide +kernel) (Nat.le_of_ble_eq_true rfl) rfl ?_
  intro p e s m args below meth c A X
  unfold f_X8_writesWord at h
  refine go_aload_n (pc := 0) X 0 dX8_writesWord_0 rfl rfl ?_
  refine go_iload_n (pc := 1) X 1 dX8_writesWord_1 rfl rfl ?_
  obtain ⟨r1, h2, h⟩ := bind_some h
  refine go_callVi (pc := 2) X 1 [] (ct_X8_wordFrom h2) sh8 rfl gg_X8_218 hd_X8_wordFrom ⟨Nat.le_of_ble_eq_true rfl, Nat.le_of_ble_eq_true rfl⟩ rfl rfl (Nat.le_of_ble_eq_true rfl) dX8_writesWord_2 ?_
  refine go_istore_n (pc := 5) X [1, 2, 0] (Ls' := [(0, .ref (ad 0)), (1, .int (i32 a1)), (2, .int (i32 r1))]) dX8_writesWord_5 rfl (by decide) rfl ?_
  obtain ⟨r7, h8, h⟩ := bind_some h
  have H9 : ∀ (n : Nat) (t10 : Int × Mem) (z11 : Mem), lp (f_X8_writesWord_l6) n t10 = some z11 → Go p l e { frames := 1, cells := 0, slots := 0, locals := 23 } s m args below meth c 3 D cI cB ad shsM A (MQ below (cQ D cI cB ad shsM (none) S' A) args s 0 0 A) 31 [] [] z11 → Go p l e { frames := 1, cells := 0, slots := 0, locals := 23 } s m args below meth c 3 D cI cB ad shsM A (MQ below (cQ D cI cB ad shsM (none) S' A) args s 0 0 A) 6 [(0, .ref (ad 0)), (2, .int (i32 t10.1))] [] t10.2 := by
    refine lp_go (fun t10 : Int × Mem => Go p l e { frames := 1, cells := 0, slots := 0, locals := 23 } s m args below meth c 3 D cI cB ad shsM A (MQ below (cQ D cI cB ad shsM (none) S' A) args s 0 0 A) 6 [(0, .ref (ad 0)), (2, .int (i32 t10.1))] [] t10.2) (fun z11 : Mem => Go p l e { frames := 1, cells := 0, slots := 0, locals := 23 } s m args below meth c 3 D cI cB ad shsM A (MQ below (cQ D cI cB ad shsM (none) S' A) args s 0 0 A) 31 [] [] z11) ?_
    intro t10 x12 h hx13
    unfold f_X8_writesWord_l6 at h
    refine go_aload_n (pc := 6) X 0 dX8_writesWord_6 rfl rfl ?_
    refine go_getr (pc := 7) X (fk := 18) sh8 rfl inT_X8 (by decide) fL_X8_50 rfl dX8_writesWord_7 ?_
    refine go_iload_n (pc := 10) X 1 dX8_writesWord_10 rfl rfl ?_
    obtain ⟨g15, h⟩ := gd_some h
    refine go_bald (pc := 11) X shM13 (Nat.le_of_ble_eq_true rfl) rfl g15 dX8_writesWord_11 ?_
    refine go_if_eq (pc := 12) X 31 dX8_writesWord_12 rfl (fun c16 => ?_) (fun c16 => ?_)
    · rw [if_pos c16] at h
      refine go_pick [] (Ls' := []) rfl ?_
      exact lp_back h hx13
    · rw [if_neg c16] at h
      refine go_aload_n (pc := 15) X 0 dX8_writesWord_15 rfl rfl ?_
      refine go_aload_n (pc := 16) X 0 dX8_writesWord_16 rfl rfl ?_
      refine go_getr (pc := 17) X (fk := 18) sh8 rfl inT_X8 (by decide) fL_X8_50 rfl dX8_writesWord_17 ?_
      refine go_iload_n (pc := 20) X 1 dX8_writesWord_20 rfl rfl ?_
      refine go_bald (pc := 21) X shM13 (Nat.le_of_ble_eq_true rfl) rfl g15 dX8_writesWord_21 ?_
      obtain ⟨S17, h18, h⟩ := bind_some h
      refine go_callVv (pc := 22) X 1 [] (ct_X8_writes h18) sh8 rfl gg_X8_221 hd_X8_writes ⟨Nat.le_of_ble_eq_true rfl, Nat.le_of_ble_eq_true rfl⟩ rfl rfl (Nat.le_of_ble_eq_true rfl) dX8_writesWord_22 ?_
      refine go_iinc (pc := 25) X [1, 0] 1 (Ls' := [(0, .ref (ad 0)), (2, .int (i32 (t10.1 + 1)))]) dX8_writesWord_25 rfl (by decide) rfl ?_
      refine go_goto (pc := 28) X 6 dX8_writesWord_28 rfl ?_
      exact lp_back h hx13
  refine go_pick [0, 2] (Ls' := [(0, .ref (ad 0)), (2, .int (i32 r1))]) rfl ?_
  refine H9 FU (r1, S) r7 h8 ?_
  exact go_vret (pc := 31) X h dX8_writesWord_31
set_option maxRecDepth 100000 in
set_option maxHeartbeats 4000000 in
theorem ct_X8_writesNumber {l : Launch} {D : va_G} {cI cB : ClassId} {Z : (Nat → Nat) × (Nat → Nat)} {ad : Nat → Nat} {S : Mem} {a1 : Int} {S' : Mem} (h : f_X8_writesNumber S a1 = some S') : Ctr l D cI cB Z ad shsM yX8_writesNumber cX8_writesNumber 3 none 1 21 [.ref (ad 0), .int (i32 a1)] S (none) S' := by
  refine ctr_of (by decide +kernel) (Nat.le_of_ble_eq_true rfl) rfl ?_
  intro p e s m args below meth c A X
  unfold f_X8_writesNumber at h
  refine go_iconst (pc := 0) X dX8_writesNumber_0 ?_
  refine go_istore_n (pc := 1) X [1, 2, 0] (Ls' := [(0, .ref (ad 0)), (1, .int (i32 a1)), (2, .int (i32 1))]) dX8_writesNumber_1 rfl (by decide) rfl ?_
  obtain ⟨r3, h4, h⟩ := bind_some h
  have H5 : ∀ (n : Nat) (t6 : Int) (z7 : Int), lp (f_X8_writesNumber_l2 S a1) n t6 = some z7 → Go p l e { frames := 1, cells := 0, slots := 0, locals := 21 } s m args below meth c 3 D cI cB ad shsM A (MQ below (cQ D cI cB ad shsM (none) S' A) args s 0 0 A) 18 [(0, .ref (ad 0)), (1, .int (i32 a1)), (2, .int (i32 z7))] [] S → Go p l e { frames := 1, cells := 0, slots := 0, locals := 21 } s m args below meth c 3 D cI cB ad shsM A (MQ below (cQ D cI cB ad shsM (none) S' A) args s 0 0 A) 2 [(0, .ref (ad 0)), (1, .int (i32 a1)), (2, .int (i32 t6))] [] S := by
    refine lp_go (fun t6 : Int => Go p l e { frames := 1, cells := 0, slots := 0, locals := 21 } s m args below meth c 3 D cI cB ad shsM A (MQ below (cQ D cI cB ad shsM (none) S' A) args s 0 0 A) 2 [(0, .ref (ad 0)), (1, .int (i32 a1)), (2, .int (i32 t6))] [] S) (fun z7 : Int => Go p l e { frames := 1, cells := 0, slots := 0, locals := 21 } s m args below meth c 3 D cI cB ad shsM A (MQ below (cQ D cI cB ad shsM (none) S' A) args s 0 0 A) 18 [(0, .ref (ad 0)), (1, .int (i32 a1)), (2, .int (i32 z7))] [] S) ?_
    intro t6 x8 h hx9
    unfold f_X8_writesNumber_l2 at h
    refine go_iload_n (pc := 2) X 1 dX8_writesNumber_2 rfl rfl ?_
    refine go_iload_n (pc := 3) X 2 dX8_writesNumber_3 rfl rfl ?_
    obtain ⟨g11, h⟩ := gd_some h
    refine go_idiv (pc := 4) X dX8_writesNumber_4 g11 ?_
    refine go_bipush (pc := 5) X dX8_writesNumber_5 (by decide) (by decide) ?_
    refine go_icmp_le (pc := 7) X 18 dX8_writesNumber_7 rfl (fun c12 => ?_) (fun c12 => ?_)
    · rw [if_neg c12] at h
      exact lp_back h hx9
    · rw [if_pos c12] at h
      refine go_iload_n (pc := 10) X 2 dX8_writesNumber_10 rfl rfl ?_
      refine go_bipush (pc := 11) X dX8_writesNumber_11 (by decide) (by decide) ?_
      refine go_imul (pc := 13) X dX8_writesNumber_13 ?_
      refine go_istore_n (pc := 14) X [1, 2, 0] (Ls' := [(0, .ref (ad 0)), (1, .int (i32 a1)), (2, .int (i32 (t6 * 10)))]) dX8_writesNumber_14 rfl (by decide) rfl ?_
      refine go_goto (pc := 15) X 2 dX8_writesNumber_15 rfl ?_
      exact lp_back h hx9
  refine H5 FU 1 r3 h4 ?_
  obtain ⟨r17, h18, h⟩ := bind_some h
  have H19 : ∀ (n : Nat) (t20 : Int × Mem) (z21 : Mem), lp (f_X8_writesNumber_l18 a1) n t20 = some z21 → Go p l e { frames := 1, cells := 0, slots := 0, locals := 21 } s m args below meth c 3 D cI cB ad shsM A (MQ below (cQ D cI cB ad shsM (none) S' A) args s 0 0 A) 43 [] [] z21 → Go p l e { frames := 1, cells := 0, slots := 0, locals := 21 } s m args below meth c 3 D cI cB ad shsM A (MQ below (cQ D cI cB ad shsM (none) S' A) args s 0 0 A) 18 [(0, .ref (ad 0)), (1, .int (i32 a1)), (2, .int (i32 t20.1))] [] t20.2 := by
    refine lp_go (fun t20 : Int × Mem => Go p l e { frames := 1, cells := 0, slots := 0, locals := 21 } s m args below meth c 3 D cI cB ad shsM A (MQ below (cQ D cI cB ad shsM (none) S' A) args s 0 0 A) 18 [(0, .ref (ad 0)), (1, .int (i32 a1)), (2, .int (i32 t20.1))] [] t20.2) (fun z21 : Mem => Go p l e { frames := 1, cells := 0, slots := 0, locals := 21 } s m args below meth c 3 D cI cB ad shsM A (MQ below (cQ D cI cB ad shsM (none) S' A) args s 0 0 A) 43 [] [] z21) ?_
    intro t20 x22 h hx23
    unfold f_X8_writesNumber_l18 at h
    refine go_iload_n (pc := 18) X 2 dX8_writesNumber_18 rfl rfl ?_
    refine go_if_le (pc := 19) X 43 dX8_writesNumber_19 rfl (fun c25 => ?_) (fun c25 => ?_)
    · rw [if_neg c25] at h
      refine go_pick [] (Ls' := []) rfl ?_
      exact lp_back h hx23
    · rw [if_pos c25] at h
      refine go_aload_n (pc := 22) X 0 dX8_writesNumber_22 rfl rfl ?_
      refine go_bipush (pc := 23) X dX8_writesNumber_23 (by decide) (by decide) ?_
      refine go_iload_n (pc := 25) X 1 dX8_writesNumber_25 rfl rfl ?_
      refine go_iload_n (pc := 26) X 2 dX8_writesNumber_26 rfl rfl ?_
      obtain ⟨g26, h⟩ := gd_some h
      refine go_idiv (pc := 27) X dX8_writesNumber_27 g26 ?_
      refine go_bipush (pc := 28) X dX8_writesNumber_28 (by decide) (by decide) ?_
      refine go_irem (pc := 30) X dX8_writesNumber_30 rfl ?_
      refine go_iadd (pc := 31) X dX8_writesNumber_31 ?_
      obtain ⟨S27, h28, h⟩ := bind_some h
      refine go_callVv (pc := 32) X 1 [] (ct_X8_writes h28) sh8 rfl gg_X8_221 hd_X8_writes ⟨Nat.le_of_ble_eq_true rfl, Nat.le_of_ble_eq_true rfl⟩ rfl rfl (Nat.le_of_ble_eq_true rfl) dX8_writesNumber_32 ?_
      refine go_iload_n (pc := 35) X 2 dX8_writesNumber_35 rfl rfl ?_
      refine go_bipush (pc := 36) X dX8_writesNumber_36 (by decide) (by decide) ?_
      refine go_idiv (pc := 38) X dX8_writesNumber_38 rfl ?_
      refine go_istore_n (pc := 39) X [1, 2, 0] (Ls' := [(0, .ref (ad 0)), (1, .int (i32 a1)), (2, .int (i32 (dvb t20.1 10)))]) dX8_writesNumber_39 rfl (by decide) rfl ?_
      refine go_goto (pc := 40) X 18 dX8_writesNumber_40 rfl ?_
      exact lp_back h hx23
  refine H19 FU (r3, S) r17 h18 ?_
  exact go_vret (pc := 43) X h dX8_writesNumber_43
set_option maxRecDepth 100000 in
set_option maxHeartbeats 4000000 in
theorem ct_X8_writesOne {l : Launch} {D : va_G} {cI cB : ClassId} {Z : (Nat → Nat) × (Nat → Nat)} {ad : Nat → Nat} {S : Mem} {a1 : Int} {a2 : Int} {S' : Mem} (h : f_X8_writesOne S a1 a2 = some S') : Ctr l D cI cB Z ad shsM yX8_writesOne cX8_writesOne 3 none 2 45 [.ref (ad 0), .int (i32 a1), .int (i32 a2)] S (none) S' := by
  refine ctr_of (by decide +kernel) (Nat.le_of_ble_eq_true rfl) rfl ?_
  intro p e s m args below meth c A X
  unfold f_X8_writesOne at h
  refine go_aload_n (pc := 0) X 0 dX8_writesOne_0 rfl rfl ?_
  refine go_iload_n (pc := 1) X 1 dX8_writesOne_1 rfl rfl ?_
  obtain ⟨S1, h2, h⟩ := bind_some h
  refine go_callVv (pc := 2) X 1 [] (ct_X8_writesWord h2) sh8 rfl gg_X8_224 hd_X8_writesWord ⟨Nat.le_of_ble_eq_true rfl, Nat.le_of_ble_eq_true rfl⟩ rfl rfl (Nat.le_of_ble_eq_true rfl) dX8_writesOne_2 ?_
  refine go_aload_n (pc := 5) X 0 dX8_writesOne_5 rfl rfl ?_
  refine go_bipush (pc := 6) X dX8_writesOne_6 (by decide) (by decide) ?_
  obtain ⟨S3, h4, h⟩ := bind_some h
  refine go_callVv (pc := 8) X 1 [] (ct_X8_writes h4) sh8 rfl gg_X8_221 hd_X8_writes ⟨Nat.le_of_ble_eq_true rfl, Nat.le_of_ble_eq_true rfl⟩ rfl rfl (Nat.le_of_ble_eq_true rfl) dX8_writesOne_8 ?_
  refine go_aload_n (pc := 11) X 0 dX8_writesOne_11 rfl rfl ?_
  refine go_iload_n (pc := 12) X 2 dX8_writesOne_12 rfl rfl ?_
  obtain ⟨S5, h6, h⟩ := bind_some h
  refine go_callVv (pc := 13) X 1 [] (ct_X8_writesNumber h6) sh8 rfl gg_X8_227 hd_X8_writesNumber ⟨Nat.le_of_ble_eq_true rfl, Nat.le_of_ble_eq_true rfl⟩ rfl rfl (Nat.le_of_ble_eq_true rfl) dX8_writesOne_13 ?_
  refine go_aload_n (pc := 16) X 0 dX8_writesOne_16 rfl rfl ?_
  refine go_bipush (pc := 17) X dX8_writesOne_17 (by decide) (by decide) ?_
  obtain ⟨S7, h8, h⟩ := bind_some h
  refine go_callVv (pc := 19) X 1 [] (ct_X8_writes h8) sh8 rfl gg_X8_221 hd_X8_writes ⟨Nat.le_of_ble_eq_true rfl, Nat.le_of_ble_eq_true rfl⟩ rfl rfl (Nat.le_of_ble_eq_true rfl) dX8_writesOne_19 ?_
  exact go_vret (pc := 22) X h dX8_writesOne_22
set_option maxRecDepth 100000 in
set_option maxHeartbeats 4000000 in
theorem ct_X8_toldText {l : Launch} {D : va_G} {cI cB : ClassId} {Z : (Nat → Nat) × (Nat → Nat)} {ad : Nat → Nat} {S : Mem} {a1 : Int} {r : Int} (h : f_X8_toldText S a1 = some r) : Ctr l D cI cB Z ad shsM yX8_toldText cX8_toldText 2 (some .int) 0 0 [.ref (ad 0), .int (i32 a1)] S (some (.int (i32 r))) S := by
  refine ctr_of (by decide +kernel) (Nat.le_of_ble_eq_true rfl) rfl ?_
  intro p e s m args below meth c A X
  unfold f_X8_toldText at h
  refine go_iload_n (pc := 0) X 1 dX8_toldText_0 rfl rfl ?_
  refine go_iconst (pc := 1) X dX8_toldText_1 ?_
  refine go_icmp_ne (pc := 2) X 12 dX8_toldText_2 rfl (fun c1 => ?_) (fun c1 => ?_)
  · rw [if_neg c1] at h
    refine go_iload_n (pc := 12) X 1 dX8_toldText_12 rfl rfl ?_
    refine go_aload_n (pc := 13) X 0 dX8_toldText_13 rfl rfl ?_
    refine go_get (pc := 14) X (fk := 15) (fi := 15) rfl sh8 rfl inT_X8 (by decide) fL_X8_215 rfl dX8_toldText_14 ?_
    refine go_icmp_ge (pc := 17) X 29 dX8_toldText_17 rfl (fun c2 => ?_) (fun c2 => ?_)
    · rw [if_neg c2] at h
      refine go_bipush (pc := 29) X dX8_toldText_29 (by decide) (by decide) ?_
      exact go_iretP (pc := 31) X h dX8_toldText_31
    · rw [if_pos c2] at h
      refine go_aload_n (pc := 20) X 0 dX8_toldText_20 rfl rfl ?_
      refine go_getr (pc := 21) X (fk := 14) sh8 rfl inT_X8 (by decide) fL_X8_44 rfl dX8_toldText_21 ?_
      refine go_iload_n (pc := 24) X 1 dX8_toldText_24 rfl rfl ?_
      obtain ⟨g3, h⟩ := gd_some h
      refine go_iald (pc := 25) X shM11 (Nat.le_of_ble_eq_true rfl) rfl g3 dX8_toldText_25 ?_
      refine go_goto (pc := 26) X 31 dX8_toldText_26 rfl ?_
      exact go_iretP (pc := 31) X h dX8_toldText_31
  · rw [if_pos c1] at h
    refine go_aload_n (pc := 5) X 0 dX8_toldText_5 rfl rfl ?_
    refine go_get (pc := 6) X (fk := 15) (fi := 15) rfl sh8 rfl inT_X8 (by decide) fL_X8_215 rfl dX8_toldText_6 ?_
    refine go_goto (pc := 9) X 31 dX8_toldText_9 rfl ?_
    exact go_iretP (pc := 31) X h dX8_toldText_31
set_option maxRecDepth 100000 in
set_option maxHeartbeats 4000000 in
theorem ct_X8_spell {l : Launch} {D : va_G} {cI cB : ClassId} {Z : (Nat → Nat) × (Nat → Nat)} {ad : Nat → Nat} {S : Mem} {a1 : Int} {r : Int} {S' : Mem} (h : f_X8_spell S a1 = some (r, S')) : Ctr l D cI cB Z ad shsM yX8_spell cX8_spell 4 (some .int) 3 67 [.ref (ad 0), .int (i32 a1)] S (some (.int (i32 r))) S' := by
  refine ctr_of (by decide +kernel) (Nat.le_of_ble_eq_true rfl) rfl ?_
  intro p e s m args below meth c A X
  unfold f_X8_spell at h
  refine go_iload_n (pc := 0) X 1 dX8_spell_0 rfl rfl ?_
  refine go_iconst (pc := 1) X dX8_spell_1 ?_
  refine go_icmp_ge (pc := 2) X 7 dX8_spell_2 rfl (fun c1 => ?_) (fun c1 => ?_)
  · rw [if_neg c1] at h
    refine go_aload_n (pc := 7) X 0 dX8_spell_7 rfl rfl ?_
    refine go_iconst (pc := 8) X dX8_spell_8 ?_
    obtain ⟨S2, e3, h⟩ := wrk_some h
    refine go_putE (pc := 9) X (fk := 15) (fi := 15) rfl e3 sh8 rfl inT_X8 tyX8_ok nmX8 (by decide) fL_X8_215 rfl rfl rfl rfl rfl dX8_spell_9 ?_
    refine go_aload_n (pc := 12) X 0 dX8_spell_12 rfl rfl ?_
    refine go_iconst (pc := 13) X dX8_spell_13 ?_
    refine go_aload_n (pc := 14) X 0 dX8_spell_14 rfl rfl ?_
    refine go_getr (pc := 15) X (fk := 1) sh8 rfl inT_X8 (by decide) fL_X8_13 rfl dX8_spell_15 ?_
    refine go_iconst (pc := 18) X dX8_spell_18 ?_
    obtain ⟨g4, h⟩ := gd_some h
    refine go_iald (pc := 19) X shM1 (Nat.le_of_ble_eq_true rfl) rfl g4 dX8_spell_19 ?_
    obtain ⟨S5, h6, h⟩ := bind_some h
    refine go_callVv (pc := 20) X 2 [] (ct_X8_writesOne h6) sh8 rfl gg_X8_230 hd_X8_writesOne ⟨Nat.le_of_ble_eq_true rfl, Nat.le_of_ble_eq_true rfl⟩ rfl rfl (Nat.le_of_ble_eq_true rfl) dX8_spell_20 ?_
    refine go_aload_n (pc := 23) X 0 dX8_spell_23 rfl rfl ?_
    refine go_iconst (pc := 24) X dX8_spell_24 ?_
    refine go_aload_n (pc := 25) X 0 dX8_spell_25 rfl rfl ?_
    refine go_getr (pc := 26) X (fk := 1) sh8 rfl inT_X8 (by decide) fL_X8_13 rfl dX8_spell_26 ?_
    refine go_iconst (pc := 29) X dX8_spell_29 ?_
    obtain ⟨g7, h⟩ := gd_some h
    refine go_iald (pc := 30) X shM1 (Nat.le_of_ble_eq_true rfl) rfl g7 dX8_spell_30 ?_
    obtain ⟨S8, h9, h⟩ := bind_some h
    refine go_callVv (pc := 31) X 2 [] (ct_X8_writesOne h9) sh8 rfl gg_X8_230 hd_X8_writesOne ⟨Nat.le_of_ble_eq_true rfl, Nat.le_of_ble_eq_true rfl⟩ rfl rfl (Nat.le_of_ble_eq_true rfl) dX8_spell_31 ?_
    refine go_iconst (pc := 34) X dX8_spell_34 ?_
    refine go_istore_n (pc := 35) X [1, 2, 0] (Ls' := [(0, .ref (ad 0)), (1, .int (i32 a1)), (2, .int (i32 0))]) dX8_spell_35 rfl (by decide) rfl ?_
    obtain ⟨r59, h60, h⟩ := bind_some h
    have H61 : ∀ (n : Nat) (t62 : Int × Mem) (z63 : Mem), lp (f_X8_spell_l36 a1) n t62 = some z63 → Go p l e { frames := 3, cells := 0, slots := 0, locals := 67 } s m args below meth c 4 D cI cB ad shsM A (MQ below (cQ D cI cB ad shsM (some (.int (i32 r))) S' A) args s 0 0 A) 130 [(0, .ref (ad 0)), (1, .int (i32 a1))] [] z63 → Go p l e { frames := 3, cells := 0, slots := 0, locals := 67 } s m args below meth c 4 D cI cB ad shsM A (MQ below (cQ D cI cB ad shsM (some (.int (i32 r))) S' A) args s 0 0 A) 36 [(0, .ref (ad 0)), (1, .int (i32 a1)), (2, .int (i32 t62.1))] [] t62.2 := by
      refine lp_go (fun t62 : Int × Mem => Go p l e { frames := 3, cells := 0, slots := 0, locals := 67 } s m args below meth c 4 D cI cB ad shsM A (MQ below (cQ D cI cB ad shsM (some (.int (i32 r))) S' A) args s 0 0 A) 36 [(0, .ref (ad 0)), (1, .int (i32 a1)), (2, .int (i32 t62.1))] [] t62.2) (fun z63 : Mem => Go p l e { frames := 3, cells := 0, slots := 0, locals := 67 } s m args below meth c 4 D cI cB ad shsM A (MQ below (cQ D cI cB ad shsM (some (.int (i32 r))) S' A) args s 0 0 A) 130 [(0, .ref (ad 0)), (1, .int (i32 a1))] [] z63) ?_
      intro t62 x64 h hx65
      unfold f_X8_spell_l36 at h
      refine go_iload_n (pc := 36) X 2 dX8_spell_36 rfl rfl ?_
      refine go_aload_n (pc := 37) X 0 dX8_spell_37 rfl rfl ?_
      obtain ⟨r67, h68, h⟩ := bind_some h
      refine go_callVi (pc := 38) X 0 [.int (i32 t62.1)] (ct_X8_many h68) sh8 rfl gg_X8_61 hd_X8_many ⟨Nat.le_of_ble_eq_true rfl, Nat.le_of_ble_eq_true rfl⟩ rfl rfl (Nat.le_of_ble_eq_true rfl) dX8_spell_38 ?_
      refine go_icmp_ge (pc := 41) X 130 dX8_spell_41 rfl (fun c69 => ?_) (fun c69 => ?_)
      · rw [if_neg c69] at h
        refine go_pick [0, 1] (Ls' := [(0, .ref (ad 0)), (1, .int (i32 a1))]) rfl ?_
        exact lp_back h hx65
      · rw [if_pos c69] at h
        refine go_aload_n (pc := 44) X 0 dX8_spell_44 rfl rfl ?_
        refine go_iconst (pc := 45) X dX8_spell_45 ?_
        obtain ⟨S70, h71, h⟩ := bind_some h
        refine go_callVv (pc := 46) X 1 [] (ct_X8_writesWord h71) sh8 rfl gg_X8_224 hd_X8_writesWord ⟨Nat.le_of_ble_eq_true rfl, Nat.le_of_ble_eq_true rfl⟩ rfl rfl (Nat.le_of_ble_eq_true rfl) dX8_spell_46 ?_
        refine go_iconst (pc := 49) X dX8_spell_49 ?_
        refine go_istore_n (pc := 50) X [1, 2, 3, 0] (Ls' := [(0, .ref (ad 0)), (1, .int (i32 a1)), (2, .int (i32 t62.1)), (3, .int (i32 0))]) dX8_spell_50 rfl (by decide) rfl ?_
        obtain ⟨r72, h73, h⟩ := bind_some h
        have H74 : ∀ (n : Nat) (t75 : Int × Mem) (z76 : Mem), lp (f_X8_spell_l51 a1 t62.1) n t75 = some z76 → Go p l e { frames := 3, cells := 0, slots := 0, locals := 67 } s m args below meth c 4 D cI cB ad shsM A (MQ below (cQ D cI cB ad shsM (some (.int (i32 r))) S' A) args s 0 0 A) 82 [(0, .ref (ad 0)), (1, .int (i32 a1)), (2, .int (i32 t62.1))] [] z76 → Go p l e { frames := 3, cells := 0, slots := 0, locals := 67 } s m args below meth c 4 D cI cB ad shsM A (MQ below (cQ D cI cB ad shsM (some (.int (i32 r))) S' A) args s 0 0 A) 51 [(0, .ref (ad 0)), (1, .int (i32 a1)), (2, .int (i32 t62.1)), (3, .int (i32 t75.1))] [] t75.2 := by
          refine lp_go (fun t75 : Int × Mem => Go p l e { frames := 3, cells := 0, slots := 0, locals := 67 } s m args below meth c 4 D cI cB ad shsM A (MQ below (cQ D cI cB ad shsM (some (.int (i32 r))) S' A) args s 0 0 A) 51 [(0, .ref (ad 0)), (1, .int (i32 a1)), (2, .int (i32 t62.1)), (3, .int (i32 t75.1))] [] t75.2) (fun z76 : Mem => Go p l e { frames := 3, cells := 0, slots := 0, locals := 67 } s m args below meth c 4 D cI cB ad shsM A (MQ below (cQ D cI cB ad shsM (some (.int (i32 r))) S' A) args s 0 0 A) 82 [(0, .ref (ad 0)), (1, .int (i32 a1)), (2, .int (i32 t62.1))] [] z76) ?_
          intro t75 x77 h hx78
          unfold f_X8_spell_l51 at h
          refine go_iload_n (pc := 51) X 3 dX8_spell_51 rfl rfl ?_
          refine go_aload_n (pc := 52) X 0 dX8_spell_52 rfl rfl ?_
          refine go_iload_n (pc := 53) X 2 dX8_spell_53 rfl rfl ?_
          obtain ⟨r80, h81, h⟩ := bind_some h
          refine go_callVi (pc := 54) X 1 [.int (i32 t75.1)] (ct_X8_valuesOf h81) sh8 rfl gg_X8_73 hd_X8_valuesOf ⟨Nat.le_of_ble_eq_true rfl, Nat.le_of_ble_eq_true rfl⟩ rfl rfl (Nat.le_of_ble_eq_true rfl) dX8_spell_54 ?_
          refine go_icmp_ge (pc := 57) X 82 dX8_spell_57 rfl (fun c82 => ?_) (fun c82 => ?_)
          · rw [if_neg c82] at h
            refine go_pick [0, 1, 2] (Ls' := [(0, .ref (ad 0)), (1, .int (i32 a1)), (2, .int (i32 t62.1))]) rfl ?_
            exact lp_back h hx78
          · rw [if_pos c82] at h
            refine go_aload_n (pc := 60) X 0 dX8_spell_60 rfl rfl ?_
            refine go_bipush (pc := 61) X dX8_spell_61 (by decide) (by decide) ?_
            obtain ⟨S83, h84, h⟩ := bind_some h
            refine go_callVv (pc := 63) X 1 [] (ct_X8_writes h84) sh8 rfl gg_X8_221 hd_X8_writes ⟨Nat.le_of_ble_eq_true rfl, Nat.le_of_ble_eq_true rfl⟩ rfl rfl (Nat.le_of_ble_eq_true rfl) dX8_spell_63 ?_
            refine go_aload_n (pc := 66) X 0 dX8_spell_66 rfl rfl ?_
            refine go_aload_n (pc := 67) X 0 dX8_spell_67 rfl rfl ?_
            refine go_iload_n (pc := 68) X 2 dX8_spell_68 rfl rfl ?_
            refine go_iload_n (pc := 69) X 3 dX8_spell_69 rfl rfl ?_
            obtain ⟨r85, h86, h⟩ := bind_some h
            refine go_callVi (pc := 70) X 2 [.ref (ad 0)] (ct_X8_valueAt h86) sh8 rfl gg_X8_114 hd_X8_valueAt ⟨Nat.le_of_ble_eq_true rfl, Nat.le_of_ble_eq_true rfl⟩ rfl rfl (Nat.le_of_ble_eq_true rfl) dX8_spell_70 ?_
            obtain ⟨S87, h88, h⟩ := bind_some h
            refine go_callVv (pc := 73) X 1 [] (ct_X8_writesNumber h88) sh8 rfl gg_X8_227 hd_X8_writesNumber ⟨Nat.le_of_ble_eq_true rfl, Nat.le_of_ble_eq_true rfl⟩ rfl rfl (Nat.le_of_ble_eq_true rfl) dX8_spell_73 ?_
            refine go_iinc (pc := 76) X [1, 2, 3, 0] 3 (Ls' := [(0, .ref (ad 0)), (1, .int (i32 a1)), (2, .int (i32 t62.1)), (3, .int (i32 (t75.1 + 1)))]) dX8_spell_76 rfl (by decide) rfl ?_
            refine go_goto (pc := 79) X 51 dX8_spell_79 rfl ?_
            exact lp_back h hx78
        refine H74 FU (0, S70) r72 h73 ?_
        refine go_aload_n (pc := 82) X 0 dX8_spell_82 rfl rfl ?_
        refine go_iload_n (pc := 83) X 2 dX8_spell_83 rfl rfl ?_
        obtain ⟨r89, h90, h⟩ := bind_some h
        refine go_callVi (pc := 84) X 1 [] (ct_X8_capOf h90) sh8 rfl gg_X8_69 hd_X8_capOf ⟨Nat.le_of_ble_eq_true rfl, Nat.le_of_ble_eq_true rfl⟩ rfl rfl (Nat.le_of_ble_eq_true rfl) dX8_spell_84 ?_
        refine go_bipush (pc := 87) X dX8_spell_87 (by decide) (by decide) ?_
        obtain ⟨j91, h92, h⟩ := bind_some h
        have k93 : Go p l e { frames := 3, cells := 0, slots := 0, locals := 67 } s m args below meth c 4 D cI cB ad shsM A (MQ below (cQ D cI cB ad shsM (some (.int (i32 r))) S' A) args s 0 0 A) 118 [(0, .ref (ad 0)), (1, .int (i32 a1)), (2, .int (i32 t62.1))] [] j91 := by
          refine go_aload_n (pc := 118) X 0 dX8_spell_118 rfl rfl ?_
          refine go_bipush (pc := 119) X dX8_spell_119 (by decide) (by decide) ?_
          obtain ⟨S94, h95, h⟩ := bind_some h
          refine go_callVv (pc := 121) X 1 [] (ct_X8_writes h95) sh8 rfl gg_X8_221 hd_X8_writes ⟨Nat.le_of_ble_eq_true rfl, Nat.le_of_ble_eq_true rfl⟩ rfl rfl (Nat.le_of_ble_eq_true rfl) dX8_spell_121 ?_
          refine go_iinc (pc := 124) X [1, 2, 0] 2 (Ls' := [(0, .ref (ad 0)), (1, .int (i32 a1)), (2, .int (i32 (t62.1 + 1)))]) dX8_spell_124 rfl (by decide) rfl ?_
          refine go_goto (pc := 127) X 36 dX8_spell_127 rfl ?_
          exact lp_back h hx65
        refine go_icmp_eq (pc := 89) X 118 dX8_spell_89 rfl (fun c96 => ?_) (fun c96 => ?_)
        · rw [if_pos c96] at h92
          cases h92
          exact k93
        · rw [if_neg c96] at h92
          refine go_aload_n (pc := 92) X 0 dX8_spell_92 rfl rfl ?_
          refine go_bipush (pc := 93) X dX8_spell_93 (by decide) (by decide) ?_
          obtain ⟨S97, h98, h92⟩ := bind_some h92
          refine go_callVv (pc := 95) X 1 [] (ct_X8_writes h98) sh8 rfl gg_X8_221 hd_X8_writes ⟨Nat.le_of_ble_eq_true rfl, Nat.le_of_ble_eq_true rfl⟩ rfl rfl (Nat.le_of_ble_eq_true rfl) dX8_spell_95 ?_
          refine go_aload_n (pc := 98) X 0 dX8_spell_98 rfl rfl ?_
          refine go_iconst (pc := 99) X dX8_spell_99 ?_
          obtain ⟨S99, h100, h92⟩ := bind_some h92
          refine go_callVv (pc := 100) X 1 [] (ct_X8_writesWord h100) sh8 rfl gg_X8_224 hd_X8_writesWord ⟨Nat.le_of_ble_eq_true rfl, Nat.le_of_ble_eq_true rfl⟩ rfl rfl (Nat.le_of_ble_eq_true rfl) dX8_spell_100 ?_
          refine go_aload_n (pc := 103) X 0 dX8_spell_103 rfl rfl ?_
          refine go_bipush (pc := 104) X dX8_spell_104 (by decide) (by decide) ?_
          obtain ⟨S101, h102, h92⟩ := bind_some h92
          refine go_callVv (pc := 106) X 1 [] (ct_X8_writes h102) sh8 rfl gg_X8_221 hd_X8_writes ⟨Nat.le_of_ble_eq_true rfl, Nat.le_of_ble_eq_true rfl⟩ rfl rfl (Nat.le_of_ble_eq_true rfl) dX8_spell_106 ?_
          refine go_aload_n (pc := 109) X 0 dX8_spell_109 rfl rfl ?_
          refine go_aload_n (pc := 110) X 0 dX8_spell_110 rfl rfl ?_
          refine go_iload_n (pc := 111) X 2 dX8_spell_111 rfl rfl ?_
          obtain ⟨r103, h104, h92⟩ := bind_some h92
          refine go_callVi (pc := 112) X 1 [.ref (ad 0)] (ct_X8_capOf h104) sh8 rfl gg_X8_69 hd_X8_capOf ⟨Nat.le_of_ble_eq_true rfl, Nat.le_of_ble_eq_true rfl⟩ rfl rfl (Nat.le_of_ble_eq_true rfl) dX8_spell_112 ?_
          obtain ⟨S105, h106, h92⟩ := bind_some h92
          refine go_callVv (pc := 115) X 1 [] (ct_X8_writesNumber h106) sh8 rfl gg_X8_227 hd_X8_writesNumber ⟨Nat.le_of_ble_eq_true rfl, Nat.le_of_ble_eq_true rfl⟩ rfl rfl (Nat.le_of_ble_eq_true rfl) dX8_spell_115 ?_
          cases h92
          exact k93
    refine H61 FU (0, S8) r59 h60 ?_
    refine go_aload_n (pc := 130) X 0 dX8_spell_130 rfl rfl ?_
    refine go_iload_n (pc := 131) X 1 dX8_spell_131 rfl rfl ?_
    obtain ⟨r107, h108, h⟩ := bind_some h
    refine go_callVi (pc := 132) X 1 [] (ct_X8_toldText h108) sh8 rfl gg_X8_233 hd_X8_toldText ⟨Nat.le_of_ble_eq_true rfl, Nat.le_of_ble_eq_true rfl⟩ rfl rfl (Nat.le_of_ble_eq_true rfl) dX8_spell_132 ?_
    exact go_iret (pc := 135) X h dX8_spell_135
  · rw [if_pos c1] at h
    refine go_iconst (pc := 5) X dX8_spell_5 ?_
    exact go_iret (pc := 6) X h dX8_spell_6
set_option maxRecDepth 100000 in
set_option maxHeartbeats 4000000 in
theorem ct_X8_report {l : Launch} {D : va_G} {cI cB : ClassId} {Z : (Nat → Nat) × (Nat → Nat)} {ad : Nat → Nat} {S : Mem} {a1 : Int} {a2 : Int} {r : Int} {S' : Mem} (h : f_X8_report S a1 a2 = some (r, S')) : Ctr l D cI cB Z ad shsM yX8_report cX8_report 4 (some .int) 7 156 [.ref (ad 0), .int (i32 a1), .int (i32 a2)] S (some (.int (i32 r))) S' := by
  refine ctr_of (by decide +kernel) (Nat.le_of_ble_eq_true rfl) rfl ?_
  intro p e s m args below meth c A X
  unfold f_X8_report at h
  refine go_iload_n (pc := 0) X 1 dX8_report_0 rfl rfl ?_
  obtain ⟨r1, h2, h⟩ := bind_some h
  refine go_callSi (pc := 1) X 1 [] (ct_X8_isKind h2) gg_X8_168 hd_X8_isKind ⟨Nat.le_of_ble_eq_true rfl, Nat.le_of_ble_eq_true rfl⟩ rfl rfl (Nat.le_of_ble_eq_true rfl) dX8_report_1 ?_
  refine go_if_eq (pc := 4) X 12 dX8_report_4 rfl (fun c3 => ?_) (fun c3 => ?_)
  · rw [if_pos c3] at h
    refine go_iconst (pc := 12) X dX8_report_12 ?_
    exact go_iret (pc := 13) X h dX8_report_13
  · rw [if_neg c3] at h
    refine go_iload_n (pc := 7) X 2 dX8_report_7 rfl rfl ?_
    refine go_iconst (pc := 8) X dX8_report_8 ?_
    refine go_icmp_ge (pc := 9) X 14 dX8_report_9 rfl (fun c4 => ?_) (fun c4 => ?_)
    · rw [if_neg c4] at h
      refine go_aload_n (pc := 14) X 0 dX8_report_14 rfl rfl ?_
      obtain ⟨S5, h6, h⟩ := bind_some h
      refine go_callVv (pc := 15) X 0 [] (ct_X8_runs h6) sh8 rfl gg_X8_171 hd_X8_runs ⟨Nat.le_of_ble_eq_true rfl, Nat.le_of_ble_eq_true rfl⟩ rfl rfl (Nat.le_of_ble_eq_true rfl) dX8_report_15 ?_
      refine go_aload_n (pc := 18) X 0 dX8_report_18 rfl rfl ?_
      refine go_iconst (pc := 19) X dX8_report_19 ?_
      obtain ⟨S7, e8, h⟩ := wrk_some h
      refine go_putE (pc := 20) X (fk := 15) (fi := 15) rfl e8 sh8 rfl inT_X8 tyX8_ok nmX8 (by decide) fL_X8_215 rfl rfl rfl rfl rfl dX8_report_20 ?_
      refine go_aload_n (pc := 23) X 0 dX8_report_23 rfl rfl ?_
      refine go_iconst (pc := 24) X dX8_report_24 ?_
      refine go_aload_n (pc := 25) X 0 dX8_report_25 rfl rfl ?_
      refine go_get (pc := 26) X (fk := 12) (fi := 12) rfl sh8 rfl inT_X8 (by decide) fL_X8_144 rfl dX8_report_26 ?_
      obtain ⟨S9, h10, h⟩ := bind_some h
      refine go_callVv (pc := 29) X 2 [] (ct_X8_writesOne h10) sh8 rfl gg_X8_230 hd_X8_writesOne ⟨Nat.le_of_ble_eq_true rfl, Nat.le_of_ble_eq_true rfl⟩ rfl rfl (Nat.le_of_ble_eq_true rfl) dX8_report_29 ?_
      refine go_iconst (pc := 32) X dX8_report_32 ?_
      refine go_istore_n (pc := 33) X [1, 2, 3, 0] (Ls' := [(0, .ref (ad 0)), (1, .int (i32 a1)), (2, .int (i32 a2)), (3, .int (i32 0))]) dX8_report_33 rfl (by decide) rfl ?_
      obtain ⟨r35, h36, h⟩ := bind_some h
      have H37 : ∀ (n : Nat) (t38 : Int × Mem) (z39 : Mem), lp (f_X8_report_l34 a1 a2) n t38 = some z39 → Go p l e { frames := 7, cells := 0, slots := 0, locals := 156 } s m args below meth c 4 D cI cB ad shsM A (MQ below (cQ D cI cB ad shsM (some (.int (i32 r))) S' A) args s 0 0 A) 110 [(0, .ref (ad 0)), (2, .int (i32 a2))] [] z39 → Go p l e { frames := 7, cells := 0, slots := 0, locals := 156 } s m args below meth c 4 D cI cB ad shsM A (MQ below (cQ D cI cB ad shsM (some (.int (i32 r))) S' A) args s 0 0 A) 34 [(0, .ref (ad 0)), (1, .int (i32 a1)), (2, .int (i32 a2)), (3, .int (i32 t38.1))] [] t38.2 := by
        refine lp_go (fun t38 : Int × Mem => Go p l e { frames := 7, cells := 0, slots := 0, locals := 156 } s m args below meth c 4 D cI cB ad shsM A (MQ below (cQ D cI cB ad shsM (some (.int (i32 r))) S' A) args s 0 0 A) 34 [(0, .ref (ad 0)), (1, .int (i32 a1)), (2, .int (i32 a2)), (3, .int (i32 t38.1))] [] t38.2) (fun z39 : Mem => Go p l e { frames := 7, cells := 0, slots := 0, locals := 156 } s m args below meth c 4 D cI cB ad shsM A (MQ below (cQ D cI cB ad shsM (some (.int (i32 r))) S' A) args s 0 0 A) 110 [(0, .ref (ad 0)), (2, .int (i32 a2))] [] z39) ?_
        intro t38 x40 h hx41
        unfold f_X8_report_l34 at h
        refine go_iload_n (pc := 34) X 3 dX8_report_34 rfl rfl ?_
        refine go_aload_n (pc := 35) X 0 dX8_report_35 rfl rfl ?_
        obtain ⟨r43, h44, h⟩ := bind_some h
        refine go_callVi (pc := 36) X 0 [.int (i32 t38.1)] (ct_X8_many h44) sh8 rfl gg_X8_61 hd_X8_many ⟨Nat.le_of_ble_eq_true rfl, Nat.le_of_ble_eq_true rfl⟩ rfl rfl (Nat.le_of_ble_eq_true rfl) dX8_report_36 ?_
        refine go_icmp_ge (pc := 39) X 110 dX8_report_39 rfl (fun c45 => ?_) (fun c45 => ?_)
        · rw [if_neg c45] at h
          refine go_pick [0, 2] (Ls' := [(0, .ref (ad 0)), (2, .int (i32 a2))]) rfl ?_
          exact lp_back h hx41
        · rw [if_pos c45] at h
          refine go_aload_n (pc := 42) X 0 dX8_report_42 rfl rfl ?_
          refine go_getr (pc := 43) X (fk := 6) sh8 rfl inT_X8 (by decide) fL_X8_26 rfl dX8_report_43 ?_
          refine go_iload_n (pc := 46) X 3 dX8_report_46 rfl rfl ?_
          obtain ⟨g46, h⟩ := gd_some h
          refine go_iald (pc := 47) X shM5 (Nat.le_of_ble_eq_true rfl) rfl g46 dX8_report_47 ?_
          obtain ⟨j47, h48, h⟩ := bind_some h
          have k49 : Go p l e { frames := 7, cells := 0, slots := 0, locals := 156 } s m args below meth c 4 D cI cB ad shsM A (MQ below (cQ D cI cB ad shsM (some (.int (i32 r))) S' A) args s 0 0 A) 104 [(0, .ref (ad 0)), (1, .int (i32 a1)), (2, .int (i32 a2)), (3, .int (i32 t38.1))] [] j47 := by
            refine go_iinc (pc := 104) X [1, 2, 3, 0] 3 (Ls' := [(0, .ref (ad 0)), (1, .int (i32 a1)), (2, .int (i32 a2)), (3, .int (i32 (t38.1 + 1)))]) dX8_report_104 rfl (by decide) rfl ?_
            refine go_goto (pc := 107) X 34 dX8_report_107 rfl ?_
            exact lp_back h hx41
          refine go_if_ne (pc := 48) X 54 dX8_report_48 rfl (fun c50 => ?_) (fun c50 => ?_)
          · rw [if_neg c50] at h48
            refine go_aload_n (pc := 54) X 0 dX8_report_54 rfl rfl ?_
            refine go_iload_n (pc := 55) X 3 dX8_report_55 rfl rfl ?_
            obtain ⟨S51, h52, h48⟩ := bind_some h48
            refine go_callVv (pc := 56) X 1 [] (ct_X8_writesNumber h52) sh8 rfl gg_X8_227 hd_X8_writesNumber ⟨Nat.le_of_ble_eq_true rfl, Nat.le_of_ble_eq_true rfl⟩ rfl rfl (Nat.le_of_ble_eq_true rfl) dX8_report_56 ?_
            refine go_aload_n (pc := 59) X 0 dX8_report_59 rfl rfl ?_
            refine go_bipush (pc := 60) X dX8_report_60 (by decide) (by decide) ?_
            obtain ⟨S53, h54, h48⟩ := bind_some h48
            refine go_callVv (pc := 62) X 1 [] (ct_X8_writes h54) sh8 rfl gg_X8_221 hd_X8_writes ⟨Nat.le_of_ble_eq_true rfl, Nat.le_of_ble_eq_true rfl⟩ rfl rfl (Nat.le_of_ble_eq_true rfl) dX8_report_62 ?_
            refine go_aload_n (pc := 65) X 0 dX8_report_65 rfl rfl ?_
            refine go_iconst (pc := 66) X dX8_report_66 ?_
            obtain ⟨S55, h56, h48⟩ := bind_some h48
            refine go_callVv (pc := 67) X 1 [] (ct_X8_writesWord h56) sh8 rfl gg_X8_224 hd_X8_writesWord ⟨Nat.le_of_ble_eq_true rfl, Nat.le_of_ble_eq_true rfl⟩ rfl rfl (Nat.le_of_ble_eq_true rfl) dX8_report_67 ?_
            refine go_aload_n (pc := 70) X 0 dX8_report_70 rfl rfl ?_
            refine go_bipush (pc := 71) X dX8_report_71 (by decide) (by decide) ?_
            obtain ⟨S57, h58, h48⟩ := bind_some h48
            refine go_callVv (pc := 73) X 1 [] (ct_X8_writes h58) sh8 rfl gg_X8_221 hd_X8_writes ⟨Nat.le_of_ble_eq_true rfl, Nat.le_of_ble_eq_true rfl⟩ rfl rfl (Nat.le_of_ble_eq_true rfl) dX8_report_73 ?_
            refine go_aload_n (pc := 76) X 0 dX8_report_76 rfl rfl ?_
            refine go_aload_n (pc := 77) X 0 dX8_report_77 rfl rfl ?_
            refine go_getr (pc := 78) X (fk := 6) sh8 rfl inT_X8 (by decide) fL_X8_26 rfl dX8_report_78 ?_
            refine go_iload_n (pc := 81) X 3 dX8_report_81 rfl rfl ?_
            refine go_iald (pc := 82) X shM5 (Nat.le_of_ble_eq_true rfl) rfl g46 dX8_report_82 ?_
            obtain ⟨S59, h60, h48⟩ := bind_some h48
            refine go_callVv (pc := 83) X 1 [] (ct_X8_writesNumber h60) sh8 rfl gg_X8_227 hd_X8_writesNumber ⟨Nat.le_of_ble_eq_true rfl, Nat.le_of_ble_eq_true rfl⟩ rfl rfl (Nat.le_of_ble_eq_true rfl) dX8_report_83 ?_
            refine go_aload_n (pc := 86) X 0 dX8_report_86 rfl rfl ?_
            refine go_bipush (pc := 87) X dX8_report_87 (by decide) (by decide) ?_
            obtain ⟨S61, h62, h48⟩ := bind_some h48
            refine go_callVv (pc := 89) X 1 [] (ct_X8_writes h62) sh8 rfl gg_X8_221 hd_X8_writes ⟨Nat.le_of_ble_eq_true rfl, Nat.le_of_ble_eq_true rfl⟩ rfl rfl (Nat.le_of_ble_eq_true rfl) dX8_report_89 ?_
            refine go_aload_n (pc := 92) X 0 dX8_report_92 rfl rfl ?_
            refine go_bipush (pc := 93) X dX8_report_93 (by decide) (by decide) ?_
            refine go_aload_n (pc := 95) X 0 dX8_report_95 rfl rfl ?_
            refine go_iload_n (pc := 96) X 3 dX8_report_96 rfl rfl ?_
            refine go_iload_n (pc := 97) X 1 dX8_report_97 rfl rfl ?_
            obtain ⟨u63, h64, h48⟩ := bind_some h48
            refine go_callVi (pc := 98) X 2 [.int (i32 6), .ref (ad 0)] (ct_X8_paysOf h64) sh8 rfl gg_X8_165 hd_X8_paysOf ⟨Nat.le_of_ble_eq_true rfl, Nat.le_of_ble_eq_true rfl⟩ rfl rfl (Nat.le_of_ble_eq_true rfl) dX8_report_98 ?_
            obtain ⟨S65, h66, h48⟩ := bind_some h48
            refine go_callVv (pc := 101) X 2 [] (ct_X8_writesOne h66) sh8 rfl gg_X8_230 hd_X8_writesOne ⟨Nat.le_of_ble_eq_true rfl, Nat.le_of_ble_eq_true rfl⟩ rfl rfl (Nat.le_of_ble_eq_true rfl) dX8_report_101 ?_
            cases h48
            exact k49
          · rw [if_pos c50] at h48
            refine go_goto (pc := 51) X 104 dX8_report_51 rfl ?_
            cases h48
            exact k49
      refine H37 FU (0, S9) r35 h36 ?_
      refine go_aload_n (pc := 110) X 0 dX8_report_110 rfl rfl ?_
      refine go_bipush (pc := 111) X dX8_report_111 (by decide) (by decide) ?_
      refine go_aload_n (pc := 113) X 0 dX8_report_113 rfl rfl ?_
      obtain ⟨r67, h68, h⟩ := bind_some h
      refine go_callVi (pc := 114) X 0 [.int (i32 7), .ref (ad 0)] (ct_X8_unsold h68) sh8 rfl gg_X8_162 hd_X8_unsold ⟨Nat.le_of_ble_eq_true rfl, Nat.le_of_ble_eq_true rfl⟩ rfl rfl (Nat.le_of_ble_eq_true rfl) dX8_report_114 ?_
      obtain ⟨S69, h70, h⟩ := bind_some h
      refine go_callVv (pc := 117) X 2 [] (ct_X8_writesOne h70) sh8 rfl gg_X8_230 hd_X8_writesOne ⟨Nat.le_of_ble_eq_true rfl, Nat.le_of_ble_eq_true rfl⟩ rfl rfl (Nat.le_of_ble_eq_true rfl) dX8_report_117 ?_
      refine go_aload_n (pc := 120) X 0 dX8_report_120 rfl rfl ?_
      refine go_iload_n (pc := 121) X 1 dX8_report_121 rfl rfl ?_
      obtain ⟨r71, h72, h⟩ := bind_some h
      refine go_callVi (pc := 122) X 1 [] (ct_X8_toldText h72) sh8 rfl gg_X8_233 hd_X8_toldText ⟨Nat.le_of_ble_eq_true rfl, Nat.le_of_ble_eq_true rfl⟩ rfl rfl (Nat.le_of_ble_eq_true rfl) dX8_report_122 ?_
      exact go_iret (pc := 125) X h dX8_report_125
    · rw [if_pos c4] at h
      refine go_iconst (pc := 12) X dX8_report_12 ?_
      exact go_iret (pc := 13) X h dX8_report_13
set_option maxRecDepth 100000 in
set_option maxHeartbeats 4000000 in
theorem ct_X8_valuesInAll {l : Launch} {D : va_G} {cI cB : ClassId} {Z : (Nat → Nat) × (Nat → Nat)} {ad : Nat → Nat} {S : Mem} {r : Int} (h : f_X8_valuesInAll S = some r) : Ctr l D cI cB Z ad shsM yX8_valuesInAll cX8_valuesInAll 3 (some .int) 1 21 [.ref (ad 0)] S (some (.int (i32 r))) S := by
  refine ctr_of (by decide +kernel) (Nat.le_of_ble_eq_true rfl) rfl ?_
  intro p e s m args below meth c A X
  unfold f_X8_valuesInAll at h
  refine go_iconst (pc := 0) X dX8_valuesInAll_0 ?_
  refine go_istore_n (pc := 1) X [1, 0] (Ls' := [(0, .ref (ad 0)), (1, .int (i32 0))]) dX8_valuesInAll_1 rfl (by decide) rfl ?_
  refine go_iconst (pc := 2) X dX8_valuesInAll_2 ?_
  refine go_istore_n (pc := 3) X [1, 2, 0] (Ls' := [(0, .ref (ad 0)), (1, .int (i32 0)), (2, .int (i32 0))]) dX8_valuesInAll_3 rfl (by decide) rfl ?_
  obtain ⟨r6, h7, h⟩ := bind_some h
  have H8 : ∀ (n : Nat) (t9 : Int × Int) (z10 : Int), lp (f_X8_valuesInAll_l4 S) n t9 = some z10 → Go p l e { frames := 1, cells := 0, slots := 0, locals := 21 } s m args below meth c 3 D cI cB ad shsM A (MQ below (cQ D cI cB ad shsM (some (.int (i32 r))) S A) args s 0 0 A) 26 [(1, .int (i32 z10))] [] S → Go p l e { frames := 1, cells := 0, slots := 0, locals := 21 } s m args below meth c 3 D cI cB ad shsM A (MQ below (cQ D cI cB ad shsM (some (.int (i32 r))) S A) args s 0 0 A) 4 [(0, .ref (ad 0)), (1, .int (i32 t9.1)), (2, .int (i32 t9.2))] [] S := by
    refine lp_go (fun t9 : Int × Int => Go p l e { frames := 1, cells := 0, slots := 0, locals := 21 } s m args below meth c 3 D cI cB ad shsM A (MQ below (cQ D cI cB ad shsM (some (.int (i32 r))) S A) args s 0 0 A) 4 [(0, .ref (ad 0)), (1, .int (i32 t9.1)), (2, .int (i32 t9.2))] [] S) (fun z10 : Int => Go p l e { frames := 1, cells := 0, slots := 0, locals := 21 } s m args below meth c 3 D cI cB ad shsM A (MQ below (cQ D cI cB ad shsM (some (.int (i32 r))) S A) args s 0 0 A) 26 [(1, .int (i32 z10))] [] S) ?_
    intro t9 x11 h hx12
    unfold f_X8_valuesInAll_l4 at h
    refine go_iload_n (pc := 4) X 2 dX8_valuesInAll_4 rfl rfl ?_
    refine go_aload_n (pc := 5) X 0 dX8_valuesInAll_5 rfl rfl ?_
    obtain ⟨r14, h15, h⟩ := bind_some h
    refine go_callVi (pc := 6) X 0 [.int (i32 t9.2)] (ct_X8_many h15) sh8 rfl gg_X8_61 hd_X8_many ⟨Nat.le_of_ble_eq_true rfl, Nat.le_of_ble_eq_true rfl⟩ rfl rfl (Nat.le_of_ble_eq_true rfl) dX8_valuesInAll_6 ?_
    refine go_icmp_ge (pc := 9) X 26 dX8_valuesInAll_9 rfl (fun c16 => ?_) (fun c16 => ?_)
    · rw [if_neg c16] at h
      refine go_pick [1] (Ls' := [(1, .int (i32 t9.1))]) rfl ?_
      exact lp_back h hx12
    · rw [if_pos c16] at h
      refine go_iload_n (pc := 12) X 1 dX8_valuesInAll_12 rfl rfl ?_
      refine go_aload_n (pc := 13) X 0 dX8_valuesInAll_13 rfl rfl ?_
      refine go_iload_n (pc := 14) X 2 dX8_valuesInAll_14 rfl rfl ?_
      obtain ⟨r17, h18, h⟩ := bind_some h
      refine go_callVi (pc := 15) X 1 [.int (i32 t9.1)] (ct_X8_valuesOf h18) sh8 rfl gg_X8_73 hd_X8_valuesOf ⟨Nat.le_of_ble_eq_true rfl, Nat.le_of_ble_eq_true rfl⟩ rfl rfl (Nat.le_of_ble_eq_true rfl) dX8_valuesInAll_15 ?_
      refine go_iadd (pc := 18) X dX8_valuesInAll_18 ?_
      refine go_istore_n (pc := 19) X [1, 0, 2] (Ls' := [(0, .ref (ad 0)), (1, .int (i32 (t9.1 + r17))), (2, .int (i32 t9.2))]) dX8_valuesInAll_19 rfl (by decide) rfl ?_
      refine go_iinc (pc := 20) X [1, 2, 0] 2 (Ls' := [(0, .ref (ad 0)), (1, .int (i32 (t9.1 + r17))), (2, .int (i32 (t9.2 + 1)))]) dX8_valuesInAll_20 rfl (by decide) rfl ?_
      refine go_goto (pc := 23) X 4 dX8_valuesInAll_23 rfl ?_
      exact lp_back h hx12
  refine H8 FU (0, 0) r6 h7 ?_
  refine go_iload_n (pc := 26) X 0 dX8_valuesInAll_26 rfl rfl ?_
  exact go_iretP (pc := 27) X h dX8_valuesInAll_27
set_option maxRecDepth 100000 in
set_option maxHeartbeats 4000000 in
theorem ct_X8_greatestValue {l : Launch} {D : va_G} {cI cB : ClassId} {Z : (Nat → Nat) × (Nat → Nat)} {ad : Nat → Nat} {S : Mem} {r : Int} (h : f_X8_greatestValue S = some r) : Ctr l D cI cB Z ad shsM yX8_greatestValue cX8_greatestValue 3 (some .int) 1 22 [.ref (ad 0)] S (some (.int (i32 r))) S := by
  refine ctr_of (by decide +kernel) (Nat.le_of_ble_eq_true rfl) rfl ?_
  intro p e s m args below meth c A X
  unfold f_X8_greatestValue at h
  refine go_bipush (pc := 0) X dX8_greatestValue_0 (by decide) (by decide) ?_
  refine go_istore_n (pc := 2) X [1, 0] (Ls' := [(0, .ref (ad 0)), (1, .int (i32 (-2)))]) dX8_greatestValue_2 rfl (by decide) rfl ?_
  refine go_iconst (pc := 3) X dX8_greatestValue_3 ?_
  refine go_istore_n (pc := 4) X [1, 2, 0] (Ls' := [(0, .ref (ad 0)), (1, .int (i32 (-2))), (2, .int (i32 0))]) dX8_greatestValue_4 rfl (by decide) rfl ?_
  obtain ⟨r15, h16, h⟩ := bind_some h
  have H17 : ∀ (n : Nat) (t18 : Int × Int) (z19 : Int), lp (f_X8_greatestValue_l5 S) n t18 = some z19 → Go p l e { frames := 1, cells := 0, slots := 0, locals := 22 } s m args below meth c 3 D cI cB ad shsM A (MQ below (cQ D cI cB ad shsM (some (.int (i32 r))) S A) args s 0 0 A) 44 [(1, .int (i32 z19))] [] S → Go p l e { frames := 1, cells := 0, slots := 0, locals := 22 } s m args below meth c 3 D cI cB ad shsM A (MQ below (cQ D cI cB ad shsM (some (.int (i32 r))) S A) args s 0 0 A) 5 [(0, .ref (ad 0)), (1, .int (i32 t18.1)), (2, .int (i32 t18.2))] [] S := by
    refine lp_go (fun t18 : Int × Int => Go p l e { frames := 1, cells := 0, slots := 0, locals := 22 } s m args below meth c 3 D cI cB ad shsM A (MQ below (cQ D cI cB ad shsM (some (.int (i32 r))) S A) args s 0 0 A) 5 [(0, .ref (ad 0)), (1, .int (i32 t18.1)), (2, .int (i32 t18.2))] [] S) (fun z19 : Int => Go p l e { frames := 1, cells := 0, slots := 0, locals := 22 } s m args below meth c 3 D cI cB ad shsM A (MQ below (cQ D cI cB ad shsM (some (.int (i32 r))) S A) args s 0 0 A) 44 [(1, .int (i32 z19))] [] S) ?_
    intro t18 x20 h hx21
    unfold f_X8_greatestValue_l5 at h
    refine go_iload_n (pc := 5) X 2 dX8_greatestValue_5 rfl rfl ?_
    refine go_aload_n (pc := 6) X 0 dX8_greatestValue_6 rfl rfl ?_
    obtain ⟨r23, h24, h⟩ := bind_some h
    refine go_callVi (pc := 7) X 0 [.int (i32 t18.2)] (ct_X8_many h24) sh8 rfl gg_X8_61 hd_X8_many ⟨Nat.le_of_ble_eq_true rfl, Nat.le_of_ble_eq_true rfl⟩ rfl rfl (Nat.le_of_ble_eq_true rfl) dX8_greatestValue_7 ?_
    refine go_icmp_ge (pc := 10) X 44 dX8_greatestValue_10 rfl (fun c25 => ?_) (fun c25 => ?_)
    · rw [if_neg c25] at h
      refine go_pick [1] (Ls' := [(1, .int (i32 t18.1))]) rfl ?_
      exact lp_back h hx21
    · rw [if_pos c25] at h
      refine go_aload_n (pc := 13) X 0 dX8_greatestValue_13 rfl rfl ?_
      refine go_iload_n (pc := 14) X 2 dX8_greatestValue_14 rfl rfl ?_
      obtain ⟨r26, h27, h⟩ := bind_some h
      refine go_callVi (pc := 15) X 1 [] (ct_X8_valuesOf h27) sh8 rfl gg_X8_73 hd_X8_valuesOf ⟨Nat.le_of_ble_eq_true rfl, Nat.le_of_ble_eq_true rfl⟩ rfl rfl (Nat.le_of_ble_eq_true rfl) dX8_greatestValue_15 ?_
      obtain ⟨j28, h29, h⟩ := bind_some h
      have k30 : Go p l e { frames := 1, cells := 0, slots := 0, locals := 22 } s m args below meth c 3 D cI cB ad shsM A (MQ below (cQ D cI cB ad shsM (some (.int (i32 r))) S A) args s 0 0 A) 38 [(0, .ref (ad 0)), (1, .int (i32 j28)), (2, .int (i32 t18.2))] [] S := by
        refine go_iinc (pc := 38) X [1, 2, 0] 2 (Ls' := [(0, .ref (ad 0)), (1, .int (i32 j28)), (2, .int (i32 (t18.2 + 1)))]) dX8_greatestValue_38 rfl (by decide) rfl ?_
        refine go_goto (pc := 41) X 5 dX8_greatestValue_41 rfl ?_
        exact lp_back h hx21
      refine go_if_le (pc := 18) X 38 dX8_greatestValue_18 rfl (fun c31 => ?_) (fun c31 => ?_)
      · rw [if_neg c31] at h29
        cases h29
        exact k30
      · rw [if_pos c31] at h29
        refine go_aload_n (pc := 21) X 0 dX8_greatestValue_21 rfl rfl ?_
        refine go_iload_n (pc := 22) X 2 dX8_greatestValue_22 rfl rfl ?_
        refine go_iconst (pc := 23) X dX8_greatestValue_23 ?_
        obtain ⟨r32, h33, h29⟩ := bind_some h29
        refine go_callVi (pc := 24) X 2 [] (ct_X8_valueAt h33) sh8 rfl gg_X8_114 hd_X8_valueAt ⟨Nat.le_of_ble_eq_true rfl, Nat.le_of_ble_eq_true rfl⟩ rfl rfl (Nat.le_of_ble_eq_true rfl) dX8_greatestValue_24 ?_
        refine go_iload_n (pc := 27) X 1 dX8_greatestValue_27 rfl rfl ?_
        refine go_icmp_le (pc := 28) X 38 dX8_greatestValue_28 rfl (fun c34 => ?_) (fun c34 => ?_)
        · rw [if_neg c34] at h29
          cases h29
          exact k30
        · rw [if_pos c34] at h29
          refine go_aload_n (pc := 31) X 0 dX8_greatestValue_31 rfl rfl ?_
          refine go_iload_n (pc := 32) X 2 dX8_greatestValue_32 rfl rfl ?_
          refine go_iconst (pc := 33) X dX8_greatestValue_33 ?_
          obtain ⟨r35, h36, h29⟩ := bind_some h29
          refine go_callVi (pc := 34) X 2 [] (ct_X8_valueAt h36) sh8 rfl gg_X8_114 hd_X8_valueAt ⟨Nat.le_of_ble_eq_true rfl, Nat.le_of_ble_eq_true rfl⟩ rfl rfl (Nat.le_of_ble_eq_true rfl) dX8_greatestValue_34 ?_
          refine go_istore_n (pc := 37) X [1, 0, 2] (Ls' := [(0, .ref (ad 0)), (1, .int (i32 r35)), (2, .int (i32 t18.2))]) dX8_greatestValue_37 rfl (by decide) rfl ?_
          cases h29
          exact k30
  refine H17 FU ((-2), 0) r15 h16 ?_
  refine go_iload_n (pc := 44) X 0 dX8_greatestValue_44 rfl rfl ?_
  exact go_iretP (pc := 45) X h dX8_greatestValue_45
set_option maxRecDepth 100000 in
set_option maxHeartbeats 4000000 in
theorem ct_X8_withoutValues {l : Launch} {D : va_G} {cI cB : ClassId} {Z : (Nat → Nat) × (Nat → Nat)} {ad : Nat → Nat} {S : Mem} {r : Int} (h : f_X8_withoutValues S = some r) : Ctr l D cI cB Z ad shsM yX8_withoutValues cX8_withoutValues 3 (some .int) 1 21 [.ref (ad 0)] S (some (.int (i32 r))) S := by
  refine ctr_of (by decide +kernel) (Nat.le_of_ble_eq_true rfl) rfl ?_
  intro p e s m args below meth c A X
  unfold f_X8_withoutValues at h
  refine go_iconst (pc := 0) X dX8_withoutValues_0 ?_
  refine go_istore_n (pc := 1) X [1, 0] (Ls' := [(0, .ref (ad 0)), (1, .int (i32 0))]) dX8_withoutValues_1 rfl (by decide) rfl ?_
  refine go_iconst (pc := 2) X dX8_withoutValues_2 ?_
  refine go_istore_n (pc := 3) X [1, 2, 0] (Ls' := [(0, .ref (ad 0)), (1, .int (i32 0)), (2, .int (i32 0))]) dX8_withoutValues_3 rfl (by decide) rfl ?_
  obtain ⟨r10, h11, h⟩ := bind_some h
  have H12 : ∀ (n : Nat) (t13 : Int × Int) (z14 : Int), lp (f_X8_withoutValues_l4 S) n t13 = some z14 → Go p l e { frames := 1, cells := 0, slots := 0, locals := 21 } s m args below meth c 3 D cI cB ad shsM A (MQ below (cQ D cI cB ad shsM (some (.int (i32 r))) S A) args s 0 0 A) 29 [(1, .int (i32 z14))] [] S → Go p l e { frames := 1, cells := 0, slots := 0, locals := 21 } s m args below meth c 3 D cI cB ad shsM A (MQ below (cQ D cI cB ad shsM (some (.int (i32 r))) S A) args s 0 0 A) 4 [(0, .ref (ad 0)), (1, .int (i32 t13.1)), (2, .int (i32 t13.2))] [] S := by
    refine lp_go (fun t13 : Int × Int => Go p l e { frames := 1, cells := 0, slots := 0, locals := 21 } s m args below meth c 3 D cI cB ad shsM A (MQ below (cQ D cI cB ad shsM (some (.int (i32 r))) S A) args s 0 0 A) 4 [(0, .ref (ad 0)), (1, .int (i32 t13.1)), (2, .int (i32 t13.2))] [] S) (fun z14 : Int => Go p l e { frames := 1, cells := 0, slots := 0, locals := 21 } s m args below meth c 3 D cI cB ad shsM A (MQ below (cQ D cI cB ad shsM (some (.int (i32 r))) S A) args s 0 0 A) 29 [(1, .int (i32 z14))] [] S) ?_
    intro t13 x15 h hx16
    unfold f_X8_withoutValues_l4 at h
    refine go_iload_n (pc := 4) X 2 dX8_withoutValues_4 rfl rfl ?_
    refine go_aload_n (pc := 5) X 0 dX8_withoutValues_5 rfl rfl ?_
    obtain ⟨r18, h19, h⟩ := bind_some h
    refine go_callVi (pc := 6) X 0 [.int (i32 t13.2)] (ct_X8_many h19) sh8 rfl gg_X8_61 hd_X8_many ⟨Nat.le_of_ble_eq_true rfl, Nat.le_of_ble_eq_true rfl⟩ rfl rfl (Nat.le_of_ble_eq_true rfl) dX8_withoutValues_6 ?_
    refine go_icmp_ge (pc := 9) X 29 dX8_withoutValues_9 rfl (fun c20 => ?_) (fun c20 => ?_)
    · rw [if_neg c20] at h
      refine go_pick [1] (Ls' := [(1, .int (i32 t13.1))]) rfl ?_
      exact lp_back h hx16
    · rw [if_pos c20] at h
      refine go_aload_n (pc := 12) X 0 dX8_withoutValues_12 rfl rfl ?_
      refine go_iload_n (pc := 13) X 2 dX8_withoutValues_13 rfl rfl ?_
      obtain ⟨r21, h22, h⟩ := bind_some h
      refine go_callVi (pc := 14) X 1 [] (ct_X8_valuesOf h22) sh8 rfl gg_X8_73 hd_X8_valuesOf ⟨Nat.le_of_ble_eq_true rfl, Nat.le_of_ble_eq_true rfl⟩ rfl rfl (Nat.le_of_ble_eq_true rfl) dX8_withoutValues_14 ?_
      obtain ⟨j23, h24, h⟩ := bind_some h
      have k25 : Go p l e { frames := 1, cells := 0, slots := 0, locals := 21 } s m args below meth c 3 D cI cB ad shsM A (MQ below (cQ D cI cB ad shsM (some (.int (i32 r))) S A) args s 0 0 A) 23 [(0, .ref (ad 0)), (1, .int (i32 j23)), (2, .int (i32 t13.2))] [] S := by
        refine go_iinc (pc := 23) X [1, 2, 0] 2 (Ls' := [(0, .ref (ad 0)), (1, .int (i32 j23)), (2, .int (i32 (t13.2 + 1)))]) dX8_withoutValues_23 rfl (by decide) rfl ?_
        refine go_goto (pc := 26) X 4 dX8_withoutValues_26 rfl ?_
        exact lp_back h hx16
      refine go_if_ne (pc := 17) X 23 dX8_withoutValues_17 rfl (fun c26 => ?_) (fun c26 => ?_)
      · rw [if_neg c26] at h24
        cases h24
        exact k25
      · rw [if_pos c26] at h24
        refine go_iinc (pc := 20) X [1, 0, 2] 1 (Ls' := [(0, .ref (ad 0)), (1, .int (i32 (t13.1 + 1))), (2, .int (i32 t13.2))]) dX8_withoutValues_20 rfl (by decide) rfl ?_
        cases h24
        exact k25
  refine H12 FU (0, 0) r10 h11 ?_
  refine go_iload_n (pc := 29) X 0 dX8_withoutValues_29 rfl rfl ?_
  exact go_iretP (pc := 30) X h dX8_withoutValues_30
set_option maxRecDepth 100000 in
set_option maxHeartbeats 4000000 in
theorem ct_X8_count {l : Launch} {D : va_G} {cI cB : ClassId} {Z : (Nat → Nat) × (Nat → Nat)} {ad : Nat → Nat} {S : Mem} {a1 : Int} {r : Int} (h : f_X8_count S a1 = some r) : Ctr l D cI cB Z ad shsM yX8_count cX8_count 2 (some .int) 4 88 [.ref (ad 0), .int (i32 a1)] S (some (.int (i32 r))) S := by
  refine ctr_of (by decide +kernel) (Nat.le_of_ble_eq_true rfl) rfl ?_
  intro p e s m args below meth c A X
  unfold f_X8_count at h
  refine go_iload_n (pc := 0) X 1 dX8_count_0 rfl rfl ?_
  by_cases c1 : eqb a1 0 = true
  · rw [if_pos c1] at h
    refine go_tab (pc := 1) X 56 dX8_count_1 c1 ⟨by decide, by decide⟩ ⟨by decide, by decide⟩ rfl rfl ?_
    refine go_aload_n (pc := 56) X 0 dX8_count_56 rfl rfl ?_
    obtain ⟨r2, h3, h⟩ := bind_some h
    refine go_callVi (pc := 57) X 0 [] (ct_X8_many h3) sh8 rfl gg_X8_61 hd_X8_many ⟨Nat.le_of_ble_eq_true rfl, Nat.le_of_ble_eq_true rfl⟩ rfl rfl (Nat.le_of_ble_eq_true rfl) dX8_count_57 ?_
    exact go_iretP (pc := 60) X h dX8_count_60
  · rw [if_neg c1] at h
    by_cases c4 : eqb a1 1 = true
    · rw [if_pos c4] at h
      refine go_tab (pc := 1) X 61 dX8_count_1 c4 ⟨by decide, by decide⟩ ⟨by decide, by decide⟩ rfl rfl ?_
      refine go_aload_n (pc := 61) X 0 dX8_count_61 rfl rfl ?_
      refine go_getr (pc := 62) X (fk := 1) sh8 rfl inT_X8 (by decide) fL_X8_13 rfl dX8_count_62 ?_
      refine go_iconst (pc := 65) X dX8_count_65 ?_
      obtain ⟨g5, h⟩ := gd_some h
      refine go_iald (pc := 66) X shM1 (Nat.le_of_ble_eq_true rfl) rfl g5 dX8_count_66 ?_
      exact go_iretP (pc := 67) X h dX8_count_67
    · rw [if_neg c4] at h
      by_cases c6 : eqb a1 2 = true
      · rw [if_pos c6] at h
        refine go_tab (pc := 1) X 68 dX8_count_1 c6 ⟨by decide, by decide⟩ ⟨by decide, by decide⟩ rfl rfl ?_
        refine go_aload_n (pc := 68) X 0 dX8_count_68 rfl rfl ?_
        refine go_getr (pc := 69) X (fk := 1) sh8 rfl inT_X8 (by decide) fL_X8_13 rfl dX8_count_69 ?_
        refine go_iconst (pc := 72) X dX8_count_72 ?_
        obtain ⟨g7, h⟩ := gd_some h
        refine go_iald (pc := 73) X shM1 (Nat.le_of_ble_eq_true rfl) rfl g7 dX8_count_73 ?_
        exact go_iretP (pc := 74) X h dX8_count_74
      · rw [if_neg c6] at h
        by_cases c8 : eqb a1 3 = true
        · rw [if_pos c8] at h
          refine go_tab (pc := 1) X 75 dX8_count_1 c8 ⟨by decide, by decide⟩ ⟨by decide, by decide⟩ rfl rfl ?_
          refine go_aload_n (pc := 75) X 0 dX8_count_75 rfl rfl ?_
          obtain ⟨r9, h10, h⟩ := bind_some h
          refine go_callVi (pc := 76) X 0 [] (ct_X8_valuesInAll h10) sh8 rfl gg_X8_236 hd_X8_valuesInAll ⟨Nat.le_of_ble_eq_true rfl, Nat.le_of_ble_eq_true rfl⟩ rfl rfl (Nat.le_of_ble_eq_true rfl) dX8_count_76 ?_
          exact go_iretP (pc := 79) X h dX8_count_79
        · rw [if_neg c8] at h
          by_cases c11 : eqb a1 4 = true
          · rw [if_pos c11] at h
            refine go_tab (pc := 1) X 80 dX8_count_1 c11 ⟨by decide, by decide⟩ ⟨by decide, by decide⟩ rfl rfl ?_
            refine go_aload_n (pc := 80) X 0 dX8_count_80 rfl rfl ?_
            refine go_get (pc := 81) X (fk := 5) (fi := 5) rfl sh8 rfl inT_X8 (by decide) fL_X8_58 rfl dX8_count_81 ?_
            exact go_iretP (pc := 84) X h dX8_count_84
          · rw [if_neg c11] at h
            by_cases c12 : eqb a1 5 = true
            · rw [if_pos c12] at h
              refine go_tab (pc := 1) X 85 dX8_count_1 c12 ⟨by decide, by decide⟩ ⟨by decide, by decide⟩ rfl rfl ?_
              refine go_aload_n (pc := 85) X 0 dX8_count_85 rfl rfl ?_
              refine go_get (pc := 86) X (fk := 17) (fi := 17) rfl sh8 rfl inT_X8 (by decide) fL_X8_239 rfl dX8_count_86 ?_
              exact go_iretP (pc := 89) X h dX8_count_89
            · rw [if_neg c12] at h
              by_cases c13 : eqb a1 6 = true
              · rw [if_pos c13] at h
                refine go_tab (pc := 1) X 90 dX8_count_1 c13 ⟨by decide, by decide⟩ ⟨by decide, by decide⟩ rfl rfl ?_
                refine go_aload_n (pc := 90) X 0 dX8_count_90 rfl rfl ?_
                obtain ⟨r14, h15, h⟩ := bind_some h
                refine go_callVi (pc := 91) X 0 [] (ct_X8_greatestValue h15) sh8 rfl gg_X8_242 hd_X8_greatestValue ⟨Nat.le_of_ble_eq_true rfl, Nat.le_of_ble_eq_true rfl⟩ rfl rfl (Nat.le_of_ble_eq_true rfl) dX8_count_91 ?_
                exact go_iretP (pc := 94) X h dX8_count_94
              · rw [if_neg c13] at h
                by_cases c16 : eqb a1 7 = true
                · rw [if_pos c16] at h
                  refine go_tab (pc := 1) X 95 dX8_count_1 c16 ⟨by decide, by decide⟩ ⟨by decide, by decide⟩ rfl rfl ?_
                  refine go_aload_n (pc := 95) X 0 dX8_count_95 rfl rfl ?_
                  refine go_getr (pc := 96) X (fk := 1) sh8 rfl inT_X8 (by decide) fL_X8_13 rfl dX8_count_96 ?_
                  refine go_bipush (pc := 99) X dX8_count_99 (by decide) (by decide) ?_
                  obtain ⟨g17, h⟩ := gd_some h
                  refine go_iald (pc := 101) X shM1 (Nat.le_of_ble_eq_true rfl) rfl g17 dX8_count_101 ?_
                  exact go_iretP (pc := 102) X h dX8_count_102
                · rw [if_neg c16] at h
                  by_cases c18 : eqb a1 8 = true
                  · rw [if_pos c18] at h
                    refine go_tab (pc := 1) X 103 dX8_count_1 c18 ⟨by decide, by decide⟩ ⟨by decide, by decide⟩ rfl rfl ?_
                    refine go_aload_n (pc := 103) X 0 dX8_count_103 rfl rfl ?_
                    obtain ⟨r19, h20, h⟩ := bind_some h
                    refine go_callVi (pc := 104) X 0 [] (ct_X8_withoutValues h20) sh8 rfl gg_X8_245 hd_X8_withoutValues ⟨Nat.le_of_ble_eq_true rfl, Nat.le_of_ble_eq_true rfl⟩ rfl rfl (Nat.le_of_ble_eq_true rfl) dX8_count_104 ?_
                    exact go_iretP (pc := 107) X h dX8_count_107
                  · rw [if_neg c18] at h
                    by_cases c21 : eqb a1 9 = true
                    · rw [if_pos c21] at h
                      refine go_tab (pc := 1) X 108 dX8_count_1 c21 ⟨by decide, by decide⟩ ⟨by decide, by decide⟩ rfl rfl ?_
                      refine go_aload_n (pc := 108) X 0 dX8_count_108 rfl rfl ?_
                      refine go_iconst (pc := 109) X dX8_count_109 ?_
                      obtain ⟨r22, h23, h⟩ := bind_some h
                      refine go_callVi (pc := 110) X 1 [] (ct_X8_wantedAt h23) sh8 rfl gg_X8_132 hd_X8_wantedAt ⟨Nat.le_of_ble_eq_true rfl, Nat.le_of_ble_eq_true rfl⟩ rfl rfl (Nat.le_of_ble_eq_true rfl) dX8_count_110 ?_
                      exact go_iretP (pc := 113) X h dX8_count_113
                    · rw [if_neg c21] at h
                      have nc1 : ¬ (0 : Int) = (i32 a1).toInt := fun z => c1 ((eqb_toInt (by decide) (by decide)).mpr z.symm)
                      have nc4 : ¬ (1 : Int) = (i32 a1).toInt := fun z => c4 ((eqb_toInt (by decide) (by decide)).mpr z.symm)
                      have nc6 : ¬ (2 : Int) = (i32 a1).toInt := fun z => c6 ((eqb_toInt (by decide) (by decide)).mpr z.symm)
                      have nc8 : ¬ (3 : Int) = (i32 a1).toInt := fun z => c8 ((eqb_toInt (by decide) (by decide)).mpr z.symm)
                      have nc11 : ¬ (4 : Int) = (i32 a1).toInt := fun z => c11 ((eqb_toInt (by decide) (by decide)).mpr z.symm)
                      have nc12 : ¬ (5 : Int) = (i32 a1).toInt := fun z => c12 ((eqb_toInt (by decide) (by decide)).mpr z.symm)
                      have nc13 : ¬ (6 : Int) = (i32 a1).toInt := fun z => c13 ((eqb_toInt (by decide) (by decide)).mpr z.symm)
                      have nc16 : ¬ (7 : Int) = (i32 a1).toInt := fun z => c16 ((eqb_toInt (by decide) (by decide)).mpr z.symm)
                      have nc18 : ¬ (8 : Int) = (i32 a1).toInt := fun z => c18 ((eqb_toInt (by decide) (by decide)).mpr z.symm)
                      have nc21 : ¬ (9 : Int) = (i32 a1).toInt := fun z => c21 ((eqb_toInt (by decide) (by decide)).mpr z.symm)
                      refine go_tabx (pc := 1) X 114 dX8_count_1 (by omega) rfl ?_
                      refine go_iconst (pc := 114) X dX8_count_114 ?_
                      exact go_iretP (pc := 115) X h dX8_count_115
set_option maxRecDepth 100000 in
set_option maxHeartbeats 4000000 in
theorem ct_X8_feed {l : Launch} {D : va_G} {cI cB : ClassId} {Z : (Nat → Nat) × (Nat → Nat)} {ad : Nat → Nat} {S : Mem} {a1 : Int} {a2 : Int} {a3 : Int} {a4 : Int} {a5 : Int} {r : Int} {S' : Mem} (h : f_X8_feed S a1 a2 a3 a4 a5 = some (r, S')) : Ctr l D cI cB Z ad shsM yX8_feed cX8_feed 8 (some .int) 0 0 [.ref (ad 0), .int (i32 a1), .int (i32 a2), .int (i32 a3), .int (i32 a4), .int (i32 a5)] S (some (.int (i32 r))) S' := by
  refine ctr_of (by decide +kernel) (Nat.le_of_ble_eq_true rfl) rfl ?_
  intro p e s m args below meth c A X
  unfold f_X8_feed at h
  refine go_aload_n (pc := 0) X 0 dX8_feed_0 rfl rfl ?_
  refine go_get (pc := 1) X (fk := 17) (fi := 17) rfl sh8 rfl inT_X8 (by decide) fL_X8_239 rfl dX8_feed_1 ?_
  refine go_bipush (pc := 4) X dX8_feed_4 (by decide) (by decide) ?_
  refine go_iadd (pc := 6) X dX8_feed_6 ?_
  refine go_sipush (pc := 7) X dX8_feed_7 (by decide) (by decide) ?_
  refine go_icmp_le (pc := 10) X 15 dX8_feed_10 rfl (fun c1 => ?_) (fun c1 => ?_)
  · rw [if_neg c1] at h
    refine go_iconst (pc := 15) X dX8_feed_15 ?_
    refine go_istore (pc := 16) X [1, 2, 3, 4, 5, 6, 0] (Ls' := [(0, .ref (ad 0)), (1, .int (i32 a1)), (2, .int (i32 a2)), (3, .int (i32 a3)), (4, .int (i32 a4)), (5, .int (i32 a5)), (6, .int (i32 0))]) dX8_feed_16 (by decide) rfl ?_
    obtain ⟨r15, h16, h⟩ := bind_some h
    have H17 : ∀ (n : Nat) (t18 : Int × Mem) (z19 : Mem), lp (f_X8_feed_l18 a1 a2 a3 a4 a5) n t18 = some z19 → Go p l e { frames := 0, cells := 0, slots := 0, locals := 0 } s m args below meth c 8 D cI cB ad shsM A (MQ below (cQ D cI cB ad shsM (some (.int (i32 r))) S' A) args s 0 0 A) 115 [(0, .ref (ad 0))] [] z19 → Go p l e { frames := 0, cells := 0, slots := 0, locals := 0 } s m args below meth c 8 D cI cB ad shsM A (MQ below (cQ D cI cB ad shsM (some (.int (i32 r))) S' A) args s 0 0 A) 18 [(0, .ref (ad 0)), (1, .int (i32 a1)), (2, .int (i32 a2)), (3, .int (i32 a3)), (4, .int (i32 a4)), (5, .int (i32 a5)), (6, .int (i32 t18.1))] [] t18.2 := by
      refine lp_go (fun t18 : Int × Mem => Go p l e { frames := 0, cells := 0, slots := 0, locals := 0 } s m args below meth c 8 D cI cB ad shsM A (MQ below (cQ D cI cB ad shsM (some (.int (i32 r))) S' A) args s 0 0 A) 18 [(0, .ref (ad 0)), (1, .int (i32 a1)), (2, .int (i32 a2)), (3, .int (i32 a3)), (4, .int (i32 a4)), (5, .int (i32 a5)), (6, .int (i32 t18.1))] [] t18.2) (fun z19 : Mem => Go p l e { frames := 0, cells := 0, slots := 0, locals := 0 } s m args below meth c 8 D cI cB ad shsM A (MQ below (cQ D cI cB ad shsM (some (.int (i32 r))) S' A) args s 0 0 A) 115 [(0, .ref (ad 0))] [] z19) ?_
      intro t18 x20 h hx21
      unfold f_X8_feed_l18 at h
      refine go_iload (pc := 18) X 6 dX8_feed_18 rfl ?_
      refine go_bipush (pc := 20) X dX8_feed_20 (by decide) (by decide) ?_
      refine go_icmp_ge (pc := 22) X 115 dX8_feed_22 rfl (fun c23 => ?_) (fun c23 => ?_)
      · rw [if_neg c23] at h
        refine go_pick [0] (Ls' := [(0, .ref (ad 0))]) rfl ?_
        exact lp_back h hx21
      · rw [if_pos c23] at h
        refine go_iload (pc := 25) X 6 dX8_feed_25 rfl ?_
        refine go_iconst (pc := 27) X dX8_feed_27 ?_
        obtain ⟨j24, h25, h⟩ := bind_some h
        have k26 : Go p l e { frames := 0, cells := 0, slots := 0, locals := 0 } s m args below meth c 8 D cI cB ad shsM A (MQ below (cQ D cI cB ad shsM (some (.int (i32 r))) S' A) args s 0 0 A) 71 [(0, .ref (ad 0)), (1, .int (i32 a1)), (2, .int (i32 a2)), (3, .int (i32 a3)), (4, .int (i32 a4)), (5, .int (i32 a5)), (6, .int (i32 t18.1))] [.int (i32 j24)] t18.2 := by
          refine go_istore (pc := 71) X [1, 2, 3, 4, 5, 6, 7, 0] (Ls' := [(0, .ref (ad 0)), (1, .int (i32 a1)), (2, .int (i32 a2)), (3, .int (i32 a3)), (4, .int (i32 a4)), (5, .int (i32 a5)), (6, .int (i32 t18.1)), (7, .int (i32 j24))]) dX8_feed_71 (by decide) rfl ?_
          refine go_aload_n (pc := 73) X 0 dX8_feed_73 rfl rfl ?_
          refine go_getr (pc := 74) X (fk := 16) sh8 rfl inT_X8 (by decide) fL_X8_47 rfl dX8_feed_74 ?_
          refine go_aload_n (pc := 77) X 0 dX8_feed_77 rfl rfl ?_
          refine go_get (pc := 78) X (fk := 17) (fi := 17) rfl sh8 rfl inT_X8 (by decide) fL_X8_239 rfl dX8_feed_78 ?_
          refine go_iload (pc := 81) X 7 dX8_feed_81 rfl ?_
          refine go_bipush (pc := 83) X dX8_feed_83 (by decide) (by decide) ?_
          refine go_bipush (pc := 85) X dX8_feed_85 (by decide) (by decide) ?_
          refine go_iload (pc := 87) X 6 dX8_feed_87 rfl ?_
          refine go_iconst (pc := 89) X dX8_feed_89 ?_
          refine go_irem (pc := 90) X dX8_feed_90 rfl ?_
          refine go_imul (pc := 91) X dX8_feed_91 ?_
          refine go_isub (pc := 92) X dX8_feed_92 ?_
          refine go_ishr (pc := 93) X dX8_feed_93 ?_
          refine go_sipush (pc := 94) X dX8_feed_94 (by decide) (by decide) ?_
          refine go_iand (pc := 97) X dX8_feed_97 ?_
          obtain ⟨g27, h⟩ := gd_some h
          obtain ⟨S28, e29, h⟩ := wrk_some h
          refine go_iastE (pc := 98) X e29 shM12 (Nat.le_of_ble_eq_true rfl) rfl g27 dX8_feed_98 ?_
          refine go_aload_n (pc := 99) X 0 dX8_feed_99 rfl rfl ?_
          refine go_dup (pc := 100) X dX8_feed_100 rfl ?_
          refine go_get (pc := 101) X (fk := 17) (fi := 17) rfl sh8 rfl inT_X8 (by decide) fL_X8_239 rfl dX8_feed_101 ?_
          refine go_iconst (pc := 104) X dX8_feed_104 ?_
          refine go_iadd (pc := 105) X dX8_feed_105 ?_
          obtain ⟨S30, e31, h⟩ := wrk_some h
          refine go_putE (pc := 106) X (fk := 17) (fi := 17) rfl e31 sh8 rfl inT_X8 tyX8_ok nmX8 (by decide) fL_X8_239 rfl rfl rfl rfl rfl dX8_feed_106 ?_
          refine go_iinc (pc := 109) X [1, 2, 3, 4, 5, 6, 0, 7] 6 (Ls' := [(0, .ref (ad 0)), (1, .int (i32 a1)), (2, .int (i32 a2)), (3, .int (i32 a3)), (4, .int (i32 a4)), (5, .int (i32 a5)), (6, .int (i32 (t18.1 + 1))), (7, .int (i32 j24))]) dX8_feed_109 rfl (by decide) rfl ?_
          refine go_goto (pc := 112) X 18 dX8_feed_112 rfl ?_
          refine go_pick [0, 1, 2, 3, 4, 5, 6] (Ls' := [(0, .ref (ad 0)), (1, .int (i32 a1)), (2, .int (i32 a2)), (3, .int (i32 a3)), (4, .int (i32 a4)), (5, .int (i32 a5)), (6, .int (i32 (t18.1 + 1)))]) rfl ?_
          exact lp_back h hx21
        refine go_icmp_ge (pc := 28) X 35 dX8_feed_28 rfl (fun c32 => ?_) (fun c32 => ?_)
        · rw [if_neg c32] at h25
          refine go_iload (pc := 35) X 6 dX8_feed_35 rfl ?_
          refine go_bipush (pc := 37) X dX8_feed_37 (by decide) (by decide) ?_
          refine go_icmp_ge (pc := 39) X 46 dX8_feed_39 rfl (fun c33 => ?_) (fun c33 => ?_)
          · rw [if_neg c33] at h25
            refine go_iload (pc := 46) X 6 dX8_feed_46 rfl ?_
            refine go_bipush (pc := 48) X dX8_feed_48 (by decide) (by decide) ?_
            refine go_icmp_ge (pc := 50) X 57 dX8_feed_50 rfl (fun c34 => ?_) (fun c34 => ?_)
            · rw [if_neg c34] at h25
              refine go_iload (pc := 57) X 6 dX8_feed_57 rfl ?_
              refine go_bipush (pc := 59) X dX8_feed_59 (by decide) (by decide) ?_
              refine go_icmp_ge (pc := 61) X 69 dX8_feed_61 rfl (fun c35 => ?_) (fun c35 => ?_)
              · rw [if_neg c35] at h25
                refine go_iload (pc := 69) X 5 dX8_feed_69 rfl ?_
                cases h25
                exact k26
              · rw [if_pos c35] at h25
                refine go_iload (pc := 64) X 4 dX8_feed_64 rfl ?_
                refine go_goto (pc := 66) X 71 dX8_feed_66 rfl ?_
                cases h25
                exact k26
            · rw [if_pos c34] at h25
              refine go_iload_n (pc := 53) X 3 dX8_feed_53 rfl rfl ?_
              refine go_goto (pc := 54) X 71 dX8_feed_54 rfl ?_
              cases h25
              exact k26
          · rw [if_pos c33] at h25
            refine go_iload_n (pc := 42) X 2 dX8_feed_42 rfl rfl ?_
            refine go_goto (pc := 43) X 71 dX8_feed_43 rfl ?_
            cases h25
            exact k26
        · rw [if_pos c32] at h25
          refine go_iload_n (pc := 31) X 1 dX8_feed_31 rfl rfl ?_
          refine go_goto (pc := 32) X 71 dX8_feed_32 rfl ?_
          cases h25
          exact k26
    refine H17 FU (0, S) r15 h16 ?_
    refine go_aload_n (pc := 115) X 0 dX8_feed_115 rfl rfl ?_
    refine go_get (pc := 116) X (fk := 17) (fi := 17) rfl sh8 rfl inT_X8 (by decide) fL_X8_239 rfl dX8_feed_116 ?_
    exact go_iret (pc := 119) X h dX8_feed_119
  · rw [if_pos c1] at h
    refine go_iconst (pc := 13) X dX8_feed_13 ?_
    exact go_iret (pc := 14) X h dX8_feed_14
set_option maxRecDepth 100000 in
set_option maxHeartbeats 4000000 in
theorem ct_X8_back {l : Launch} {D : va_G} {cI cB : ClassId} {Z : (Nat → Nat) × (Nat → Nat)} {ad : Nat → Nat} {S : Mem} {a1 : Int} {r : Int} {S' : Mem} (h : f_X8_back S a1 = some (r, S')) : Ctr l D cI cB Z ad shsM yX8_back cX8_back 2 (some .int) 1 22 [.ref (ad 0), .int (i32 a1)] S (some (.int (i32 r))) S' := by
  refine ctr_of (by decide +kernel) (Nat.le_of_ble_eq_true rfl) rfl ?_
  intro p e s m args below meth c A X
  unfold f_X8_back at h
  refine go_iload_n (pc := 0) X 1 dX8_back_0 rfl rfl ?_
  refine go_iconst (pc := 1) X dX8_back_1 ?_
  refine go_aload_n (pc := 2) X 0 dX8_back_2 rfl rfl ?_
  refine go_get (pc := 3) X (fk := 17) (fi := 17) rfl sh8 rfl inT_X8 (by decide) fL_X8_239 rfl dX8_back_3 ?_
  obtain ⟨r1, h2, h⟩ := bind_some h
  refine go_callSi (pc := 6) X 3 [] (ct_X8_in h2) gg_X8_65 hd_X8_in ⟨Nat.le_of_ble_eq_true rfl, Nat.le_of_ble_eq_true rfl⟩ rfl rfl (Nat.le_of_ble_eq_true rfl) dX8_back_6 ?_
  refine go_if_ne (pc := 9) X 14 dX8_back_9 rfl (fun c3 => ?_) (fun c3 => ?_)
  · rw [if_neg c3] at h
    refine go_aload_n (pc := 14) X 0 dX8_back_14 rfl rfl ?_
    refine go_dup (pc := 15) X dX8_back_15 rfl ?_
    refine go_get (pc := 16) X (fk := 17) (fi := 17) rfl sh8 rfl inT_X8 (by decide) fL_X8_239 rfl dX8_back_16 ?_
    refine go_iload_n (pc := 19) X 1 dX8_back_19 rfl rfl ?_
    refine go_isub (pc := 20) X dX8_back_20 ?_
    obtain ⟨S4, e5, h⟩ := wrk_some h
    refine go_putE (pc := 21) X (fk := 17) (fi := 17) rfl e5 sh8 rfl inT_X8 tyX8_ok nmX8 (by decide) fL_X8_239 rfl rfl rfl rfl rfl dX8_back_21 ?_
    refine go_aload_n (pc := 24) X 0 dX8_back_24 rfl rfl ?_
    refine go_get (pc := 25) X (fk := 17) (fi := 17) rfl sh8 rfl inT_X8 (by decide) fL_X8_239 rfl dX8_back_25 ?_
    exact go_iret (pc := 28) X h dX8_back_28
  · rw [if_pos c3] at h
    refine go_iconst (pc := 12) X dX8_back_12 ?_
    exact go_iret (pc := 13) X h dX8_back_13
set_option maxRecDepth 100000 in
set_option maxHeartbeats 4000000 in
theorem ct_X8_here {l : Launch} {D : va_G} {cI cB : ClassId} {Z : (Nat → Nat) × (Nat → Nat)} {ad : Nat → Nat} {S : Mem} {r : Int} (h : f_X8_here S = some r) : Ctr l D cI cB Z ad shsM yX8_here cX8_here 1 (some .int) 0 0 [.ref (ad 0)] S (some (.int (i32 r))) S := by
  refine ctr_of (by decide +kernel) (Nat.le_of_ble_eq_true rfl) rfl ?_
  intro p e s m args below meth c A X
  unfold f_X8_here at h
  refine go_aload_n (pc := 0) X 0 dX8_here_0 rfl rfl ?_
  refine go_get (pc := 1) X (fk := 19) (fi := 19) rfl sh8 rfl inT_X8 (by decide) fL_X8_248 rfl dX8_here_1 ?_
  refine go_aload_n (pc := 4) X 0 dX8_here_4 rfl rfl ?_
  refine go_get (pc := 5) X (fk := 17) (fi := 17) rfl sh8 rfl inT_X8 (by decide) fL_X8_239 rfl dX8_here_5 ?_
  refine go_icmp_ge (pc := 8) X 23 dX8_here_8 rfl (fun c1 => ?_) (fun c1 => ?_)
  · rw [if_neg c1] at h
    refine go_iconst (pc := 23) X dX8_here_23 ?_
    exact go_iretP (pc := 24) X h dX8_here_24
  · rw [if_pos c1] at h
    refine go_aload_n (pc := 11) X 0 dX8_here_11 rfl rfl ?_
    refine go_getr (pc := 12) X (fk := 16) sh8 rfl inT_X8 (by decide) fL_X8_47 rfl dX8_here_12 ?_
    refine go_aload_n (pc := 15) X 0 dX8_here_15 rfl rfl ?_
    refine go_get (pc := 16) X (fk := 19) (fi := 19) rfl sh8 rfl inT_X8 (by decide) fL_X8_248 rfl dX8_here_16 ?_
    obtain ⟨g2, h⟩ := gd_some h
    refine go_iald (pc := 19) X shM12 (Nat.le_of_ble_eq_true rfl) rfl g2 dX8_here_19 ?_
    refine go_goto (pc := 20) X 24 dX8_here_20 rfl ?_
    exact go_iretP (pc := 24) X h dX8_here_24
set_option maxRecDepth 100000 in
set_option maxHeartbeats 4000000 in
theorem ct_X8_goesOn {l : Launch} {D : va_G} {cI cB : ClassId} {Z : (Nat → Nat) × (Nat → Nat)} {ad : Nat → Nat} {S : Mem} {S' : Mem} (h : f_X8_goesOn S = some S') : Ctr l D cI cB Z ad shsM yX8_goesOn cX8_goesOn 5 none 1 22 [.ref (ad 0)] S (none) S' := by
  refine ctr_of (by decide +kernel) (Nat.le_of_ble_eq_true rfl) rfl ?_
  intro p e s m args below meth c A X
  unfold f_X8_goesOn at h
  refine go_aload_n (pc := 0) X 0 dX8_goesOn_0 rfl rfl ?_
  refine go_get (pc := 1) X (fk := 20) (fi := 20) rfl sh8 rfl inT_X8 (by decide) fL_X8_251 rfl dX8_goesOn_1 ?_
  refine go_istore_n (pc := 4) X [1, 0] (Ls' := [(0, .ref (ad 0)), (1, .int (i32 (S 0 20)))]) dX8_goesOn_4 rfl (by decide) rfl ?_
  refine go_aload_n (pc := 5) X 0 dX8_goesOn_5 rfl rfl ?_
  refine go_get (pc := 6) X (fk := 19) (fi := 19) rfl sh8 rfl inT_X8 (by decide) fL_X8_248 rfl dX8_goesOn_6 ?_
  refine go_istore_n (pc := 9) X [1, 2, 0] (Ls' := [(0, .ref (ad 0)), (1, .int (i32 (S 0 20))), (2, .int (i32 (S 0 19)))]) dX8_goesOn_9 rfl (by decide) rfl ?_
  obtain ⟨r11, h12, h⟩ := bind_some h
  have H13 : ∀ (n : Nat) (t14 : Mem) (z15 : Mem), lp (f_X8_goesOn_l10 (S 0 20) (S 0 19)) n t14 = some z15 → Go p l e { frames := 1, cells := 0, slots := 0, locals := 22 } s m args below meth c 5 D cI cB ad shsM A (MQ below (cQ D cI cB ad shsM (none) S' A) args s 0 0 A) 41 [(0, .ref (ad 0)), (1, .int (i32 (S 0 20))), (2, .int (i32 (S 0 19)))] [] z15 → Go p l e { frames := 1, cells := 0, slots := 0, locals := 22 } s m args below meth c 5 D cI cB ad shsM A (MQ below (cQ D cI cB ad shsM (none) S' A) args s 0 0 A) 10 [(0, .ref (ad 0)), (1, .int (i32 (S 0 20))), (2, .int (i32 (S 0 19)))] [] t14 := by
    refine lp_go (fun t14 : Mem => Go p l e { frames := 1, cells := 0, slots := 0, locals := 22 } s m args below meth c 5 D cI cB ad shsM A (MQ below (cQ D cI cB ad shsM (none) S' A) args s 0 0 A) 10 [(0, .ref (ad 0)), (1, .int (i32 (S 0 20))), (2, .int (i32 (S 0 19)))] [] t14) (fun z15 : Mem => Go p l e { frames := 1, cells := 0, slots := 0, locals := 22 } s m args below meth c 5 D cI cB ad shsM A (MQ below (cQ D cI cB ad shsM (none) S' A) args s 0 0 A) 41 [(0, .ref (ad 0)), (1, .int (i32 (S 0 20))), (2, .int (i32 (S 0 19)))] [] z15) ?_
    intro t14 x16 h hx17
    unfold f_X8_goesOn_l10 at h
    refine go_aload_n (pc := 10) X 0 dX8_goesOn_10 rfl rfl ?_
    obtain ⟨r19, h20, h⟩ := bind_some h
    refine go_callVi (pc := 11) X 0 [] (ct_X8_here h20) sh8 rfl gg_X8_254 hd_X8_here ⟨Nat.le_of_ble_eq_true rfl, Nat.le_of_ble_eq_true rfl⟩ rfl rfl (Nat.le_of_ble_eq_true rfl) dX8_goesOn_11 ?_
    refine go_bipush (pc := 14) X dX8_goesOn_14 (by decide) (by decide) ?_
    refine go_icmp_eq (pc := 16) X 28 dX8_goesOn_16 rfl (fun c21 => ?_) (fun c21 => ?_)
    · rw [if_pos c21] at h
      refine go_aload_n (pc := 28) X 0 dX8_goesOn_28 rfl rfl ?_
      refine go_dup (pc := 29) X dX8_goesOn_29 rfl ?_
      refine go_get (pc := 30) X (fk := 19) (fi := 19) rfl sh8 rfl inT_X8 (by decide) fL_X8_248 rfl dX8_goesOn_30 ?_
      refine go_iconst (pc := 33) X dX8_goesOn_33 ?_
      refine go_iadd (pc := 34) X dX8_goesOn_34 ?_
      obtain ⟨S22, e23, h⟩ := wrk_some h
      refine go_putE (pc := 35) X (fk := 19) (fi := 19) rfl e23 sh8 rfl inT_X8 tyX8_ok nmX8 (by decide) fL_X8_248 rfl rfl rfl rfl rfl dX8_goesOn_35 ?_
      refine go_goto (pc := 38) X 10 dX8_goesOn_38 rfl ?_
      exact lp_back h hx17
    · rw [if_neg c21] at h
      refine go_aload_n (pc := 19) X 0 dX8_goesOn_19 rfl rfl ?_
      obtain ⟨r24, h25, h⟩ := bind_some h
      refine go_callVi (pc := 20) X 0 [] (ct_X8_here h25) sh8 rfl gg_X8_254 hd_X8_here ⟨Nat.le_of_ble_eq_true rfl, Nat.le_of_ble_eq_true rfl⟩ rfl rfl (Nat.le_of_ble_eq_true rfl) dX8_goesOn_20 ?_
      refine go_bipush (pc := 23) X dX8_goesOn_23 (by decide) (by decide) ?_
      refine go_icmp_ne (pc := 25) X 41 dX8_goesOn_25 rfl (fun c26 => ?_) (fun c26 => ?_)
      · rw [if_neg c26] at h
        exact lp_back h hx17
      · rw [if_pos c26] at h
        refine go_aload_n (pc := 28) X 0 dX8_goesOn_28 rfl rfl ?_
        refine go_dup (pc := 29) X dX8_goesOn_29 rfl ?_
        refine go_get (pc := 30) X (fk := 19) (fi := 19) rfl sh8 rfl inT_X8 (by decide) fL_X8_248 rfl dX8_goesOn_30 ?_
        refine go_iconst (pc := 33) X dX8_goesOn_33 ?_
        refine go_iadd (pc := 34) X dX8_goesOn_34 ?_
        obtain ⟨S27, e28, h⟩ := wrk_some h
        refine go_putE (pc := 35) X (fk := 19) (fi := 19) rfl e28 sh8 rfl inT_X8 tyX8_ok nmX8 (by decide) fL_X8_248 rfl rfl rfl rfl rfl dX8_goesOn_35 ?_
        refine go_goto (pc := 38) X 10 dX8_goesOn_38 rfl ?_
        exact lp_back h hx17
  refine H13 FU S r11 h12 ?_
  refine go_aload_n (pc := 41) X 0 dX8_goesOn_41 rfl rfl ?_
  refine go_aload_n (pc := 42) X 0 dX8_goesOn_42 rfl rfl ?_
  refine go_get (pc := 43) X (fk := 19) (fi := 19) rfl sh8 rfl inT_X8 (by decide) fL_X8_248 rfl dX8_goesOn_43 ?_
  obtain ⟨S29, e30, h⟩ := wrk_some h
  refine go_putE (pc := 46) X (fk := 21) (fi := 21) rfl e30 sh8 rfl inT_X8 tyX8_ok nmX8 (by decide) fL_X8_257 rfl rfl rfl rfl rfl dX8_goesOn_46 ?_
  refine go_aload_n (pc := 49) X 0 dX8_goesOn_49 rfl rfl ?_
  refine go_get (pc := 50) X (fk := 21) (fi := 21) rfl sh8 rfl inT_X8 (by decide) fL_X8_257 rfl dX8_goesOn_50 ?_
  refine go_iload_n (pc := 53) X 2 dX8_goesOn_53 rfl rfl ?_
  obtain ⟨j31, h32, h⟩ := bind_some h
  have k33 : Go p l e { frames := 1, cells := 0, slots := 0, locals := 22 } s m args below meth c 5 D cI cB ad shsM A (MQ below (cQ D cI cB ad shsM (none) S' A) args s 0 0 A) 72 [(0, .ref (ad 0))] [.int (i32 j31)] S29 := by
    refine go_istore_n (pc := 72) X [1, 0] (Ls' := [(0, .ref (ad 0)), (3, .int (i32 j31))]) dX8_goesOn_72 rfl (by decide) rfl ?_
    refine go_aload_n (pc := 73) X 0 dX8_goesOn_73 rfl rfl ?_
    obtain ⟨r34, h35, h⟩ := bind_some h
    refine go_callVi (pc := 74) X 0 [] (ct_X8_here h35) sh8 rfl gg_X8_254 hd_X8_here ⟨Nat.le_of_ble_eq_true rfl, Nat.le_of_ble_eq_true rfl⟩ rfl rfl (Nat.le_of_ble_eq_true rfl) dX8_goesOn_74 ?_
    refine go_istore (pc := 77) X [1, 2, 0] (Ls' := [(0, .ref (ad 0)), (3, .int (i32 j31)), (4, .int (i32 r34))]) dX8_goesOn_77 (by decide) rfl ?_
    refine go_iload (pc := 79) X 2 dX8_goesOn_79 rfl ?_
    refine go_iconst (pc := 81) X dX8_goesOn_81 ?_
    refine go_icmp_ne (pc := 82) X 93 dX8_goesOn_82 rfl (fun c36 => ?_) (fun c36 => ?_)
    · rw [if_neg c36] at h
      refine go_iload (pc := 93) X 2 dX8_goesOn_93 rfl ?_
      refine go_bipush (pc := 95) X dX8_goesOn_95 (by decide) (by decide) ?_
      refine go_bipush (pc := 97) X dX8_goesOn_97 (by decide) (by decide) ?_
      obtain ⟨r37, h38, h⟩ := bind_some h
      refine go_callSi (pc := 99) X 3 [] (ct_X8_in h38) gg_X8_65 hd_X8_in ⟨Nat.le_of_ble_eq_true rfl, Nat.le_of_ble_eq_true rfl⟩ rfl rfl (Nat.le_of_ble_eq_true rfl) dX8_goesOn_99 ?_
      refine go_if_eq (pc := 102) X 148 dX8_goesOn_102 rfl (fun c39 => ?_) (fun c39 => ?_)
      · rw [if_pos c39] at h
        refine go_iload (pc := 148) X 2 dX8_goesOn_148 rfl ?_
        refine go_bipush (pc := 150) X dX8_goesOn_150 (by decide) (by decide) ?_
        refine go_bipush (pc := 152) X dX8_goesOn_152 (by decide) (by decide) ?_
        obtain ⟨r40, h41, h⟩ := bind_some h
        refine go_callSi (pc := 154) X 3 [] (ct_X8_in h41) gg_X8_65 hd_X8_in ⟨Nat.le_of_ble_eq_true rfl, Nat.le_of_ble_eq_true rfl⟩ rfl rfl (Nat.le_of_ble_eq_true rfl) dX8_goesOn_154 ?_
        refine go_if_eq (pc := 157) X 253 dX8_goesOn_157 rfl (fun c42 => ?_) (fun c42 => ?_)
        · rw [if_pos c42] at h
          refine go_aload_n (pc := 253) X 0 dX8_goesOn_253 rfl rfl ?_
          refine go_dup (pc := 254) X dX8_goesOn_254 rfl ?_
          refine go_get (pc := 255) X (fk := 19) (fi := 19) rfl sh8 rfl inT_X8 (by decide) fL_X8_248 rfl dX8_goesOn_255 ?_
          refine go_iconst (pc := 258) X dX8_goesOn_258 ?_
          refine go_iadd (pc := 259) X dX8_goesOn_259 ?_
          obtain ⟨S43, e44, h⟩ := wrk_some h
          refine go_putE (pc := 260) X (fk := 19) (fi := 19) rfl e44 sh8 rfl inT_X8 tyX8_ok nmX8 (by decide) fL_X8_248 rfl rfl rfl rfl rfl dX8_goesOn_260 ?_
          refine go_aload_n (pc := 263) X 0 dX8_goesOn_263 rfl rfl ?_
          refine go_iload (pc := 264) X 2 dX8_goesOn_264 rfl ?_
          refine go_bipush (pc := 266) X dX8_goesOn_266 (by decide) (by decide) ?_
          obtain ⟨j45, h46, h⟩ := bind_some h
          have k47 : Go p l e { frames := 1, cells := 0, slots := 0, locals := 22 } s m args below meth c 5 D cI cB ad shsM A (MQ below (cQ D cI cB ad shsM (none) S' A) args s 0 0 A) 276 [] [.int (i32 j45), .ref (ad 0)] S43 := by
            obtain ⟨S48, e49, h⟩ := wrk_some h
            refine go_putE (pc := 276) X (fk := 20) (fi := 20) rfl e49 sh8 rfl inT_X8 tyX8_ok nmX8 (by decide) fL_X8_251 rfl rfl rfl rfl rfl dX8_goesOn_276 ?_
            exact go_vret (pc := 279) X h dX8_goesOn_279
          refine go_icmp_ne (pc := 268) X 275 dX8_goesOn_268 rfl (fun c50 => ?_) (fun c50 => ?_)
          · rw [if_neg c50] at h46
            refine go_iconst (pc := 275) X dX8_goesOn_275 ?_
            cases h46
            refine go_pick [] (Ls' := []) rfl ?_
            exact k47
          · rw [if_pos c50] at h46
            refine go_iconst (pc := 271) X dX8_goesOn_271 ?_
            refine go_goto (pc := 272) X 276 dX8_goesOn_272 rfl ?_
            cases h46
            refine go_pick [] (Ls' := []) rfl ?_
            exact k47
        · rw [if_neg c42] at h
          refine go_aload_n (pc := 160) X 0 dX8_goesOn_160 rfl rfl ?_
          refine go_iconst (pc := 161) X dX8_goesOn_161 ?_
          obtain ⟨S51, e52, h⟩ := wrk_some h
          refine go_putE (pc := 162) X (fk := 22) (fi := 22) rfl e52 sh8 rfl inT_X8 tyX8_ok nmX8 (by decide) fL_X8_260 rfl rfl rfl rfl rfl dX8_goesOn_162 ?_
          obtain ⟨r68, h69, h⟩ := bind_some h
          have H70 : ∀ (n : Nat) (t71 : Mem) (z72 : Mem), lp (f_X8_goesOn_l165 j31) n t71 = some z72 → Go p l e { frames := 1, cells := 0, slots := 0, locals := 22 } s m args below meth c 5 D cI cB ad shsM A (MQ below (cQ D cI cB ad shsM (none) S' A) args s 0 0 A) 224 [(0, .ref (ad 0)), (3, .int (i32 j31))] [] z72 → Go p l e { frames := 1, cells := 0, slots := 0, locals := 22 } s m args below meth c 5 D cI cB ad shsM A (MQ below (cQ D cI cB ad shsM (none) S' A) args s 0 0 A) 165 [(0, .ref (ad 0)), (3, .int (i32 j31))] [] t71 := by
            refine lp_go (fun t71 : Mem => Go p l e { frames := 1, cells := 0, slots := 0, locals := 22 } s m args below meth c 5 D cI cB ad shsM A (MQ below (cQ D cI cB ad shsM (none) S' A) args s 0 0 A) 165 [(0, .ref (ad 0)), (3, .int (i32 j31))] [] t71) (fun z72 : Mem => Go p l e { frames := 1, cells := 0, slots := 0, locals := 22 } s m args below meth c 5 D cI cB ad shsM A (MQ below (cQ D cI cB ad shsM (none) S' A) args s 0 0 A) 224 [(0, .ref (ad 0)), (3, .int (i32 j31))] [] z72) ?_
            intro t71 x73 h hx74
            unfold f_X8_goesOn_l165 at h
            refine go_aload_n (pc := 165) X 0 dX8_goesOn_165 rfl rfl ?_
            obtain ⟨r76, h77, h⟩ := bind_some h
            refine go_callVi (pc := 166) X 0 [] (ct_X8_here h77) sh8 rfl gg_X8_254 hd_X8_here ⟨Nat.le_of_ble_eq_true rfl, Nat.le_of_ble_eq_true rfl⟩ rfl rfl (Nat.le_of_ble_eq_true rfl) dX8_goesOn_166 ?_
            refine go_bipush (pc := 169) X dX8_goesOn_169 (by decide) (by decide) ?_
            refine go_bipush (pc := 171) X dX8_goesOn_171 (by decide) (by decide) ?_
            obtain ⟨r78, h79, h⟩ := bind_some h
            refine go_callSi (pc := 173) X 3 [] (ct_X8_in h79) gg_X8_65 hd_X8_in ⟨Nat.le_of_ble_eq_true rfl, Nat.le_of_ble_eq_true rfl⟩ rfl rfl (Nat.le_of_ble_eq_true rfl) dX8_goesOn_173 ?_
            refine go_if_eq (pc := 176) X 224 dX8_goesOn_176 rfl (fun c80 => ?_) (fun c80 => ?_)
            · rw [if_pos c80] at h
              exact lp_back h hx74
            · rw [if_neg c80] at h
              refine go_aload_n (pc := 179) X 0 dX8_goesOn_179 rfl rfl ?_
              refine go_get (pc := 180) X (fk := 19) (fi := 19) rfl sh8 rfl inT_X8 (by decide) fL_X8_248 rfl dX8_goesOn_180 ?_
              refine go_aload_n (pc := 183) X 0 dX8_goesOn_183 rfl rfl ?_
              refine go_get (pc := 184) X (fk := 21) (fi := 21) rfl sh8 rfl inT_X8 (by decide) fL_X8_257 rfl dX8_goesOn_184 ?_
              refine go_isub (pc := 187) X dX8_goesOn_187 ?_
              refine go_iconst (pc := 188) X dX8_goesOn_188 ?_
              obtain ⟨j81, h82, h⟩ := bind_some h
              have k83 : Go p l e { frames := 1, cells := 0, slots := 0, locals := 22 } s m args below meth c 5 D cI cB ad shsM A (MQ below (cQ D cI cB ad shsM (none) S' A) args s 0 0 A) 211 [(0, .ref (ad 0)), (3, .int (i32 j31))] [] j81 := by
                refine go_aload_n (pc := 211) X 0 dX8_goesOn_211 rfl rfl ?_
                refine go_dup (pc := 212) X dX8_goesOn_212 rfl ?_
                refine go_get (pc := 213) X (fk := 19) (fi := 19) rfl sh8 rfl inT_X8 (by decide) fL_X8_248 rfl dX8_goesOn_213 ?_
                refine go_iconst (pc := 216) X dX8_goesOn_216 ?_
                refine go_iadd (pc := 217) X dX8_goesOn_217 ?_
                obtain ⟨S84, e85, h⟩ := wrk_some h
                refine go_putE (pc := 218) X (fk := 19) (fi := 19) rfl e85 sh8 rfl inT_X8 tyX8_ok nmX8 (by decide) fL_X8_248 rfl rfl rfl rfl rfl dX8_goesOn_218 ?_
                refine go_goto (pc := 221) X 165 dX8_goesOn_221 rfl ?_
                exact lp_back h hx74
              refine go_icmp_ge (pc := 189) X 211 dX8_goesOn_189 rfl (fun c86 => ?_) (fun c86 => ?_)
              · rw [if_neg c86] at h82
                cases h82
                exact k83
              · rw [if_pos c86] at h82
                refine go_aload_n (pc := 192) X 0 dX8_goesOn_192 rfl rfl ?_
                refine go_bipush (pc := 193) X dX8_goesOn_193 (by decide) (by decide) ?_
                refine go_aload_n (pc := 195) X 0 dX8_goesOn_195 rfl rfl ?_
                refine go_get (pc := 196) X (fk := 22) (fi := 22) rfl sh8 rfl inT_X8 (by decide) fL_X8_260 rfl dX8_goesOn_196 ?_
                refine go_imul (pc := 199) X dX8_goesOn_199 ?_
                refine go_aload_n (pc := 200) X 0 dX8_goesOn_200 rfl rfl ?_
                obtain ⟨r87, h88, h82⟩ := bind_some h82
                refine go_callVi (pc := 201) X 0 [.int (i32 (10 * (t71 0 22))), .ref (ad 0)] (ct_X8_here h88) sh8 rfl gg_X8_254 hd_X8_here ⟨Nat.le_of_ble_eq_true rfl, Nat.le_of_ble_eq_true rfl⟩ rfl rfl (Nat.le_of_ble_eq_true rfl) dX8_goesOn_201 ?_
                refine go_iadd (pc := 204) X dX8_goesOn_204 ?_
                refine go_bipush (pc := 205) X dX8_goesOn_205 (by decide) (by decide) ?_
                refine go_isub (pc := 207) X dX8_goesOn_207 ?_
                obtain ⟨S89, e90, h82⟩ := wrk_some h82
                refine go_putE (pc := 208) X (fk := 22) (fi := 22) rfl e90 sh8 rfl inT_X8 tyX8_ok nmX8 (by decide) fL_X8_260 rfl rfl rfl rfl rfl dX8_goesOn_208 ?_
                cases h82
                exact k83
          refine go_pick [0, 1] (Ls' := [(0, .ref (ad 0)), (3, .int (i32 j31))]) rfl ?_
          refine H70 FU S51 r68 h69 ?_
          refine go_aload_n (pc := 224) X 0 dX8_goesOn_224 rfl rfl ?_
          refine go_iload_n (pc := 225) X 1 dX8_goesOn_225 rfl rfl ?_
          obtain ⟨j91, h92, h⟩ := bind_some h
          have k93 : Go p l e { frames := 1, cells := 0, slots := 0, locals := 22 } s m args below meth c 5 D cI cB ad shsM A (MQ below (cQ D cI cB ad shsM (none) S' A) args s 0 0 A) 247 [] [.int (i32 j91), .ref (ad 0)] r68 := by
            obtain ⟨S94, e95, h⟩ := wrk_some h
            refine go_putE (pc := 247) X (fk := 20) (fi := 20) rfl e95 sh8 rfl inT_X8 tyX8_ok nmX8 (by decide) fL_X8_251 rfl rfl rfl rfl rfl dX8_goesOn_247 ?_
            refine go_goto (pc := 250) X 279 dX8_goesOn_250 rfl ?_
            exact go_vret (pc := 279) X h dX8_goesOn_279
          refine go_if_ne (pc := 226) X 242 dX8_goesOn_226 rfl (fun c96 => ?_) (fun c96 => ?_)
          · rw [if_neg c96] at h92
            refine go_iconst (pc := 242) X dX8_goesOn_242 ?_
            refine go_goto (pc := 243) X 247 dX8_goesOn_243 rfl ?_
            cases h92
            refine go_pick [] (Ls' := []) rfl ?_
            exact k93
          · rw [if_pos c96] at h92
            refine go_aload_n (pc := 229) X 0 dX8_goesOn_229 rfl rfl ?_
            refine go_get (pc := 230) X (fk := 19) (fi := 19) rfl sh8 rfl inT_X8 (by decide) fL_X8_248 rfl dX8_goesOn_230 ?_
            refine go_aload_n (pc := 233) X 0 dX8_goesOn_233 rfl rfl ?_
            refine go_get (pc := 234) X (fk := 21) (fi := 21) rfl sh8 rfl inT_X8 (by decide) fL_X8_257 rfl dX8_goesOn_234 ?_
            refine go_isub (pc := 237) X dX8_goesOn_237 ?_
            refine go_iconst (pc := 238) X dX8_goesOn_238 ?_
            refine go_icmp_le (pc := 239) X 246 dX8_goesOn_239 rfl (fun c97 => ?_) (fun c97 => ?_)
            · rw [if_neg c97] at h92
              refine go_iconst (pc := 246) X dX8_goesOn_246 ?_
              cases h92
              refine go_pick [] (Ls' := []) rfl ?_
              exact k93
            · rw [if_pos c97] at h92
              refine go_iconst (pc := 242) X dX8_goesOn_242 ?_
              refine go_goto (pc := 243) X 247 dX8_goesOn_243 rfl ?_
              cases h92
              refine go_pick [] (Ls' := []) rfl ?_
              exact k93
      · rw [if_neg c39] at h
        obtain ⟨r105, h106, h⟩ := bind_some h
        have H107 : ∀ (n : Nat) (t108 : Mem) (z109 : Mem), lp (f_X8_goesOn_l105 j31) n t108 = some z109 → Go p l e { frames := 1, cells := 0, slots := 0, locals := 22 } s m args below meth c 5 D cI cB ad shsM A (MQ below (cQ D cI cB ad shsM (none) S' A) args s 0 0 A) 132 [(0, .ref (ad 0)), (3, .int (i32 j31))] [] z109 → Go p l e { frames := 1, cells := 0, slots := 0, locals := 22 } s m args below meth c 5 D cI cB ad shsM A (MQ below (cQ D cI cB ad shsM (none) S' A) args s 0 0 A) 105 [(0, .ref (ad 0)), (3, .int (i32 j31))] [] t108 := by
          refine lp_go (fun t108 : Mem => Go p l e { frames := 1, cells := 0, slots := 0, locals := 22 } s m args below meth c 5 D cI cB ad shsM A (MQ below (cQ D cI cB ad shsM (none) S' A) args s 0 0 A) 105 [(0, .ref (ad 0)), (3, .int (i32 j31))] [] t108) (fun z109 : Mem => Go p l e { frames := 1, cells := 0, slots := 0, locals := 22 } s m args below meth c 5 D cI cB ad shsM A (MQ below (cQ D cI cB ad shsM (none) S' A) args s 0 0 A) 132 [(0, .ref (ad 0)), (3, .int (i32 j31))] [] z109) ?_
          intro t108 x110 h hx111
          unfold f_X8_goesOn_l105 at h
          refine go_aload_n (pc := 105) X 0 dX8_goesOn_105 rfl rfl ?_
          obtain ⟨r113, h114, h⟩ := bind_some h
          refine go_callVi (pc := 106) X 0 [] (ct_X8_here h114) sh8 rfl gg_X8_254 hd_X8_here ⟨Nat.le_of_ble_eq_true rfl, Nat.le_of_ble_eq_true rfl⟩ rfl rfl (Nat.le_of_ble_eq_true rfl) dX8_goesOn_106 ?_
          refine go_bipush (pc := 109) X dX8_goesOn_109 (by decide) (by decide) ?_
          refine go_bipush (pc := 111) X dX8_goesOn_111 (by decide) (by decide) ?_
          obtain ⟨r115, h116, h⟩ := bind_some h
          refine go_callSi (pc := 113) X 3 [] (ct_X8_in h116) gg_X8_65 hd_X8_in ⟨Nat.le_of_ble_eq_true rfl, Nat.le_of_ble_eq_true rfl⟩ rfl rfl (Nat.le_of_ble_eq_true rfl) dX8_goesOn_113 ?_
          refine go_if_eq (pc := 116) X 132 dX8_goesOn_116 rfl (fun c117 => ?_) (fun c117 => ?_)
          · rw [if_pos c117] at h
            exact lp_back h hx111
          · rw [if_neg c117] at h
            refine go_aload_n (pc := 119) X 0 dX8_goesOn_119 rfl rfl ?_
            refine go_dup (pc := 120) X dX8_goesOn_120 rfl ?_
            refine go_get (pc := 121) X (fk := 19) (fi := 19) rfl sh8 rfl inT_X8 (by decide) fL_X8_248 rfl dX8_goesOn_121 ?_
            refine go_iconst (pc := 124) X dX8_goesOn_124 ?_
            refine go_iadd (pc := 125) X dX8_goesOn_125 ?_
            obtain ⟨S118, e119, h⟩ := wrk_some h
            refine go_putE (pc := 126) X (fk := 19) (fi := 19) rfl e119 sh8 rfl inT_X8 tyX8_ok nmX8 (by decide) fL_X8_248 rfl rfl rfl rfl rfl dX8_goesOn_126 ?_
            refine go_goto (pc := 129) X 105 dX8_goesOn_129 rfl ?_
            exact lp_back h hx111
        refine go_pick [0, 1] (Ls' := [(0, .ref (ad 0)), (3, .int (i32 j31))]) rfl ?_
        refine H107 FU S29 r105 h106 ?_
        refine go_aload_n (pc := 132) X 0 dX8_goesOn_132 rfl rfl ?_
        refine go_iload_n (pc := 133) X 1 dX8_goesOn_133 rfl rfl ?_
        obtain ⟨j120, h121, h⟩ := bind_some h
        have k122 : Go p l e { frames := 1, cells := 0, slots := 0, locals := 22 } s m args below meth c 5 D cI cB ad shsM A (MQ below (cQ D cI cB ad shsM (none) S' A) args s 0 0 A) 142 [] [.int (i32 j120), .ref (ad 0)] r105 := by
          obtain ⟨S123, e124, h⟩ := wrk_some h
          refine go_putE (pc := 142) X (fk := 20) (fi := 20) rfl e124 sh8 rfl inT_X8 tyX8_ok nmX8 (by decide) fL_X8_251 rfl rfl rfl rfl rfl dX8_goesOn_142 ?_
          refine go_goto (pc := 145) X 279 dX8_goesOn_145 rfl ?_
          exact go_vret (pc := 279) X h dX8_goesOn_279
        refine go_if_eq (pc := 134) X 141 dX8_goesOn_134 rfl (fun c125 => ?_) (fun c125 => ?_)
        · rw [if_pos c125] at h121
          refine go_iconst (pc := 141) X dX8_goesOn_141 ?_
          cases h121
          refine go_pick [] (Ls' := []) rfl ?_
          exact k122
        · rw [if_neg c125] at h121
          refine go_iconst (pc := 137) X dX8_goesOn_137 ?_
          refine go_goto (pc := 138) X 142 dX8_goesOn_138 rfl ?_
          cases h121
          refine go_pick [] (Ls' := []) rfl ?_
          exact k122
    · rw [if_pos c36] at h
      refine go_aload_n (pc := 85) X 0 dX8_goesOn_85 rfl rfl ?_
      refine go_iconst (pc := 86) X dX8_goesOn_86 ?_
      obtain ⟨S126, e127, h⟩ := wrk_some h
      refine go_putE (pc := 87) X (fk := 20) (fi := 20) rfl e127 sh8 rfl inT_X8 tyX8_ok nmX8 (by decide) fL_X8_251 rfl rfl rfl rfl rfl dX8_goesOn_87 ?_
      refine go_goto (pc := 90) X 279 dX8_goesOn_90 rfl ?_
      exact go_vret (pc := 279) X h dX8_goesOn_279
  refine go_icmp_ne (pc := 54) X 71 dX8_goesOn_54 rfl (fun c128 => ?_) (fun c128 => ?_)
  · rw [if_neg c128] at h32
    refine go_iconst (pc := 71) X dX8_goesOn_71 ?_
    cases h32
    refine go_pick [0] (Ls' := [(0, .ref (ad 0))]) rfl ?_
    exact k33
  · rw [if_pos c128] at h32
    refine go_iload_n (pc := 57) X 1 dX8_goesOn_57 rfl rfl ?_
    refine go_iconst (pc := 58) X dX8_goesOn_58 ?_
    refine go_icmp_eq (pc := 59) X 67 dX8_goesOn_59 rfl (fun c129 => ?_) (fun c129 => ?_)
    · rw [if_pos c129] at h32
      refine go_iconst (pc := 67) X dX8_goesOn_67 ?_
      refine go_goto (pc := 68) X 72 dX8_goesOn_68 rfl ?_
      cases h32
      refine go_pick [0] (Ls' := [(0, .ref (ad 0))]) rfl ?_
      exact k33
    · rw [if_neg c129] at h32
      refine go_iload_n (pc := 62) X 1 dX8_goesOn_62 rfl rfl ?_
      refine go_iconst (pc := 63) X dX8_goesOn_63 ?_
      refine go_icmp_ne (pc := 64) X 71 dX8_goesOn_64 rfl (fun c130 => ?_) (fun c130 => ?_)
      · rw [if_neg c130] at h32
        refine go_iconst (pc := 71) X dX8_goesOn_71 ?_
        cases h32
        refine go_pick [0] (Ls' := [(0, .ref (ad 0))]) rfl ?_
        exact k33
      · rw [if_pos c130] at h32
        refine go_iconst (pc := 67) X dX8_goesOn_67 ?_
        refine go_goto (pc := 68) X 72 dX8_goesOn_68 rfl ?_
        cases h32
        refine go_pick [0] (Ls' := [(0, .ref (ad 0))]) rfl ?_
        exact k33
set_option maxRecDepth 100000 in
set_option maxHeartbeats 4000000 in
theorem ct_X8_takesWord {l : Launch} {D : va_G} {cI cB : ClassId} {Z : (Nat → Nat) × (Nat → Nat)} {ad : Nat → Nat} {S : Mem} {a1 : Int} {r : Int} {S' : Mem} (h : f_X8_takesWord S a1 = some (r, S')) : Ctr l D cI cB Z ad shsM yX8_takesWord cX8_takesWord 4 (some .boolean) 2 46 [.ref (ad 0), .int (i32 a1)] S (some (.int (i32 r))) S' := by
  refine ctr_of (by decide +kernel) (Nat.le_of_ble_eq_true rfl) rfl ?_
  intro p e s m args below meth c A X
  unfold f_X8_takesWord at h
  refine go_aload_n (pc := 0) X 0 dX8_takesWord_0 rfl rfl ?_
  refine go_get (pc := 1) X (fk := 23) (fi := 23) rfl sh8 rfl inT_X8 (by decide) fL_X8_263 rfl dX8_takesWord_1 ?_
  refine go_if_ne (pc := 4) X 15 dX8_takesWord_4 rfl (fun c1 => ?_) (fun c1 => ?_)
  · rw [if_neg c1] at h
    refine go_iconst (pc := 15) X dX8_takesWord_15 ?_
    exact go_zret (pc := 16) X (Or.inl rfl) h dX8_takesWord_16
  · rw [if_pos c1] at h
    refine go_aload_n (pc := 7) X 0 dX8_takesWord_7 rfl rfl ?_
    refine go_get (pc := 8) X (fk := 20) (fi := 20) rfl sh8 rfl inT_X8 (by decide) fL_X8_251 rfl dX8_takesWord_8 ?_
    refine go_iconst (pc := 11) X dX8_takesWord_11 ?_
    refine go_icmp_eq (pc := 12) X 17 dX8_takesWord_12 rfl (fun c2 => ?_) (fun c2 => ?_)
    · rw [if_pos c2] at h
      refine go_aload_n (pc := 17) X 0 dX8_takesWord_17 rfl rfl ?_
      refine go_iload_n (pc := 18) X 1 dX8_takesWord_18 rfl rfl ?_
      obtain ⟨r3, h4, h⟩ := bind_some h
      refine go_callVi (pc := 19) X 1 [] (ct_X8_wordFrom h4) sh8 rfl gg_X8_218 hd_X8_wordFrom ⟨Nat.le_of_ble_eq_true rfl, Nat.le_of_ble_eq_true rfl⟩ rfl rfl (Nat.le_of_ble_eq_true rfl) dX8_takesWord_19 ?_
      refine go_istore_n (pc := 22) X [1, 2, 0] (Ls' := [(0, .ref (ad 0)), (1, .int (i32 a1)), (2, .int (i32 r3))]) dX8_takesWord_22 rfl (by decide) rfl ?_
      refine go_iconst (pc := 23) X dX8_takesWord_23 ?_
      refine go_istore_n (pc := 24) X [1, 2, 3, 0] (Ls' := [(0, .ref (ad 0)), (1, .int (i32 a1)), (2, .int (i32 r3)), (3, .int (i32 0))]) dX8_takesWord_24 rfl (by decide) rfl ?_
      obtain ⟨r9, h10, h⟩ := bind_some h
      have H11 : ∀ (n : Nat) (t12 : Int) (z13 : Int), lp (f_X8_takesWord_l25 S r3) n t12 = some z13 → Go p l e { frames := 2, cells := 0, slots := 0, locals := 46 } s m args below meth c 4 D cI cB ad shsM A (MQ below (cQ D cI cB ad shsM (some (.int (i32 r))) S' A) args s 0 0 A) 66 [(0, .ref (ad 0)), (2, .int (i32 r3)), (3, .int (i32 z13))] [] S → Go p l e { frames := 2, cells := 0, slots := 0, locals := 46 } s m args below meth c 4 D cI cB ad shsM A (MQ below (cQ D cI cB ad shsM (some (.int (i32 r))) S' A) args s 0 0 A) 25 [(0, .ref (ad 0)), (2, .int (i32 r3)), (3, .int (i32 t12))] [] S := by
        refine lp_go (fun t12 : Int => Go p l e { frames := 2, cells := 0, slots := 0, locals := 46 } s m args below meth c 4 D cI cB ad shsM A (MQ below (cQ D cI cB ad shsM (some (.int (i32 r))) S' A) args s 0 0 A) 25 [(0, .ref (ad 0)), (2, .int (i32 r3)), (3, .int (i32 t12))] [] S) (fun z13 : Int => Go p l e { frames := 2, cells := 0, slots := 0, locals := 46 } s m args below meth c 4 D cI cB ad shsM A (MQ below (cQ D cI cB ad shsM (some (.int (i32 r))) S' A) args s 0 0 A) 66 [(0, .ref (ad 0)), (2, .int (i32 r3)), (3, .int (i32 z13))] [] S) ?_
        intro t12 x14 h hx15
        unfold f_X8_takesWord_l25 at h
        refine go_aload_n (pc := 25) X 0 dX8_takesWord_25 rfl rfl ?_
        refine go_get (pc := 26) X (fk := 21) (fi := 21) rfl sh8 rfl inT_X8 (by decide) fL_X8_257 rfl dX8_takesWord_26 ?_
        refine go_iload_n (pc := 29) X 2 dX8_takesWord_29 rfl rfl ?_
        refine go_iadd (pc := 30) X dX8_takesWord_30 ?_
        refine go_aload_n (pc := 31) X 0 dX8_takesWord_31 rfl rfl ?_
        refine go_get (pc := 32) X (fk := 19) (fi := 19) rfl sh8 rfl inT_X8 (by decide) fL_X8_248 rfl dX8_takesWord_32 ?_
        refine go_icmp_ge (pc := 35) X 66 dX8_takesWord_35 rfl (fun c17 => ?_) (fun c17 => ?_)
        · rw [if_neg c17] at h
          exact lp_back h hx15
        · rw [if_pos c17] at h
          refine go_aload_n (pc := 38) X 0 dX8_takesWord_38 rfl rfl ?_
          refine go_getr (pc := 39) X (fk := 18) sh8 rfl inT_X8 (by decide) fL_X8_50 rfl dX8_takesWord_39 ?_
          refine go_iload_n (pc := 42) X 1 dX8_takesWord_42 rfl rfl ?_
          refine go_iload_n (pc := 43) X 2 dX8_takesWord_43 rfl rfl ?_
          refine go_iadd (pc := 44) X dX8_takesWord_44 ?_
          obtain ⟨g18, h⟩ := gd_some h
          refine go_bald (pc := 45) X shM13 (Nat.le_of_ble_eq_true rfl) rfl g18 dX8_takesWord_45 ?_
          refine go_aload_n (pc := 46) X 0 dX8_takesWord_46 rfl rfl ?_
          refine go_getr (pc := 47) X (fk := 16) sh8 rfl inT_X8 (by decide) fL_X8_47 rfl dX8_takesWord_47 ?_
          refine go_aload_n (pc := 50) X 0 dX8_takesWord_50 rfl rfl ?_
          refine go_get (pc := 51) X (fk := 21) (fi := 21) rfl sh8 rfl inT_X8 (by decide) fL_X8_257 rfl dX8_takesWord_51 ?_
          refine go_iload_n (pc := 54) X 2 dX8_takesWord_54 rfl rfl ?_
          refine go_iadd (pc := 55) X dX8_takesWord_55 ?_
          obtain ⟨g19, h⟩ := gd_some h
          refine go_iald (pc := 56) X shM12 (Nat.le_of_ble_eq_true rfl) rfl g19 dX8_takesWord_56 ?_
          refine go_icmp_ne (pc := 57) X 66 dX8_takesWord_57 rfl (fun c20 => ?_) (fun c20 => ?_)
          · rw [if_neg c20] at h
            exact lp_back h hx15
          · rw [if_pos c20] at h
            refine go_iinc (pc := 60) X [1, 2, 0] 2 (Ls' := [(0, .ref (ad 0)), (2, .int (i32 r3)), (3, .int (i32 (t12 + 1)))]) dX8_takesWord_60 rfl (by decide) rfl ?_
            refine go_goto (pc := 63) X 25 dX8_takesWord_63 rfl ?_
            exact lp_back h hx15
      refine go_pick [0, 2, 3] (Ls' := [(0, .ref (ad 0)), (2, .int (i32 r3)), (3, .int (i32 0))]) rfl ?_
      refine H11 FU 0 r9 h10 ?_
      refine go_aload_n (pc := 66) X 0 dX8_takesWord_66 rfl rfl ?_
      refine go_get (pc := 67) X (fk := 21) (fi := 21) rfl sh8 rfl inT_X8 (by decide) fL_X8_257 rfl dX8_takesWord_67 ?_
      refine go_iload_n (pc := 70) X 2 dX8_takesWord_70 rfl rfl ?_
      refine go_iadd (pc := 71) X dX8_takesWord_71 ?_
      refine go_aload_n (pc := 72) X 0 dX8_takesWord_72 rfl rfl ?_
      refine go_get (pc := 73) X (fk := 19) (fi := 19) rfl sh8 rfl inT_X8 (by decide) fL_X8_248 rfl dX8_takesWord_73 ?_
      refine go_icmp_ne (pc := 76) X 90 dX8_takesWord_76 rfl (fun c21 => ?_) (fun c21 => ?_)
      · rw [if_neg c21] at h
        refine go_iconst (pc := 90) X dX8_takesWord_90 ?_
        exact go_zret (pc := 91) X (Or.inl rfl) h dX8_takesWord_91
      · rw [if_pos c21] at h
        refine go_aload_n (pc := 79) X 0 dX8_takesWord_79 rfl rfl ?_
        refine go_getr (pc := 80) X (fk := 18) sh8 rfl inT_X8 (by decide) fL_X8_50 rfl dX8_takesWord_80 ?_
        refine go_iload_n (pc := 83) X 1 dX8_takesWord_83 rfl rfl ?_
        refine go_iload_n (pc := 84) X 2 dX8_takesWord_84 rfl rfl ?_
        refine go_iadd (pc := 85) X dX8_takesWord_85 ?_
        obtain ⟨g22, h⟩ := gd_some h
        refine go_bald (pc := 86) X shM13 (Nat.le_of_ble_eq_true rfl) rfl g22 dX8_takesWord_86 ?_
        refine go_if_eq (pc := 87) X 92 dX8_takesWord_87 rfl (fun c23 => ?_) (fun c23 => ?_)
        · rw [if_pos c23] at h
          refine go_aload_n (pc := 92) X 0 dX8_takesWord_92 rfl rfl ?_
          obtain ⟨S24, h25, h⟩ := bind_some h
          refine go_callVv (pc := 93) X 0 [] (ct_X8_goesOn h25) sh8 rfl gg_X8_267 hd_X8_goesOn ⟨Nat.le_of_ble_eq_true rfl, Nat.le_of_ble_eq_true rfl⟩ rfl rfl (Nat.le_of_ble_eq_true rfl) dX8_takesWord_93 ?_
          refine go_iconst (pc := 96) X dX8_takesWord_96 ?_
          exact go_zret (pc := 97) X (Or.inr rfl) h dX8_takesWord_97
        · rw [if_neg c23] at h
          refine go_iconst (pc := 90) X dX8_takesWord_90 ?_
          exact go_zret (pc := 91) X (Or.inl rfl) h dX8_takesWord_91
    · rw [if_neg c2] at h
      refine go_iconst (pc := 15) X dX8_takesWord_15 ?_
      exact go_zret (pc := 16) X (Or.inl rfl) h dX8_takesWord_16
set_option maxRecDepth 100000 in
set_option maxHeartbeats 4000000 in
theorem ct_X8_needsNumber {l : Launch} {D : va_G} {cI cB : ClassId} {Z : (Nat → Nat) × (Nat → Nat)} {ad : Nat → Nat} {S : Mem} {a1 : Int} {a2 : Int} {r : Int} {S' : Mem} (h : f_X8_needsNumber S a1 a2 = some (r, S')) : Ctr l D cI cB Z ad shsM yX8_needsNumber cX8_needsNumber 4 (some .int) 2 46 [.ref (ad 0), .int (i32 a1), .int (i32 a2)] S (some (.int (i32 r))) S' := by
  refine ctr_of (by decide +kernel) (Nat.le_of_ble_eq_true rfl) rfl ?_
  intro p e s m args below meth c A X
  unfold f_X8_needsNumber at h
  refine go_aload_n (pc := 0) X 0 dX8_needsNumber_0 rfl rfl ?_
  refine go_get (pc := 1) X (fk := 23) (fi := 23) rfl sh8 rfl inT_X8 (by decide) fL_X8_263 rfl dX8_needsNumber_1 ?_
  refine go_if_ne (pc := 4) X 27 dX8_needsNumber_4 rfl (fun c1 => ?_) (fun c1 => ?_)
  · rw [if_neg c1] at h
    refine go_aload_n (pc := 27) X 0 dX8_needsNumber_27 rfl rfl ?_
    refine go_iconst (pc := 28) X dX8_needsNumber_28 ?_
    obtain ⟨S2, e3, h⟩ := wrk_some h
    refine go_putE (pc := 29) X (fk := 23) (fi := 23) rfl e3 sh8 rfl inT_X8 tyX8_ok nmX8 (by decide) fL_X8_263 rfl rfl rfl rfl rfl dX8_needsNumber_29 ?_
    refine go_iload_n (pc := 32) X 1 dX8_needsNumber_32 rfl rfl ?_
    exact go_iret (pc := 33) X h dX8_needsNumber_33
  · rw [if_pos c1] at h
    refine go_aload_n (pc := 7) X 0 dX8_needsNumber_7 rfl rfl ?_
    refine go_get (pc := 8) X (fk := 20) (fi := 20) rfl sh8 rfl inT_X8 (by decide) fL_X8_251 rfl dX8_needsNumber_8 ?_
    refine go_iconst (pc := 11) X dX8_needsNumber_11 ?_
    refine go_icmp_ne (pc := 12) X 27 dX8_needsNumber_12 rfl (fun c4 => ?_) (fun c4 => ?_)
    · rw [if_neg c4] at h
      refine go_aload_n (pc := 27) X 0 dX8_needsNumber_27 rfl rfl ?_
      refine go_iconst (pc := 28) X dX8_needsNumber_28 ?_
      obtain ⟨S5, e6, h⟩ := wrk_some h
      refine go_putE (pc := 29) X (fk := 23) (fi := 23) rfl e6 sh8 rfl inT_X8 tyX8_ok nmX8 (by decide) fL_X8_263 rfl rfl rfl rfl rfl dX8_needsNumber_29 ?_
      refine go_iload_n (pc := 32) X 1 dX8_needsNumber_32 rfl rfl ?_
      exact go_iret (pc := 33) X h dX8_needsNumber_33
    · rw [if_pos c4] at h
      refine go_aload_n (pc := 15) X 0 dX8_needsNumber_15 rfl rfl ?_
      refine go_get (pc := 16) X (fk := 22) (fi := 22) rfl sh8 rfl inT_X8 (by decide) fL_X8_260 rfl dX8_needsNumber_16 ?_
      refine go_iload_n (pc := 19) X 1 dX8_needsNumber_19 rfl rfl ?_
      refine go_iload_n (pc := 20) X 2 dX8_needsNumber_20 rfl rfl ?_
      obtain ⟨r7, h8, h⟩ := bind_some h
      refine go_callSi (pc := 21) X 3 [] (ct_X8_in h8) gg_X8_65 hd_X8_in ⟨Nat.le_of_ble_eq_true rfl, Nat.le_of_ble_eq_true rfl⟩ rfl rfl (Nat.le_of_ble_eq_true rfl) dX8_needsNumber_21 ?_
      refine go_if_ne (pc := 24) X 34 dX8_needsNumber_24 rfl (fun c9 => ?_) (fun c9 => ?_)
      · rw [if_neg c9] at h
        refine go_aload_n (pc := 34) X 0 dX8_needsNumber_34 rfl rfl ?_
        refine go_get (pc := 35) X (fk := 22) (fi := 22) rfl sh8 rfl inT_X8 (by decide) fL_X8_260 rfl dX8_needsNumber_35 ?_
        refine go_istore_n (pc := 38) X [1, 2, 3, 0] (Ls' := [(0, .ref (ad 0)), (1, .int (i32 a1)), (2, .int (i32 a2)), (3, .int (i32 (S 0 22)))]) dX8_needsNumber_38 rfl (by decide) rfl ?_
        refine go_aload_n (pc := 39) X 0 dX8_needsNumber_39 rfl rfl ?_
        obtain ⟨S10, h11, h⟩ := bind_some h
        refine go_callVv (pc := 40) X 0 [] (ct_X8_goesOn h11) sh8 rfl gg_X8_267 hd_X8_goesOn ⟨Nat.le_of_ble_eq_true rfl, Nat.le_of_ble_eq_true rfl⟩ rfl rfl (Nat.le_of_ble_eq_true rfl) dX8_needsNumber_40 ?_
        refine go_iload_n (pc := 43) X 3 dX8_needsNumber_43 rfl rfl ?_
        exact go_iret (pc := 44) X h dX8_needsNumber_44
      · rw [if_pos c9] at h
        refine go_aload_n (pc := 27) X 0 dX8_needsNumber_27 rfl rfl ?_
        refine go_iconst (pc := 28) X dX8_needsNumber_28 ?_
        obtain ⟨S12, e13, h⟩ := wrk_some h
        refine go_putE (pc := 29) X (fk := 23) (fi := 23) rfl e13 sh8 rfl inT_X8 tyX8_ok nmX8 (by decide) fL_X8_263 rfl rfl rfl rfl rfl dX8_needsNumber_29 ?_
        refine go_iload_n (pc := 32) X 1 dX8_needsNumber_32 rfl rfl ?_
        exact go_iret (pc := 33) X h dX8_needsNumber_33
set_option maxRecDepth 100000 in
set_option maxHeartbeats 4000000 in
theorem ct_X8_readsBidder {l : Launch} {D : va_G} {cI cB : ClassId} {Z : (Nat → Nat) × (Nat → Nat)} {ad : Nat → Nat} {S : Mem} {a1 : Int} {S' : Mem} (h : f_X8_readsBidder S a1 = some S') : Ctr l D cI cB Z ad shsM yX8_readsBidder cX8_readsBidder 5 none 3 69 [.ref (ad 0), .int (i32 a1)] S (none) S' := by
  refine ctr_of (by decide +kernel) (Nat.le_of_ble_eq_true rfl) rfl ?_
  intro p e s m args below meth c A X
  unfold f_X8_readsBidder at h
  refine go_aload_n (pc := 0) X 0 dX8_readsBidder_0 rfl rfl ?_
  refine go_getr (pc := 1) X (fk := 2) sh8 rfl inT_X8 (by decide) fL_X8_17 rfl dX8_readsBidder_1 ?_
  refine go_iconst (pc := 4) X dX8_readsBidder_4 ?_
  obtain ⟨g1, h⟩ := gd_some h
  refine go_iald (pc := 5) X shM2 (Nat.le_of_ble_eq_true rfl) rfl g1 dX8_readsBidder_5 ?_
  refine go_bipush (pc := 6) X dX8_readsBidder_6 (by decide) (by decide) ?_
  refine go_icmp_ne (pc := 8) X 22 dX8_readsBidder_8 rfl (fun c2 => ?_) (fun c2 => ?_)
  · rw [if_neg c2] at h
    refine go_iconst (pc := 22) X dX8_readsBidder_22 ?_
    refine go_bipush (pc := 23) X dX8_readsBidder_23 (by decide) (by decide) ?_
    refine go_aload_n (pc := 25) X 0 dX8_readsBidder_25 rfl rfl ?_
    refine go_getr (pc := 26) X (fk := 2) sh8 rfl inT_X8 (by decide) fL_X8_17 rfl dX8_readsBidder_26 ?_
    refine go_iconst (pc := 29) X dX8_readsBidder_29 ?_
    refine go_iald (pc := 30) X shM2 (Nat.le_of_ble_eq_true rfl) rfl g1 dX8_readsBidder_30 ?_
    refine go_imul (pc := 31) X dX8_readsBidder_31 ?_
    refine go_iadd (pc := 32) X dX8_readsBidder_32 ?_
    refine go_istore_n (pc := 33) X [1, 2, 0] (Ls' := [(0, .ref (ad 0)), (1, .int (i32 a1)), (2, .int (i32 (3 + (10 * (S 2 2)))))]) dX8_readsBidder_33 rfl (by decide) rfl ?_
    refine go_iconst (pc := 34) X dX8_readsBidder_34 ?_
    refine go_istore_n (pc := 35) X [1, 2, 3, 0] (Ls' := [(0, .ref (ad 0)), (1, .int (i32 a1)), (2, .int (i32 (3 + (10 * (S 2 2))))), (3, .int (i32 0))]) dX8_readsBidder_35 rfl (by decide) rfl ?_
    refine go_bipush (pc := 36) X dX8_readsBidder_36 (by decide) (by decide) ?_
    refine go_istore (pc := 38) X [1, 2, 3, 4, 0] (Ls' := [(0, .ref (ad 0)), (1, .int (i32 a1)), (2, .int (i32 (3 + (10 * (S 2 2))))), (3, .int (i32 0)), (4, .int (i32 99))]) dX8_readsBidder_38 (by decide) rfl ?_
    obtain ⟨r13, h14, h⟩ := bind_some h
    have H15 : ∀ (n : Nat) (t16 : Int × Int × Mem) (z17 : (Int × Mem) ⊕ (Mem)), lp (f_X8_readsBidder_l40 (3 + (10 * (S 2 2)))) n t16 = some z17 → lpG (fun z20 : Int × Mem => Go p l e { frames := 3, cells := 0, slots := 0, locals := 69 } s m args below meth c 5 D cI cB ad shsM A (MQ below (cQ D cI cB ad shsM (none) S' A) args s 0 0 A) 94 [(0, .ref (ad 0)), (2, .int (i32 (3 + (10 * (S 2 2))))), (3, .int (i32 z20.1))] [] z20.2) (fun u : Mem => some u = some S') z17 → Go p l e { frames := 3, cells := 0, slots := 0, locals := 69 } s m args below meth c 5 D cI cB ad shsM A (MQ below (cQ D cI cB ad shsM (none) S' A) args s 0 0 A) 40 [(0, .ref (ad 0)), (2, .int (i32 (3 + (10 * (S 2 2))))), (3, .int (i32 t16.1)), (4, .int (i32 t16.2.1))] [] t16.2.2 := by
      refine lp_go (fun t16 : Int × Int × Mem => Go p l e { frames := 3, cells := 0, slots := 0, locals := 69 } s m args below meth c 5 D cI cB ad shsM A (MQ below (cQ D cI cB ad shsM (none) S' A) args s 0 0 A) 40 [(0, .ref (ad 0)), (2, .int (i32 (3 + (10 * (S 2 2))))), (3, .int (i32 t16.1)), (4, .int (i32 t16.2.1))] [] t16.2.2) (fun z17 : (Int × Mem) ⊕ (Mem) => lpG (fun z20 : Int × Mem => Go p l e { frames := 3, cells := 0, slots := 0, locals := 69 } s m args below meth c 5 D cI cB ad shsM A (MQ below (cQ D cI cB ad shsM (none) S' A) args s 0 0 A) 94 [(0, .ref (ad 0)), (2, .int (i32 (3 + (10 * (S 2 2))))), (3, .int (i32 z20.1))] [] z20.2) (fun u : Mem => some u = some S') z17) ?_
      intro t16 x18 h hx19
      unfold f_X8_readsBidder_l40 at h
      refine go_aload_n (pc := 40) X 0 dX8_readsBidder_40 rfl rfl ?_
      refine go_get (pc := 41) X (fk := 23) (fi := 23) rfl sh8 rfl inT_X8 (by decide) fL_X8_263 rfl dX8_readsBidder_41 ?_
      refine go_if_ne (pc := 44) X 94 dX8_readsBidder_44 rfl (fun c21 => ?_) (fun c21 => ?_)
      · rw [if_neg c21] at h
        refine go_pick [0, 1, 2] (Ls' := [(0, .ref (ad 0)), (2, .int (i32 (3 + (10 * (S 2 2))))), (3, .int (i32 t16.1))]) rfl ?_
        exact lp_back h hx19
      · rw [if_pos c21] at h
        refine go_aload_n (pc := 47) X 0 dX8_readsBidder_47 rfl rfl ?_
        refine go_get (pc := 48) X (fk := 20) (fi := 20) rfl sh8 rfl inT_X8 (by decide) fL_X8_251 rfl dX8_readsBidder_48 ?_
        refine go_iconst (pc := 51) X dX8_readsBidder_51 ?_
        refine go_icmp_ne (pc := 52) X 94 dX8_readsBidder_52 rfl (fun c22 => ?_) (fun c22 => ?_)
        · rw [if_neg c22] at h
          refine go_pick [0, 1, 2] (Ls' := [(0, .ref (ad 0)), (2, .int (i32 (3 + (10 * (S 2 2))))), (3, .int (i32 t16.1))]) rfl ?_
          exact lp_back h hx19
        · rw [if_pos c22] at h
          refine go_iload_n (pc := 55) X 2 dX8_readsBidder_55 rfl rfl ?_
          refine go_bipush (pc := 56) X dX8_readsBidder_56 (by decide) (by decide) ?_
          refine go_icmp_ne (pc := 58) X 67 dX8_readsBidder_58 rfl (fun c23 => ?_) (fun c23 => ?_)
          · rw [if_neg c23] at h
            refine go_aload_n (pc := 67) X 0 dX8_readsBidder_67 rfl rfl ?_
            refine go_iconst (pc := 68) X dX8_readsBidder_68 ?_
            refine go_iload (pc := 69) X 3 dX8_readsBidder_69 rfl ?_
            obtain ⟨u24, h25, h⟩ := bind_some h
            refine go_callVi (pc := 71) X 2 [] (ct_X8_needsNumber h25) sh8 rfl gg_X8_270 hd_X8_needsNumber ⟨Nat.le_of_ble_eq_true rfl, Nat.le_of_ble_eq_true rfl⟩ rfl rfl (Nat.le_of_ble_eq_true rfl) dX8_readsBidder_71 ?_
            refine go_istore (pc := 74) X [1, 2, 3, 0] (Ls' := [(0, .ref (ad 0)), (2, .int (i32 (3 + (10 * (S 2 2))))), (3, .int (i32 t16.1)), (4, .int (i32 u24.1))]) dX8_readsBidder_74 (by decide) rfl ?_
            refine go_aload_n (pc := 76) X 0 dX8_readsBidder_76 rfl rfl ?_
            refine go_getr (pc := 77) X (fk := 2) sh8 rfl inT_X8 (by decide) fL_X8_17 rfl dX8_readsBidder_77 ?_
            refine go_iload_n (pc := 80) X 1 dX8_readsBidder_80 rfl rfl ?_
            refine go_iconst (pc := 81) X dX8_readsBidder_81 ?_
            refine go_iadd (pc := 82) X dX8_readsBidder_82 ?_
            refine go_iload_n (pc := 83) X 2 dX8_readsBidder_83 rfl rfl ?_
            refine go_iadd (pc := 84) X dX8_readsBidder_84 ?_
            refine go_iload (pc := 85) X 3 dX8_readsBidder_85 rfl ?_
            obtain ⟨g26, h⟩ := gd_some h
            obtain ⟨S27, e28, h⟩ := wrk_some h
            refine go_iastE (pc := 87) X e28 shM2 (Nat.le_of_ble_eq_true rfl) rfl g26 dX8_readsBidder_87 ?_
            refine go_iinc (pc := 88) X [1, 2, 0, 3] 2 (Ls' := [(0, .ref (ad 0)), (2, .int (i32 (3 + (10 * (S 2 2))))), (3, .int (i32 (t16.1 + 1))), (4, .int (i32 u24.1))]) dX8_readsBidder_88 rfl (by decide) rfl ?_
            refine go_goto (pc := 91) X 40 dX8_readsBidder_91 rfl ?_
            exact lp_back h hx19
          · rw [if_pos c23] at h
            refine go_aload_n (pc := 61) X 0 dX8_readsBidder_61 rfl rfl ?_
            refine go_iconst (pc := 62) X dX8_readsBidder_62 ?_
            obtain ⟨S29, e30, h⟩ := wrk_some h
            refine go_putE (pc := 63) X (fk := 23) (fi := 23) rfl e30 sh8 rfl inT_X8 tyX8_ok nmX8 (by decide) fL_X8_263 rfl rfl rfl rfl rfl dX8_readsBidder_63 ?_
            exact go_vret (pc := 66) X (lp_back h hx19) dX8_readsBidder_66
    refine go_pick [0, 2, 3, 4] (Ls' := [(0, .ref (ad 0)), (2, .int (i32 (3 + (10 * (S 2 2))))), (3, .int (i32 0)), (4, .int (i32 99))]) rfl ?_
    refine H15 FU (0, 99, S) r13 h14 ?_
    cases r13 with
    | inl r31 =>
      have h := lct_l h
      refine lpG_l ?_
      refine go_aload_n (pc := 94) X 0 dX8_readsBidder_94 rfl rfl ?_
      refine go_getr (pc := 95) X (fk := 2) sh8 rfl inT_X8 (by decide) fL_X8_17 rfl dX8_readsBidder_95 ?_
      refine go_iload_n (pc := 98) X 1 dX8_readsBidder_98 rfl rfl ?_
      refine go_iconst (pc := 99) X dX8_readsBidder_99 ?_
      refine go_iadd (pc := 100) X dX8_readsBidder_100 ?_
      refine go_iload_n (pc := 101) X 2 dX8_readsBidder_101 rfl rfl ?_
      obtain ⟨g33, h⟩ := gd_some h
      obtain ⟨S34, e35, h⟩ := wrk_some h
      refine go_iastE (pc := 102) X e35 shM2 (Nat.le_of_ble_eq_true rfl) rfl g33 dX8_readsBidder_102 ?_
      refine go_aload_n (pc := 103) X 0 dX8_readsBidder_103 rfl rfl ?_
      refine go_getr (pc := 104) X (fk := 2) sh8 rfl inT_X8 (by decide) fL_X8_17 rfl dX8_readsBidder_104 ?_
      refine go_iload_n (pc := 107) X 1 dX8_readsBidder_107 rfl rfl ?_
      refine go_aload_n (pc := 108) X 0 dX8_readsBidder_108 rfl rfl ?_
      refine go_iconst (pc := 109) X dX8_readsBidder_109 ?_
      obtain ⟨u36, h37, h⟩ := bind_some h
      refine go_callVi (pc := 110) X 1 [.int (i32 (3 + (10 * (S 2 2)))), .ref (ad 2)] (ct_X8_takesWord h37) sh8 rfl gg_X8_273 hd_X8_takesWord ⟨Nat.le_of_ble_eq_true rfl, Nat.le_of_ble_eq_true rfl⟩ rfl rfl (Nat.le_of_ble_eq_true rfl) dX8_readsBidder_110 ?_
      obtain ⟨j38, h39, h⟩ := bind_some h
      have k40 : Go p l e { frames := 3, cells := 0, slots := 0, locals := 69 } s m args below meth c 5 D cI cB ad shsM A (MQ below (cQ D cI cB ad shsM (none) S' A) args s 0 0 A) 128 [(0, .ref (ad 0))] [.int (i32 j38.1), .int (i32 (3 + (10 * (S 2 2)))), .ref (ad 2)] j38.2 := by
        obtain ⟨g41, h⟩ := gd_some h
        obtain ⟨S42, e43, h⟩ := wrk_some h
        refine go_iastE (pc := 128) X e43 shM2 (Nat.le_of_ble_eq_true rfl) rfl g41 dX8_readsBidder_128 ?_
        refine go_aload_n (pc := 129) X 0 dX8_readsBidder_129 rfl rfl ?_
        refine go_getr (pc := 130) X (fk := 2) sh8 rfl inT_X8 (by decide) fL_X8_17 rfl dX8_readsBidder_130 ?_
        refine go_iconst (pc := 133) X dX8_readsBidder_133 ?_
        refine go_dup2 (pc := 134) X dX8_readsBidder_134 rfl rfl ?_
        obtain ⟨g44, h⟩ := gd_some h
        refine go_iald (pc := 135) X shM2 (Nat.le_of_ble_eq_true rfl) rfl g44 dX8_readsBidder_135 ?_
        refine go_iconst (pc := 136) X dX8_readsBidder_136 ?_
        refine go_iadd (pc := 137) X dX8_readsBidder_137 ?_
        obtain ⟨S45, e46, h⟩ := wrk_some h
        refine go_iastE (pc := 138) X e46 shM2 (Nat.le_of_ble_eq_true rfl) rfl g44 dX8_readsBidder_138 ?_
        exact go_vret (pc := 139) X h dX8_readsBidder_139
      refine go_if_eq (pc := 113) X 126 dX8_readsBidder_113 rfl (fun c47 => ?_) (fun c47 => ?_)
      · rw [if_pos c47] at h39
        refine go_bipush (pc := 126) X dX8_readsBidder_126 (by decide) (by decide) ?_
        cases h39
        refine go_pick [0] (Ls' := [(0, .ref (ad 0))]) rfl ?_
        exact k40
      · rw [if_neg c47] at h39
        refine go_aload_n (pc := 116) X 0 dX8_readsBidder_116 rfl rfl ?_
        refine go_iconst (pc := 117) X dX8_readsBidder_117 ?_
        refine go_bipush (pc := 118) X dX8_readsBidder_118 (by decide) (by decide) ?_
        obtain ⟨u48, h49, h39⟩ := bind_some h39
        refine go_callVi (pc := 120) X 2 [.int (i32 (3 + (10 * (S 2 2)))), .ref (ad 2)] (ct_X8_needsNumber h49) sh8 rfl gg_X8_270 hd_X8_needsNumber ⟨Nat.le_of_ble_eq_true rfl, Nat.le_of_ble_eq_true rfl⟩ rfl rfl (Nat.le_of_ble_eq_true rfl) dX8_readsBidder_120 ?_
        refine go_goto (pc := 123) X 128 dX8_readsBidder_123 rfl ?_
        cases h39
        refine go_pick [0] (Ls' := [(0, .ref (ad 0))]) rfl ?_
        exact k40
    | inr u32 =>
      have h := lct_r h
      refine lpG_r ?_
      exact h
  · rw [if_pos c2] at h
    refine go_aload_n (pc := 11) X 0 dX8_readsBidder_11 rfl rfl ?_
    refine go_iload_n (pc := 12) X 1 dX8_readsBidder_12 rfl rfl ?_
    obtain ⟨S50, e51, h⟩ := wrk_some h
    refine go_putE (pc := 13) X (fk := 21) (fi := 21) rfl e51 sh8 rfl inT_X8 tyX8_ok nmX8 (by decide) fL_X8_257 rfl rfl rfl rfl rfl dX8_readsBidder_13 ?_
    refine go_aload_n (pc := 16) X 0 dX8_readsBidder_16 rfl rfl ?_
    refine go_iconst (pc := 17) X dX8_readsBidder_17 ?_
    obtain ⟨S52, e53, h⟩ := wrk_some h
    refine go_putE (pc := 18) X (fk := 23) (fi := 23) rfl e53 sh8 rfl inT_X8 tyX8_ok nmX8 (by decide) fL_X8_263 rfl rfl rfl rfl rfl dX8_readsBidder_18 ?_
    exact go_vret (pc := 21) X h dX8_readsBidder_21
set_option maxRecDepth 100000 in
set_option maxHeartbeats 4000000 in
theorem ct_X8_readsOne {l : Launch} {D : va_G} {cI cB : ClassId} {Z : (Nat → Nat) × (Nat → Nat)} {ad : Nat → Nat} {S : Mem} {S' : Mem} (h : f_X8_readsOne S = some S') : Ctr l D cI cB Z ad shsM yX8_readsOne cX8_readsOne 2 none 4 93 [.ref (ad 0)] S (none) S' := by
  refine ctr_of (by decide +kernel) (Nat.le_of_ble_eq_true rfl) rfl ?_
  intro p e s m args below meth c A X
  unfold f_X8_readsOne at h
  refine go_aload_n (pc := 0) X 0 dX8_readsOne_0 rfl rfl ?_
  refine go_get (pc := 1) X (fk := 21) (fi := 21) rfl sh8 rfl inT_X8 (by decide) fL_X8_257 rfl dX8_readsOne_1 ?_
  refine go_istore_n (pc := 4) X [1, 0] (Ls' := [(0, .ref (ad 0)), (1, .int (i32 (S 0 21)))]) dX8_readsOne_4 rfl (by decide) rfl ?_
  refine go_aload_n (pc := 5) X 0 dX8_readsOne_5 rfl rfl ?_
  refine go_iconst (pc := 6) X dX8_readsOne_6 ?_
  obtain ⟨u1, h2, h⟩ := bind_some h
  refine go_callVi (pc := 7) X 1 [] (ct_X8_takesWord h2) sh8 rfl gg_X8_273 hd_X8_takesWord ⟨Nat.le_of_ble_eq_true rfl, Nat.le_of_ble_eq_true rfl⟩ rfl rfl (Nat.le_of_ble_eq_true rfl) dX8_readsOne_7 ?_
  obtain ⟨j3, h4, h⟩ := bind_some h
  have k5 : Go p l e { frames := 4, cells := 0, slots := 0, locals := 93 } s m args below meth c 2 D cI cB ad shsM A (MQ below (cQ D cI cB ad shsM (none) S' A) args s 0 0 A) 74 [(0, .ref (ad 0))] [] j3 := by
    refine go_aload_n (pc := 74) X 0 dX8_readsOne_74 rfl rfl ?_
    refine go_get (pc := 75) X (fk := 23) (fi := 23) rfl sh8 rfl inT_X8 (by decide) fL_X8_263 rfl dX8_readsOne_75 ?_
    refine go_if_eq (pc := 78) X 82 dX8_readsOne_78 rfl (fun c6 => ?_) (fun c6 => ?_)
    · rw [if_pos c6] at h
      refine go_aload_n (pc := 82) X 0 dX8_readsOne_82 rfl rfl ?_
      refine go_get (pc := 83) X (fk := 20) (fi := 20) rfl sh8 rfl inT_X8 (by decide) fL_X8_251 rfl dX8_readsOne_83 ?_
      refine go_iconst (pc := 86) X dX8_readsOne_86 ?_
      refine go_icmp_ne (pc := 87) X 97 dX8_readsOne_87 rfl (fun c7 => ?_) (fun c7 => ?_)
      · rw [if_neg c7] at h
        refine go_aload_n (pc := 97) X 0 dX8_readsOne_97 rfl rfl ?_
        refine go_iconst (pc := 98) X dX8_readsOne_98 ?_
        obtain ⟨S8, e9, h⟩ := wrk_some h
        refine go_putE (pc := 99) X (fk := 23) (fi := 23) rfl e9 sh8 rfl inT_X8 tyX8_ok nmX8 (by decide) fL_X8_263 rfl rfl rfl rfl rfl dX8_readsOne_99 ?_
        exact go_vret (pc := 102) X h dX8_readsOne_102
      · rw [if_pos c7] at h
        refine go_aload_n (pc := 90) X 0 dX8_readsOne_90 rfl rfl ?_
        obtain ⟨S10, h11, h⟩ := bind_some h
        refine go_callVv (pc := 91) X 0 [] (ct_X8_goesOn h11) sh8 rfl gg_X8_267 hd_X8_goesOn ⟨Nat.le_of_ble_eq_true rfl, Nat.le_of_ble_eq_true rfl⟩ rfl rfl (Nat.le_of_ble_eq_true rfl) dX8_readsOne_91 ?_
        refine go_goto (pc := 94) X 102 dX8_readsOne_94 rfl ?_
        exact go_vret (pc := 102) X h dX8_readsOne_102
    · rw [if_neg c6] at h
      exact go_vret (pc := 81) X h dX8_readsOne_81
  refine go_if_eq (pc := 10) X 29 dX8_readsOne_10 rfl (fun c12 => ?_) (fun c12 => ?_)
  · rw [if_pos c12] at h4
    refine go_aload_n (pc := 29) X 0 dX8_readsOne_29 rfl rfl ?_
    refine go_iconst (pc := 30) X dX8_readsOne_30 ?_
    obtain ⟨u13, h14, h4⟩ := bind_some h4
    refine go_callVi (pc := 31) X 1 [] (ct_X8_takesWord h14) sh8 rfl gg_X8_273 hd_X8_takesWord ⟨Nat.le_of_ble_eq_true rfl, Nat.le_of_ble_eq_true rfl⟩ rfl rfl (Nat.le_of_ble_eq_true rfl) dX8_readsOne_31 ?_
    refine go_if_eq (pc := 34) X 53 dX8_readsOne_34 rfl (fun c15 => ?_) (fun c15 => ?_)
    · rw [if_pos c15] at h4
      refine go_aload_n (pc := 53) X 0 dX8_readsOne_53 rfl rfl ?_
      refine go_iconst (pc := 54) X dX8_readsOne_54 ?_
      obtain ⟨u16, h17, h4⟩ := bind_some h4
      refine go_callVi (pc := 55) X 1 [] (ct_X8_takesWord h17) sh8 rfl gg_X8_273 hd_X8_takesWord ⟨Nat.le_of_ble_eq_true rfl, Nat.le_of_ble_eq_true rfl⟩ rfl rfl (Nat.le_of_ble_eq_true rfl) dX8_readsOne_55 ?_
      refine go_if_eq (pc := 58) X 69 dX8_readsOne_58 rfl (fun c18 => ?_) (fun c18 => ?_)
      · rw [if_pos c18] at h4
        refine go_aload_n (pc := 69) X 0 dX8_readsOne_69 rfl rfl ?_
        refine go_iconst (pc := 70) X dX8_readsOne_70 ?_
        obtain ⟨S19, e20, h4⟩ := wrk_some h4
        refine go_putE (pc := 71) X (fk := 23) (fi := 23) rfl e20 sh8 rfl inT_X8 tyX8_ok nmX8 (by decide) fL_X8_263 rfl rfl rfl rfl rfl dX8_readsOne_71 ?_
        cases h4
        refine go_pick [0] (Ls' := [(0, .ref (ad 0))]) rfl ?_
        exact k5
      · rw [if_neg c18] at h4
        refine go_aload_n (pc := 61) X 0 dX8_readsOne_61 rfl rfl ?_
        refine go_iload_n (pc := 62) X 1 dX8_readsOne_62 rfl rfl ?_
        obtain ⟨S21, h22, h4⟩ := bind_some h4
        refine go_callVv (pc := 63) X 1 [] (ct_X8_readsBidder h22) sh8 rfl gg_X8_276 hd_X8_readsBidder ⟨Nat.le_of_ble_eq_true rfl, Nat.le_of_ble_eq_true rfl⟩ rfl rfl (Nat.le_of_ble_eq_true rfl) dX8_readsOne_63 ?_
        refine go_goto (pc := 66) X 74 dX8_readsOne_66 rfl ?_
        cases h4
        refine go_pick [0] (Ls' := [(0, .ref (ad 0))]) rfl ?_
        exact k5
    · rw [if_neg c15] at h4
      refine go_aload_n (pc := 37) X 0 dX8_readsOne_37 rfl rfl ?_
      refine go_getr (pc := 38) X (fk := 2) sh8 rfl inT_X8 (by decide) fL_X8_17 rfl dX8_readsOne_38 ?_
      refine go_iconst (pc := 41) X dX8_readsOne_41 ?_
      refine go_aload_n (pc := 42) X 0 dX8_readsOne_42 rfl rfl ?_
      refine go_iconst (pc := 43) X dX8_readsOne_43 ?_
      refine go_bipush (pc := 44) X dX8_readsOne_44 (by decide) (by decide) ?_
      obtain ⟨u23, h24, h4⟩ := bind_some h4
      refine go_callVi (pc := 46) X 2 [.int (i32 1), .ref (ad 2)] (ct_X8_needsNumber h24) sh8 rfl gg_X8_270 hd_X8_needsNumber ⟨Nat.le_of_ble_eq_true rfl, Nat.le_of_ble_eq_true rfl⟩ rfl rfl (Nat.le_of_ble_eq_true rfl) dX8_readsOne_46 ?_
      obtain ⟨g25, h4⟩ := gd_some h4
      obtain ⟨S26, e27, h4⟩ := wrk_some h4
      refine go_iastE (pc := 49) X e27 shM2 (Nat.le_of_ble_eq_true rfl) rfl g25 dX8_readsOne_49 ?_
      refine go_goto (pc := 50) X 74 dX8_readsOne_50 rfl ?_
      cases h4
      refine go_pick [0] (Ls' := [(0, .ref (ad 0))]) rfl ?_
      exact k5
  · rw [if_neg c12] at h4
    refine go_aload_n (pc := 13) X 0 dX8_readsOne_13 rfl rfl ?_
    refine go_getr (pc := 14) X (fk := 2) sh8 rfl inT_X8 (by decide) fL_X8_17 rfl dX8_readsOne_14 ?_
    refine go_iconst (pc := 17) X dX8_readsOne_17 ?_
    refine go_aload_n (pc := 18) X 0 dX8_readsOne_18 rfl rfl ?_
    refine go_iconst (pc := 19) X dX8_readsOne_19 ?_
    refine go_bipush (pc := 20) X dX8_readsOne_20 (by decide) (by decide) ?_
    obtain ⟨u28, h29, h4⟩ := bind_some h4
    refine go_callVi (pc := 22) X 2 [.int (i32 0), .ref (ad 2)] (ct_X8_needsNumber h29) sh8 rfl gg_X8_270 hd_X8_needsNumber ⟨Nat.le_of_ble_eq_true rfl, Nat.le_of_ble_eq_true rfl⟩ rfl rfl (Nat.le_of_ble_eq_true rfl) dX8_readsOne_22 ?_
    obtain ⟨g30, h4⟩ := gd_some h4
    obtain ⟨S31, e32, h4⟩ := wrk_some h4
    refine go_iastE (pc := 25) X e32 shM2 (Nat.le_of_ble_eq_true rfl) rfl g30 dX8_readsOne_25 ?_
    refine go_goto (pc := 26) X 74 dX8_readsOne_26 rfl ?_
    cases h4
    refine go_pick [0] (Ls' := [(0, .ref (ad 0))]) rfl ?_
    exact k5
set_option maxRecDepth 100000 in
set_option maxHeartbeats 4000000 in
theorem ct_X8_text {l : Launch} {D : va_G} {cI cB : ClassId} {Z : (Nat → Nat) × (Nat → Nat)} {ad : Nat → Nat} {S : Mem} {r : Int} {S' : Mem} (h : f_X8_text S = some (r, S')) : Ctr l D cI cB Z ad shsM yX8_text cX8_text 2 (some .int) 5 114 [.ref (ad 0)] S (some (.int (i32 r))) S' := by
  refine ctr_of (by decide +kernel) (Nat.le_of_ble_eq_true rfl) rfl ?_
  intro p e s m args below meth c A X
  unfold f_X8_text at h
  refine go_aload_n (pc := 0) X 0 dX8_text_0 rfl rfl ?_
  refine go_getr (pc := 1) X (fk := 2) sh8 rfl inT_X8 (by decide) fL_X8_17 rfl dX8_text_1 ?_
  obtain ⟨S1, h2, h⟩ := bind_some h
  refine go_callSv (pc := 4) X 1 [] (ct_X8_starts rw2 h2) gg_X8_54 hd_X8_starts ⟨Nat.le_of_ble_eq_true rfl, Nat.le_of_ble_eq_true rfl⟩ rfl rfl (Nat.le_of_ble_eq_true rfl) dX8_text_4 ?_
  refine go_aload_n (pc := 7) X 0 dX8_text_7 rfl rfl ?_
  refine go_iconst (pc := 8) X dX8_text_8 ?_
  obtain ⟨S3, e4, h⟩ := wrk_some h
  refine go_putE (pc := 9) X (fk := 19) (fi := 19) rfl e4 sh8 rfl inT_X8 tyX8_ok nmX8 (by decide) fL_X8_248 rfl rfl rfl rfl rfl dX8_text_9 ?_
  refine go_aload_n (pc := 12) X 0 dX8_text_12 rfl rfl ?_
  refine go_iconst (pc := 13) X dX8_text_13 ?_
  obtain ⟨S5, e6, h⟩ := wrk_some h
  refine go_putE (pc := 14) X (fk := 20) (fi := 20) rfl e6 sh8 rfl inT_X8 tyX8_ok nmX8 (by decide) fL_X8_251 rfl rfl rfl rfl rfl dX8_text_14 ?_
  refine go_aload_n (pc := 17) X 0 dX8_text_17 rfl rfl ?_
  refine go_iconst (pc := 18) X dX8_text_18 ?_
  obtain ⟨S7, e8, h⟩ := wrk_some h
  refine go_putE (pc := 19) X (fk := 23) (fi := 23) rfl e8 sh8 rfl inT_X8 tyX8_ok nmX8 (by decide) fL_X8_263 rfl rfl rfl rfl rfl dX8_text_19 ?_
  refine go_aload_n (pc := 22) X 0 dX8_text_22 rfl rfl ?_
  obtain ⟨S9, h10, h⟩ := bind_some h
  refine go_callVv (pc := 23) X 0 [] (ct_X8_goesOn h10) sh8 rfl gg_X8_267 hd_X8_goesOn ⟨Nat.le_of_ble_eq_true rfl, Nat.le_of_ble_eq_true rfl⟩ rfl rfl (Nat.le_of_ble_eq_true rfl) dX8_text_23 ?_
  obtain ⟨r15, h16, h⟩ := bind_some h
  have H17 : ∀ (n : Nat) (t18 : Mem) (z19 : Mem), lp (f_X8_text_l26) n t18 = some z19 → Go p l e { frames := 5, cells := 0, slots := 0, locals := 114 } s m args below meth c 2 D cI cB ad shsM A (MQ below (cQ D cI cB ad shsM (some (.int (i32 r))) S' A) args s 0 0 A) 47 [(0, .ref (ad 0))] [] z19 → Go p l e { frames := 5, cells := 0, slots := 0, locals := 114 } s m args below meth c 2 D cI cB ad shsM A (MQ below (cQ D cI cB ad shsM (some (.int (i32 r))) S' A) args s 0 0 A) 26 [(0, .ref (ad 0))] [] t18 := by
    refine lp_go (fun t18 : Mem => Go p l e { frames := 5, cells := 0, slots := 0, locals := 114 } s m args below meth c 2 D cI cB ad shsM A (MQ below (cQ D cI cB ad shsM (some (.int (i32 r))) S' A) args s 0 0 A) 26 [(0, .ref (ad 0))] [] t18) (fun z19 : Mem => Go p l e { frames := 5, cells := 0, slots := 0, locals := 114 } s m args below meth c 2 D cI cB ad shsM A (MQ below (cQ D cI cB ad shsM (some (.int (i32 r))) S' A) args s 0 0 A) 47 [(0, .ref (ad 0))] [] z19) ?_
    intro t18 x20 h hx21
    unfold f_X8_text_l26 at h
    refine go_aload_n (pc := 26) X 0 dX8_text_26 rfl rfl ?_
    refine go_get (pc := 27) X (fk := 23) (fi := 23) rfl sh8 rfl inT_X8 (by decide) fL_X8_263 rfl dX8_text_27 ?_
    refine go_if_ne (pc := 30) X 47 dX8_text_30 rfl (fun c23 => ?_) (fun c23 => ?_)
    · rw [if_neg c23] at h
      exact lp_back h hx21
    · rw [if_pos c23] at h
      refine go_aload_n (pc := 33) X 0 dX8_text_33 rfl rfl ?_
      refine go_get (pc := 34) X (fk := 20) (fi := 20) rfl sh8 rfl inT_X8 (by decide) fL_X8_251 rfl dX8_text_34 ?_
      refine go_if_eq (pc := 37) X 47 dX8_text_37 rfl (fun c24 => ?_) (fun c24 => ?_)
      · rw [if_pos c24] at h
        exact lp_back h hx21
      · rw [if_neg c24] at h
        refine go_aload_n (pc := 40) X 0 dX8_text_40 rfl rfl ?_
        obtain ⟨S25, h26, h⟩ := bind_some h
        refine go_callVv (pc := 41) X 0 [] (ct_X8_readsOne h26) sh8 rfl gg_X8_279 hd_X8_readsOne ⟨Nat.le_of_ble_eq_true rfl, Nat.le_of_ble_eq_true rfl⟩ rfl rfl (Nat.le_of_ble_eq_true rfl) dX8_text_41 ?_
        refine go_goto (pc := 44) X 26 dX8_text_44 rfl ?_
        exact lp_back h hx21
  refine H17 FU S9 r15 h16 ?_
  refine go_aload_n (pc := 47) X 0 dX8_text_47 rfl rfl ?_
  refine go_iconst (pc := 48) X dX8_text_48 ?_
  obtain ⟨S27, e28, h⟩ := wrk_some h
  refine go_putE (pc := 49) X (fk := 17) (fi := 17) rfl e28 sh8 rfl inT_X8 tyX8_ok nmX8 (by decide) fL_X8_239 rfl rfl rfl rfl rfl dX8_text_49 ?_
  refine go_aload_n (pc := 52) X 0 dX8_text_52 rfl rfl ?_
  refine go_get (pc := 53) X (fk := 23) (fi := 23) rfl sh8 rfl inT_X8 (by decide) fL_X8_263 rfl dX8_text_53 ?_
  refine go_if_eq (pc := 56) X 67 dX8_text_56 rfl (fun c29 => ?_) (fun c29 => ?_)
  · rw [if_pos c29] at h
    refine go_iconst (pc := 67) X dX8_text_67 ?_
    refine go_istore_n (pc := 68) X [1, 0] (Ls' := [(0, .ref (ad 0)), (1, .int (i32 0))]) dX8_text_68 rfl (by decide) rfl ?_
    obtain ⟨r34, h35, h⟩ := bind_some h
    have H36 : ∀ (n : Nat) (t37 : Int × Mem) (z38 : Mem), lp (f_X8_text_l69) n t37 = some z38 → Go p l e { frames := 5, cells := 0, slots := 0, locals := 114 } s m args below meth c 2 D cI cB ad shsM A (MQ below (cQ D cI cB ad shsM (some (.int (i32 r))) S' A) args s 0 0 A) 93 [(0, .ref (ad 0))] [] z38 → Go p l e { frames := 5, cells := 0, slots := 0, locals := 114 } s m args below meth c 2 D cI cB ad shsM A (MQ below (cQ D cI cB ad shsM (some (.int (i32 r))) S' A) args s 0 0 A) 69 [(0, .ref (ad 0)), (1, .int (i32 t37.1))] [] t37.2 := by
      refine lp_go (fun t37 : Int × Mem => Go p l e { frames := 5, cells := 0, slots := 0, locals := 114 } s m args below meth c 2 D cI cB ad shsM A (MQ below (cQ D cI cB ad shsM (some (.int (i32 r))) S' A) args s 0 0 A) 69 [(0, .ref (ad 0)), (1, .int (i32 t37.1))] [] t37.2) (fun z38 : Mem => Go p l e { frames := 5, cells := 0, slots := 0, locals := 114 } s m args below meth c 2 D cI cB ad shsM A (MQ below (cQ D cI cB ad shsM (some (.int (i32 r))) S' A) args s 0 0 A) 93 [(0, .ref (ad 0))] [] z38) ?_
      intro t37 x39 h hx40
      unfold f_X8_text_l69 at h
      refine go_iload_n (pc := 69) X 1 dX8_text_69 rfl rfl ?_
      refine go_bipush (pc := 70) X dX8_text_70 (by decide) (by decide) ?_
      refine go_icmp_ge (pc := 72) X 93 dX8_text_72 rfl (fun c42 => ?_) (fun c42 => ?_)
      · rw [if_neg c42] at h
        refine go_pick [0] (Ls' := [(0, .ref (ad 0))]) rfl ?_
        exact lp_back h hx40
      · rw [if_pos c42] at h
        refine go_aload_n (pc := 75) X 0 dX8_text_75 rfl rfl ?_
        refine go_getr (pc := 76) X (fk := 1) sh8 rfl inT_X8 (by decide) fL_X8_13 rfl dX8_text_76 ?_
        refine go_iload_n (pc := 79) X 1 dX8_text_79 rfl rfl ?_
        refine go_aload_n (pc := 80) X 0 dX8_text_80 rfl rfl ?_
        refine go_getr (pc := 81) X (fk := 2) sh8 rfl inT_X8 (by decide) fL_X8_17 rfl dX8_text_81 ?_
        refine go_iload_n (pc := 84) X 1 dX8_text_84 rfl rfl ?_
        obtain ⟨g43, h⟩ := gd_some h
        refine go_iald (pc := 85) X shM2 (Nat.le_of_ble_eq_true rfl) rfl g43 dX8_text_85 ?_
        obtain ⟨S44, e45, h⟩ := wrk_some h
        refine go_iastE (pc := 86) X e45 shM1 (Nat.le_of_ble_eq_true rfl) rfl g43 dX8_text_86 ?_
        refine go_iinc (pc := 87) X [1, 0] 1 (Ls' := [(0, .ref (ad 0)), (1, .int (i32 (t37.1 + 1)))]) dX8_text_87 rfl (by decide) rfl ?_
        refine go_goto (pc := 90) X 69 dX8_text_90 rfl ?_
        exact lp_back h hx40
    refine H36 FU (0, S27) r34 h35 ?_
    refine go_aload_n (pc := 93) X 0 dX8_text_93 rfl rfl ?_
    refine go_iconst (pc := 94) X dX8_text_94 ?_
    obtain ⟨S46, e47, h⟩ := wrk_some h
    refine go_putE (pc := 95) X (fk := 5) (fi := 5) rfl e47 sh8 rfl inT_X8 tyX8_ok nmX8 (by decide) fL_X8_58 rfl rfl rfl rfl rfl dX8_text_95 ?_
    refine go_aload_n (pc := 98) X 0 dX8_text_98 rfl rfl ?_
    obtain ⟨r48, h49, h⟩ := bind_some h
    refine go_callVi (pc := 99) X 0 [] (ct_X8_many h49) sh8 rfl gg_X8_61 hd_X8_many ⟨Nat.le_of_ble_eq_true rfl, Nat.le_of_ble_eq_true rfl⟩ rfl rfl (Nat.le_of_ble_eq_true rfl) dX8_text_99 ?_
    exact go_iret (pc := 102) X h dX8_text_102
  · rw [if_neg c29] at h
    refine go_bipush (pc := 59) X dX8_text_59 (by decide) (by decide) ?_
    refine go_aload_n (pc := 61) X 0 dX8_text_61 rfl rfl ?_
    refine go_get (pc := 62) X (fk := 21) (fi := 21) rfl sh8 rfl inT_X8 (by decide) fL_X8_257 rfl dX8_text_62 ?_
    refine go_isub (pc := 65) X dX8_text_65 ?_
    exact go_iret (pc := 66) X h dX8_text_66
