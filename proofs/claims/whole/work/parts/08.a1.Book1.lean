set_option maxRecDepth 100000 in
set_option maxHeartbeats 4000000 in
theorem ct_X1_stepPrice {l : Launch} {D : va_G} {cI cB : ClassId} {Z : (Nat → Nat) × (Nat → Nat)} {ad : Nat → Nat} {S : Mem} {th : Nat} {a1 : Int} {r : Int} (ho : isBk th) (h : f_X1_stepPrice S th a1 = some r) : Ctr l D cI cB Z ad shsC yX1_stepPrice cX1_stepPrice 6 (some .int) 4 90 [.ref (ad th), .int (i32 a1)] S (some (.int (i32 r))) S := by
  refine ctr_of (by decide +kernel) (Nat.le_of_ble_eq_true rfl) rfl ?_
  intro p e s m args below meth c A X
  unfold f_X1_stepPrice at h
  refine go_iload_n (pc := 0) X 1 dX1_stepPrice_0 rfl rfl ?_
  refine go_istore_n (pc := 1) X [1, 2, 0] (Ls' := [(0, .ref (ad th)), (1, .int (i32 a1)), (2, .int (i32 a1))]) dX1_stepPrice_1 rfl (by decide) rfl ?_
  refine go_aload_n (pc := 2) X 0 dX1_stepPrice_2 rfl rfl ?_
  obtain ⟨r1, h2, h⟩ := bind_some h
  refine go_callVi (pc := 3) X 0 [] (ct_X1_usableByAll ho h2) (shB ho) rfl gg_X1_91 hd_X1_usableByAll ⟨Nat.le_of_ble_eq_true rfl, Nat.le_of_ble_eq_true rfl⟩ rfl rfl (Nat.le_of_ble_eq_true rfl) dX1_stepPrice_3 ?_
  refine go_istore_n (pc := 6) X [1, 2, 3, 0] (Ls' := [(0, .ref (ad th)), (1, .int (i32 a1)), (2, .int (i32 a1)), (3, .int (i32 r1))]) dX1_stepPrice_6 rfl (by decide) rfl ?_
  refine go_iconst (pc := 7) X dX1_stepPrice_7 ?_
  refine go_istore (pc := 8) X [1, 2, 3, 4, 0] (Ls' := [(0, .ref (ad th)), (1, .int (i32 a1)), (2, .int (i32 a1)), (3, .int (i32 r1)), (4, .int (i32 0))]) dX1_stepPrice_8 (by decide) rfl ?_
  obtain ⟨r16, h17, h⟩ := bind_some h
  have H18 : ∀ (n : Nat) (t19 : Int × Int × Int) (z20 : (Unit) ⊕ (Int)), lp (f_X1_stepPrice_l10 S th) n t19 = some z20 → lpG (fun z23 : Unit => Go p l e { frames := 4, cells := 0, slots := 0, locals := 90 } s m args below meth c 6 D cI cB ad shsC A (MQ below (cQ D cI cB ad shsC (some (.int (i32 r))) S A) args s 0 0 A) 56 [] [] S) (fun u : Int => some u = some r) z20 → Go p l e { frames := 4, cells := 0, slots := 0, locals := 90 } s m args below meth c 6 D cI cB ad shsC A (MQ below (cQ D cI cB ad shsC (some (.int (i32 r))) S A) args s 0 0 A) 10 [(0, .ref (ad th)), (2, .int (i32 t19.1)), (3, .int (i32 t19.2.1)), (4, .int (i32 t19.2.2))] [] S := by
    refine lp_go (fun t19 : Int × Int × Int => Go p l e { frames := 4, cells := 0, slots := 0, locals := 90 } s m args below meth c 6 D cI cB ad shsC A (MQ below (cQ D cI cB ad shsC (some (.int (i32 r))) S A) args s 0 0 A) 10 [(0, .ref (ad th)), (2, .int (i32 t19.1)), (3, .int (i32 t19.2.1)), (4, .int (i32 t19.2.2))] [] S) (fun z20 : (Unit) ⊕ (Int) => lpG (fun z23 : Unit => Go p l e { frames := 4, cells := 0, slots := 0, locals := 90 } s m args below meth c 6 D cI cB ad shsC A (MQ below (cQ D cI cB ad shsC (some (.int (i32 r))) S A) args s 0 0 A) 56 [] [] S) (fun u : Int => some u = some r) z20) ?_
    intro t19 x21 h hx22
    unfold f_X1_stepPrice_l10 at h
    refine go_iload (pc := 10) X 3 dX1_stepPrice_10 rfl ?_
    refine go_bipush (pc := 12) X dX1_stepPrice_12 (by decide) (by decide) ?_
    refine go_icmp_gt (pc := 14) X 56 dX1_stepPrice_14 rfl (fun c24 => ?_) (fun c24 => ?_)
    · rw [if_pos c24] at h
      refine go_pick [] (Ls' := []) rfl ?_
      exact lp_back h hx22
    · rw [if_neg c24] at h
      refine go_aload_n (pc := 17) X 0 dX1_stepPrice_17 rfl rfl ?_
      refine go_iload (pc := 18) X 3 dX1_stepPrice_18 rfl ?_
      obtain ⟨r25, h26, h⟩ := bind_some h
      refine go_callVi (pc := 20) X 1 [] (ct_X1_wantsOfAll ho h26) (shB ho) rfl gg_X1_87 hd_X1_wantsOfAll ⟨Nat.le_of_ble_eq_true rfl, Nat.le_of_ble_eq_true rfl⟩ rfl rfl (Nat.le_of_ble_eq_true rfl) dX1_stepPrice_20 ?_
      refine go_istore (pc := 23) X [1, 2, 3, 4, 0] (Ls' := [(0, .ref (ad th)), (2, .int (i32 t19.1)), (3, .int (i32 t19.2.1)), (4, .int (i32 t19.2.2)), (5, .int (i32 r25))]) dX1_stepPrice_23 (by decide) rfl ?_
      refine go_iload (pc := 25) X 4 dX1_stepPrice_25 rfl ?_
      refine go_iload_n (pc := 27) X 2 dX1_stepPrice_27 rfl rfl ?_
      refine go_icmp_ge (pc := 28) X 38 dX1_stepPrice_28 rfl (fun c27 => ?_) (fun c27 => ?_)
      · rw [if_neg c27] at h
        refine go_iload (pc := 38) X 4 dX1_stepPrice_38 rfl ?_
        refine go_iload_n (pc := 40) X 2 dX1_stepPrice_40 rfl rfl ?_
        obtain ⟨j28, h29, h⟩ := bind_some h
        have k30 : Go p l e { frames := 4, cells := 0, slots := 0, locals := 90 } s m args below meth c 6 D cI cB ad shsC A (MQ below (cQ D cI cB ad shsC (some (.int (i32 r))) S A) args s 0 0 A) 47 [(0, .ref (ad th)), (2, .int (i32 j28)), (4, .int (i32 t19.2.2)), (5, .int (i32 r25))] [] S := by
          refine go_iload (pc := 47) X 3 dX1_stepPrice_47 rfl ?_
          refine go_istore_n (pc := 49) X [1, 2, 0, 3, 4] (Ls' := [(0, .ref (ad th)), (2, .int (i32 j28)), (3, .int (i32 r25)), (4, .int (i32 t19.2.2)), (5, .int (i32 r25))]) dX1_stepPrice_49 rfl (by decide) rfl ?_
          refine go_iinc (pc := 50) X [1, 2, 3, 0, 4] 3 (Ls' := [(0, .ref (ad th)), (2, .int (i32 j28)), (3, .int (i32 r25)), (4, .int (i32 (t19.2.2 + 1))), (5, .int (i32 r25))]) dX1_stepPrice_50 rfl (by decide) rfl ?_
          refine go_goto (pc := 53) X 10 dX1_stepPrice_53 rfl ?_
          refine go_pick [0, 1, 2, 3] (Ls' := [(0, .ref (ad th)), (2, .int (i32 j28)), (3, .int (i32 r25)), (4, .int (i32 (t19.2.2 + 1)))]) rfl ?_
          exact lp_back h hx22
        refine go_icmp_ge (pc := 41) X 47 dX1_stepPrice_41 rfl (fun c31 => ?_) (fun c31 => ?_)
        · rw [if_neg c31] at h29
          cases h29
          refine go_pick [0, 1, 3, 4] (Ls' := [(0, .ref (ad th)), (2, .int (i32 t19.1)), (4, .int (i32 t19.2.2)), (5, .int (i32 r25))]) rfl ?_
          exact k30
        · rw [if_pos c31] at h29
          refine go_iinc (pc := 44) X [1, 0, 2, 3, 4] 1 (Ls' := [(0, .ref (ad th)), (2, .int (i32 (t19.1 + (-1)))), (3, .int (i32 t19.2.1)), (4, .int (i32 t19.2.2)), (5, .int (i32 r25))]) dX1_stepPrice_44 rfl (by decide) rfl ?_
          cases h29
          refine go_pick [0, 1, 3, 4] (Ls' := [(0, .ref (ad th)), (2, .int (i32 (t19.1 + (-1)))), (4, .int (i32 t19.2.2)), (5, .int (i32 r25))]) rfl ?_
          exact k30
      · rw [if_pos c27] at h
        refine go_iload_n (pc := 31) X 1 dX1_stepPrice_31 rfl rfl ?_
        refine go_if_ne (pc := 32) X 38 dX1_stepPrice_32 rfl (fun c32 => ?_) (fun c32 => ?_)
        · rw [if_neg c32] at h
          refine go_iload (pc := 38) X 4 dX1_stepPrice_38 rfl ?_
          refine go_iload_n (pc := 40) X 2 dX1_stepPrice_40 rfl rfl ?_
          obtain ⟨j33, h34, h⟩ := bind_some h
          have k35 : Go p l e { frames := 4, cells := 0, slots := 0, locals := 90 } s m args below meth c 6 D cI cB ad shsC A (MQ below (cQ D cI cB ad shsC (some (.int (i32 r))) S A) args s 0 0 A) 47 [(0, .ref (ad th)), (2, .int (i32 j33)), (4, .int (i32 t19.2.2)), (5, .int (i32 r25))] [] S := by
            refine go_iload (pc := 47) X 3 dX1_stepPrice_47 rfl ?_
            refine go_istore_n (pc := 49) X [1, 2, 0, 3, 4] (Ls' := [(0, .ref (ad th)), (2, .int (i32 j33)), (3, .int (i32 r25)), (4, .int (i32 t19.2.2)), (5, .int (i32 r25))]) dX1_stepPrice_49 rfl (by decide) rfl ?_
            refine go_iinc (pc := 50) X [1, 2, 3, 0, 4] 3 (Ls' := [(0, .ref (ad th)), (2, .int (i32 j33)), (3, .int (i32 r25)), (4, .int (i32 (t19.2.2 + 1))), (5, .int (i32 r25))]) dX1_stepPrice_50 rfl (by decide) rfl ?_
            refine go_goto (pc := 53) X 10 dX1_stepPrice_53 rfl ?_
            refine go_pick [0, 1, 2, 3] (Ls' := [(0, .ref (ad th)), (2, .int (i32 j33)), (3, .int (i32 r25)), (4, .int (i32 (t19.2.2 + 1)))]) rfl ?_
            exact lp_back h hx22
          refine go_icmp_ge (pc := 41) X 47 dX1_stepPrice_41 rfl (fun c36 => ?_) (fun c36 => ?_)
          · rw [if_neg c36] at h34
            cases h34
            refine go_pick [0, 1, 3, 4] (Ls' := [(0, .ref (ad th)), (2, .int (i32 t19.1)), (4, .int (i32 t19.2.2)), (5, .int (i32 r25))]) rfl ?_
            exact k35
          · rw [if_pos c36] at h34
            refine go_iinc (pc := 44) X [1, 0, 2, 3, 4] 1 (Ls' := [(0, .ref (ad th)), (2, .int (i32 (t19.1 + (-1)))), (3, .int (i32 t19.2.1)), (4, .int (i32 t19.2.2)), (5, .int (i32 r25))]) dX1_stepPrice_44 rfl (by decide) rfl ?_
            cases h34
            refine go_pick [0, 1, 3, 4] (Ls' := [(0, .ref (ad th)), (2, .int (i32 (t19.1 + (-1)))), (4, .int (i32 t19.2.2)), (5, .int (i32 r25))]) rfl ?_
            exact k35
        · rw [if_pos c32] at h
          refine go_iload (pc := 35) X 3 dX1_stepPrice_35 rfl ?_
          exact go_iretP (pc := 37) X (lp_back h hx22) dX1_stepPrice_37
  refine go_pick [0, 2, 3, 4] (Ls' := [(0, .ref (ad th)), (2, .int (i32 a1)), (3, .int (i32 r1)), (4, .int (i32 0))]) rfl ?_
  refine H18 FU (a1, r1, 0) r16 h17 ?_
  cases r16 with
  | inl r37 =>
    have h := lct_l h
    refine lpG_l ?_
    refine go_iconst (pc := 56) X dX1_stepPrice_56 ?_
    exact go_iretP (pc := 57) X h dX1_stepPrice_57
  | inr u38 =>
    have h := lct_r h
    refine lpG_r ?_
    exact h
set_option maxRecDepth 100000 in
set_option maxHeartbeats 4000000 in
theorem ct_X1_wantingAt {l : Launch} {D : va_G} {cI cB : ClassId} {Z : (Nat → Nat) × (Nat → Nat)} {ad : Nat → Nat} {S : Mem} {th : Nat} {a1 : Int} {r : Int} (ho : isBk th) (h : f_X1_wantingAt S th a1 = some r) : Ctr l D cI cB Z ad shsC yX1_wantingAt cX1_wantingAt 4 (some .int) 3 67 [.ref (ad th), .int (i32 a1)] S (some (.int (i32 r))) S := by
  refine ctr_of (by decide +kernel) (Nat.le_of_ble_eq_true rfl) rfl ?_
  intro p e s m args below meth c A X
  unfold f_X1_wantingAt at h
  refine go_iconst (pc := 0) X dX1_wantingAt_0 ?_
  refine go_istore_n (pc := 1) X [1, 2, 0] (Ls' := [(0, .ref (ad th)), (1, .int (i32 a1)), (2, .int (i32 0))]) dX1_wantingAt_1 rfl (by decide) rfl ?_
  refine go_iconst (pc := 2) X dX1_wantingAt_2 ?_
  refine go_istore_n (pc := 3) X [1, 2, 3, 0] (Ls' := [(0, .ref (ad th)), (1, .int (i32 a1)), (2, .int (i32 0)), (3, .int (i32 0))]) dX1_wantingAt_3 rfl (by decide) rfl ?_
  obtain ⟨r8, h9, h⟩ := bind_some h
  have H10 : ∀ (n : Nat) (t11 : Int × Int) (z12 : Int), lp (f_X1_wantingAt_l4 S th a1) n t11 = some z12 → Go p l e { frames := 3, cells := 0, slots := 0, locals := 67 } s m args below meth c 4 D cI cB ad shsC A (MQ below (cQ D cI cB ad shsC (some (.int (i32 r))) S A) args s 0 0 A) 30 [(2, .int (i32 z12))] [] S → Go p l e { frames := 3, cells := 0, slots := 0, locals := 67 } s m args below meth c 4 D cI cB ad shsC A (MQ below (cQ D cI cB ad shsC (some (.int (i32 r))) S A) args s 0 0 A) 4 [(0, .ref (ad th)), (1, .int (i32 a1)), (2, .int (i32 t11.1)), (3, .int (i32 t11.2))] [] S := by
    refine lp_go (fun t11 : Int × Int => Go p l e { frames := 3, cells := 0, slots := 0, locals := 67 } s m args below meth c 4 D cI cB ad shsC A (MQ below (cQ D cI cB ad shsC (some (.int (i32 r))) S A) args s 0 0 A) 4 [(0, .ref (ad th)), (1, .int (i32 a1)), (2, .int (i32 t11.1)), (3, .int (i32 t11.2))] [] S) (fun z12 : Int => Go p l e { frames := 3, cells := 0, slots := 0, locals := 67 } s m args below meth c 4 D cI cB ad shsC A (MQ below (cQ D cI cB ad shsC (some (.int (i32 r))) S A) args s 0 0 A) 30 [(2, .int (i32 z12))] [] S) ?_
    intro t11 x13 h hx14
    unfold f_X1_wantingAt_l4 at h
    refine go_iload_n (pc := 4) X 3 dX1_wantingAt_4 rfl rfl ?_
    refine go_aload_n (pc := 5) X 0 dX1_wantingAt_5 rfl rfl ?_
    refine go_get (pc := 6) X (fk := 2) (fi := 2) rfl (shB ho) rfl inT_X1 (by decide) fL_X1_18 rfl dX1_wantingAt_6 ?_
    refine go_icmp_ge (pc := 9) X 30 dX1_wantingAt_9 rfl (fun c16 => ?_) (fun c16 => ?_)
    · rw [if_neg c16] at h
      refine go_pick [2] (Ls' := [(2, .int (i32 t11.1))]) rfl ?_
      exact lp_back h hx14
    · rw [if_pos c16] at h
      refine go_aload_n (pc := 12) X 0 dX1_wantingAt_12 rfl rfl ?_
      refine go_iload_n (pc := 13) X 3 dX1_wantingAt_13 rfl rfl ?_
      refine go_iload_n (pc := 14) X 1 dX1_wantingAt_14 rfl rfl ?_
      obtain ⟨r17, h18, h⟩ := bind_some h
      refine go_callVi (pc := 15) X 2 [] (ct_X1_wantsOf ho h18) (shB ho) rfl gg_X1_84 hd_X1_wantsOf ⟨Nat.le_of_ble_eq_true rfl, Nat.le_of_ble_eq_true rfl⟩ rfl rfl (Nat.le_of_ble_eq_true rfl) dX1_wantingAt_15 ?_
      obtain ⟨j19, h20, h⟩ := bind_some h
      have k21 : Go p l e { frames := 3, cells := 0, slots := 0, locals := 67 } s m args below meth c 4 D cI cB ad shsC A (MQ below (cQ D cI cB ad shsC (some (.int (i32 r))) S A) args s 0 0 A) 24 [(0, .ref (ad th)), (1, .int (i32 a1)), (2, .int (i32 j19)), (3, .int (i32 t11.2))] [] S := by
        refine go_iinc (pc := 24) X [1, 2, 3, 0] 3 (Ls' := [(0, .ref (ad th)), (1, .int (i32 a1)), (2, .int (i32 j19)), (3, .int (i32 (t11.2 + 1)))]) dX1_wantingAt_24 rfl (by decide) rfl ?_
        refine go_goto (pc := 27) X 4 dX1_wantingAt_27 rfl ?_
        exact lp_back h hx14
      refine go_if_le (pc := 18) X 24 dX1_wantingAt_18 rfl (fun c22 => ?_) (fun c22 => ?_)
      · rw [if_neg c22] at h20
        cases h20
        exact k21
      · rw [if_pos c22] at h20
        refine go_iinc (pc := 21) X [1, 2, 0, 3] 2 (Ls' := [(0, .ref (ad th)), (1, .int (i32 a1)), (2, .int (i32 (t11.1 + 1))), (3, .int (i32 t11.2))]) dX1_wantingAt_21 rfl (by decide) rfl ?_
        cases h20
        exact k21
  refine H10 FU (0, 0) r8 h9 ?_
  refine go_iload_n (pc := 30) X 0 dX1_wantingAt_30 rfl rfl ?_
  exact go_iretP (pc := 31) X h dX1_wantingAt_31
set_option maxRecDepth 100000 in
set_option maxHeartbeats 4000000 in
theorem ct_X1_merge {l : Launch} {D : va_G} {cI cB : ClassId} {Z : (Nat → Nat) × (Nat → Nat)} {ad : Nat → Nat} {S : Mem} {th : Nat} {a1 : Int} {a2 : Int} {S' : Mem} (ho : isBk th) (h : f_X1_merge S th a1 a2 = some S') : Ctr l D cI cB Z ad shsC yX1_merge cX1_merge 4 none 2 45 [.ref (ad th), .int (i32 a1), .int (i32 a2)] S (none) S' := by
  refine ctr_of (by decide +kernel) (Nat.le_of_ble_eq_true rfl) rfl ?_
  intro p e s m args below meth c A X
  unfold f_X1_merge at h
  refine go_iconst (pc := 0) X dX1_merge_0 ?_
  refine go_istore_n (pc := 1) X [1, 2, 3, 0] (Ls' := [(0, .ref (ad th)), (1, .int (i32 a1)), (2, .int (i32 a2)), (3, .int (i32 0))]) dX1_merge_1 rfl (by decide) rfl ?_
  obtain ⟨r7, h8, h⟩ := bind_some h
  have H9 : ∀ (n : Nat) (t10 : Int × Mem) (z11 : Mem), lp (f_X1_merge_l2 th a1 a2) n t10 = some z11 → Go p l e { frames := 2, cells := 0, slots := 0, locals := 45 } s m args below meth c 4 D cI cB ad shsC A (MQ below (cQ D cI cB ad shsC (none) S' A) args s 0 0 A) 29 [(0, .ref (ad th)), (1, .int (i32 a1)), (2, .int (i32 a2))] [] z11 → Go p l e { frames := 2, cells := 0, slots := 0, locals := 45 } s m args below meth c 4 D cI cB ad shsC A (MQ below (cQ D cI cB ad shsC (none) S' A) args s 0 0 A) 2 [(0, .ref (ad th)), (1, .int (i32 a1)), (2, .int (i32 a2)), (3, .int (i32 t10.1))] [] t10.2 := by
    refine lp_go (fun t10 : Int × Mem => Go p l e { frames := 2, cells := 0, slots := 0, locals := 45 } s m args below meth c 4 D cI cB ad shsC A (MQ below (cQ D cI cB ad shsC (none) S' A) args s 0 0 A) 2 [(0, .ref (ad th)), (1, .int (i32 a1)), (2, .int (i32 a2)), (3, .int (i32 t10.1))] [] t10.2) (fun z11 : Mem => Go p l e { frames := 2, cells := 0, slots := 0, locals := 45 } s m args below meth c 4 D cI cB ad shsC A (MQ below (cQ D cI cB ad shsC (none) S' A) args s 0 0 A) 29 [(0, .ref (ad th)), (1, .int (i32 a1)), (2, .int (i32 a2))] [] z11) ?_
    intro t10 x12 h hx13
    unfold f_X1_merge_l2 at h
    refine go_iload_n (pc := 2) X 3 dX1_merge_2 rfl rfl ?_
    refine go_aload_n (pc := 3) X 0 dX1_merge_3 rfl rfl ?_
    refine go_getr (pc := 4) X (fk := 3) (shB ho) rfl inT_X1 (by decide) fL_X1_21 rfl dX1_merge_4 ?_
    refine go_iload_n (pc := 7) X 2 dX1_merge_7 rfl rfl ?_
    obtain ⟨g15, h⟩ := gd_some h
    refine go_iald (pc := 8) X (shB1 ho) (Nat.le_of_ble_eq_true rfl) rfl g15 dX1_merge_8 ?_
    refine go_icmp_ge (pc := 9) X 29 dX1_merge_9 rfl (fun c16 => ?_) (fun c16 => ?_)
    · rw [if_neg c16] at h
      refine go_pick [0, 1, 2] (Ls' := [(0, .ref (ad th)), (1, .int (i32 a1)), (2, .int (i32 a2))]) rfl ?_
      exact lp_back h hx13
    · rw [if_pos c16] at h
      refine go_aload_n (pc := 12) X 0 dX1_merge_12 rfl rfl ?_
      refine go_iload_n (pc := 13) X 1 dX1_merge_13 rfl rfl ?_
      refine go_aload_n (pc := 14) X 0 dX1_merge_14 rfl rfl ?_
      refine go_iload_n (pc := 15) X 2 dX1_merge_15 rfl rfl ?_
      refine go_iload_n (pc := 16) X 3 dX1_merge_16 rfl rfl ?_
      obtain ⟨r17, h18, h⟩ := bind_some h
      refine go_callVi (pc := 17) X 2 [.int (i32 a1), .ref (ad th)] (ct_X1_valueAt ho h18) (shB ho) rfl gg_X1_51 hd_X1_valueAt ⟨Nat.le_of_ble_eq_true rfl, Nat.le_of_ble_eq_true rfl⟩ rfl rfl (Nat.le_of_ble_eq_true rfl) dX1_merge_17 ?_
      obtain ⟨S19, h20, h⟩ := bind_some h
      refine go_callVv (pc := 20) X 2 [] (ct_X1_insertValue ho h20) (shB ho) rfl gg_X1_72 hd_X1_insertValue ⟨Nat.le_of_ble_eq_true rfl, Nat.le_of_ble_eq_true rfl⟩ rfl rfl (Nat.le_of_ble_eq_true rfl) dX1_merge_20 ?_
      refine go_iinc (pc := 23) X [1, 2, 3, 0] 3 (Ls' := [(0, .ref (ad th)), (1, .int (i32 a1)), (2, .int (i32 a2)), (3, .int (i32 (t10.1 + 1)))]) dX1_merge_23 rfl (by decide) rfl ?_
      refine go_goto (pc := 26) X 2 dX1_merge_26 rfl ?_
      exact lp_back h hx13
  refine H9 FU (0, S) r7 h8 ?_
  refine go_aload_n (pc := 29) X 0 dX1_merge_29 rfl rfl ?_
  refine go_getr (pc := 30) X (fk := 4) (shB ho) rfl inT_X1 (by decide) fL_X1_25 rfl dX1_merge_30 ?_
  refine go_iload_n (pc := 33) X 1 dX1_merge_33 rfl rfl ?_
  refine go_bipush (pc := 34) X dX1_merge_34 (by decide) (by decide) ?_
  refine go_aload_n (pc := 36) X 0 dX1_merge_36 rfl rfl ?_
  refine go_getr (pc := 37) X (fk := 4) (shB ho) rfl inT_X1 (by decide) fL_X1_25 rfl dX1_merge_37 ?_
  refine go_iload_n (pc := 40) X 1 dX1_merge_40 rfl rfl ?_
  obtain ⟨g21, h⟩ := gd_some h
  refine go_iald (pc := 41) X (shB2 ho) (Nat.le_of_ble_eq_true rfl) rfl g21 dX1_merge_41 ?_
  refine go_aload_n (pc := 42) X 0 dX1_merge_42 rfl rfl ?_
  refine go_getr (pc := 43) X (fk := 4) (shB ho) rfl inT_X1 (by decide) fL_X1_25 rfl dX1_merge_43 ?_
  refine go_iload_n (pc := 46) X 2 dX1_merge_46 rfl rfl ?_
  obtain ⟨g22, h⟩ := gd_some h
  refine go_iald (pc := 47) X (shB2 ho) (Nat.le_of_ble_eq_true rfl) rfl g22 dX1_merge_47 ?_
  refine go_iadd (pc := 48) X dX1_merge_48 ?_
  refine go_mmin (pc := 49) X mL_X1_63 (Nat.le_of_ble_eq_true rfl) (Nat.le_of_ble_eq_true rfl) dX1_merge_49 ?_
  obtain ⟨S23, e24, h⟩ := wrk_some h
  refine go_iastE (pc := 52) X e24 (shB2 ho) (Nat.le_of_ble_eq_true rfl) rfl g21 dX1_merge_52 ?_
  exact go_vret (pc := 53) X h dX1_merge_53
set_option maxRecDepth 100000 in
set_option maxHeartbeats 4000000 in
theorem ct_X1_biddersWithoutValues {l : Launch} {D : va_G} {cI cB : ClassId} {Z : (Nat → Nat) × (Nat → Nat)} {ad : Nat → Nat} {S : Mem} {th : Nat} {r : Int} (ho : isBk th) (h : f_X1_biddersWithoutValues S th = some r) : Ctr l D cI cB Z ad shsC yX1_biddersWithoutValues cX1_biddersWithoutValues 3 (some .int) 0 0 [.ref (ad th)] S (some (.int (i32 r))) S := by
  refine ctr_of (by decide +kernel) (Nat.le_of_ble_eq_true rfl) rfl ?_
  intro p e s m args below meth c A X
  unfold f_X1_biddersWithoutValues at h
  refine go_iconst (pc := 0) X dX1_biddersWithoutValues_0 ?_
  refine go_istore_n (pc := 1) X [1, 0] (Ls' := [(0, .ref (ad th)), (1, .int (i32 0))]) dX1_biddersWithoutValues_1 rfl (by decide) rfl ?_
  refine go_iconst (pc := 2) X dX1_biddersWithoutValues_2 ?_
  refine go_istore_n (pc := 3) X [1, 2, 0] (Ls' := [(0, .ref (ad th)), (1, .int (i32 0)), (2, .int (i32 0))]) dX1_biddersWithoutValues_3 rfl (by decide) rfl ?_
  obtain ⟨r7, h8, h⟩ := bind_some h
  have H9 : ∀ (n : Nat) (t10 : Int × Int) (z11 : Int), lp (f_X1_biddersWithoutValues_l4 S th) n t10 = some z11 → Go p l e { frames := 0, cells := 0, slots := 0, locals := 0 } s m args below meth c 3 D cI cB ad shsC A (MQ below (cQ D cI cB ad shsC (some (.int (i32 r))) S A) args s 0 0 A) 30 [(1, .int (i32 z11))] [] S → Go p l e { frames := 0, cells := 0, slots := 0, locals := 0 } s m args below meth c 3 D cI cB ad shsC A (MQ below (cQ D cI cB ad shsC (some (.int (i32 r))) S A) args s 0 0 A) 4 [(0, .ref (ad th)), (1, .int (i32 t10.1)), (2, .int (i32 t10.2))] [] S := by
    refine lp_go (fun t10 : Int × Int => Go p l e { frames := 0, cells := 0, slots := 0, locals := 0 } s m args below meth c 3 D cI cB ad shsC A (MQ below (cQ D cI cB ad shsC (some (.int (i32 r))) S A) args s 0 0 A) 4 [(0, .ref (ad th)), (1, .int (i32 t10.1)), (2, .int (i32 t10.2))] [] S) (fun z11 : Int => Go p l e { frames := 0, cells := 0, slots := 0, locals := 0 } s m args below meth c 3 D cI cB ad shsC A (MQ below (cQ D cI cB ad shsC (some (.int (i32 r))) S A) args s 0 0 A) 30 [(1, .int (i32 z11))] [] S) ?_
    intro t10 x12 h hx13
    unfold f_X1_biddersWithoutValues_l4 at h
    refine go_iload_n (pc := 4) X 2 dX1_biddersWithoutValues_4 rfl rfl ?_
    refine go_aload_n (pc := 5) X 0 dX1_biddersWithoutValues_5 rfl rfl ?_
    refine go_get (pc := 6) X (fk := 2) (fi := 2) rfl (shB ho) rfl inT_X1 (by decide) fL_X1_18 rfl dX1_biddersWithoutValues_6 ?_
    refine go_icmp_ge (pc := 9) X 30 dX1_biddersWithoutValues_9 rfl (fun c15 => ?_) (fun c15 => ?_)
    · rw [if_neg c15] at h
      refine go_pick [1] (Ls' := [(1, .int (i32 t10.1))]) rfl ?_
      exact lp_back h hx13
    · rw [if_pos c15] at h
      refine go_aload_n (pc := 12) X 0 dX1_biddersWithoutValues_12 rfl rfl ?_
      refine go_getr (pc := 13) X (fk := 3) (shB ho) rfl inT_X1 (by decide) fL_X1_21 rfl dX1_biddersWithoutValues_13 ?_
      refine go_iload_n (pc := 16) X 2 dX1_biddersWithoutValues_16 rfl rfl ?_
      obtain ⟨g16, h⟩ := gd_some h
      refine go_iald (pc := 17) X (shB1 ho) (Nat.le_of_ble_eq_true rfl) rfl g16 dX1_biddersWithoutValues_17 ?_
      obtain ⟨j17, h18, h⟩ := bind_some h
      have k19 : Go p l e { frames := 0, cells := 0, slots := 0, locals := 0 } s m args below meth c 3 D cI cB ad shsC A (MQ below (cQ D cI cB ad shsC (some (.int (i32 r))) S A) args s 0 0 A) 24 [(0, .ref (ad th)), (1, .int (i32 j17)), (2, .int (i32 t10.2))] [] S := by
        refine go_iinc (pc := 24) X [1, 2, 0] 2 (Ls' := [(0, .ref (ad th)), (1, .int (i32 j17)), (2, .int (i32 (t10.2 + 1)))]) dX1_biddersWithoutValues_24 rfl (by decide) rfl ?_
        refine go_goto (pc := 27) X 4 dX1_biddersWithoutValues_27 rfl ?_
        exact lp_back h hx13
      refine go_if_ne (pc := 18) X 24 dX1_biddersWithoutValues_18 rfl (fun c20 => ?_) (fun c20 => ?_)
      · rw [if_neg c20] at h18
        cases h18
        exact k19
      · rw [if_pos c20] at h18
        refine go_iinc (pc := 21) X [1, 0, 2] 1 (Ls' := [(0, .ref (ad th)), (1, .int (i32 (t10.1 + 1))), (2, .int (i32 t10.2))]) dX1_biddersWithoutValues_21 rfl (by decide) rfl ?_
        cases h18
        exact k19
  refine H9 FU (0, 0) r7 h8 ?_
  refine go_iload_n (pc := 30) X 0 dX1_biddersWithoutValues_30 rfl rfl ?_
  exact go_iretP (pc := 31) X h dX1_biddersWithoutValues_31
