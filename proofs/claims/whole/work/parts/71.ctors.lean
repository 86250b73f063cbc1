/-! ===== the constructors: printed by gen/ctors.py ===== -/
theorem nd_of : ∀ l : List Nat, l.Nodup → va_nd l = true
  | [], _ => rfl
  | a :: l, h => by
    have h2 := List.nodup_cons.mp h
    unfold va_nd
    rw [nd_of l h2.2, decide_eq_true h2.1]
    rfl
theorem nd_range (n : Nat) : va_nd (List.range n) = true := nd_of _ List.nodup_range
theorem gn_perm {p : Program} {l : Launch} {e : Env} {R : Room} {s : State} {m : MethodId} {args : Array Value} {below : List Frame} {meth : Method} {c : Code} {nL : Nat} {D : va_G} {A : Nat → Prop} {Q : State → Prop} {cells slots pc : Nat} {Ls : List (Nat × Value)} {st : List Value} {ws ws' : va_W} (is : List Nat) (hnd : va_nd is = true) (h1 : is.filterMap (fun i => ws[i]?) = ws') (h2 : is.map (fun i => ws[i]?) = ws'.map some) (k : Gn p l e R s m args below meth c nL D A Q cells slots pc Ls st ws') : Gn p l e R s m args below meth c nL D A Q cells slots pc Ls st ws :=
  fun H locs ls hP hD hS hl => k H locs ls (hP.sub is h1) (hD.sub is hnd h2) hS hl
def wN5 (cI cB : ClassId) (h : Nat) (u : Nat → Nat) : va_W := [(h, .inr (5, [.int (i32 0), .ref (u 0)])), (u 0, .inl (cB, (500, .inl (fun _ => 0))))]
set_option maxRecDepth 100000 in
set_option maxHeartbeats 4000000 in
theorem nc_X5 {l : Launch} {D : va_G} {cI cB : ClassId} : Nct l D cI cB yX5_init cX5_init 1 12 1 500 (.inr (5, [.int 0, .null])) (wN5 cI cB) := by
  refine nct_of (by decide +kernel) rfl ?_
  intro h0 p e s m args below meth c A X hI hr hlk
  refine gn_aload (pc := 0) X 0 dX5_init_0 rfl rfl ?_
  refine gn_objInit (pc := 1) X mL_X5_1 (Nat.le_of_ble_eq_true rfl) (Nat.le_of_ble_eq_true rfl) dX5_init_1 ?_
  refine gn_aload (pc := 4) X 0 dX5_init_4 rfl rfl ?_
  refine gn_iconst (pc := 5) X dX5_init_5 ?_
  refine gn_put (pc := 6) X 0 0 rfl rfl inT_X5 tyX5_ok nmX5 (by decide) fL_X5_7 rfl rfl rfl rfl (Nat.le_of_ble_eq_true rfl) dX5_init_6 ?_
  refine gn_to (ws' := [(h0, .inr (5, [.int (i32 0), .null]))]) rfl ?_
  refine gn_aload (pc := 9) X 0 dX5_init_9 rfl rfl ?_
  refine gn_sipush (pc := 10) X dX5_init_10 (by decide) (by decide) ?_
  refine gn_newB (pc := 13) (N := 500) X rfl (Nat.le_of_ble_eq_true rfl) (Nat.le_of_ble_eq_true rfl) (Nat.le_of_ble_eq_true rfl) dX5_init_13 (fun q13 => ?_)
  refine gn_to (ws' := [(h0, .inr (5, [.int (i32 0), .null])), (q13, .inl (cB, (500, .inl (fun _ => 0))))]) rfl ?_
  refine gn_putF (pc := 15) X hI 0 1 rfl rfl inT_X5 tyX5_ok nmX5 (by decide) fL_X5_13 rfl rfl rfl rfl rfl (Nat.le_of_ble_eq_true rfl) dX5_init_15 ?_
  refine gn_to (ws' := [(h0, .inr (5, [.int (i32 0), .ref q13])), (q13, .inl (cB, (500, .inl (fun _ => 0))))]) rfl ?_
  exact gn_ret (pc := 18) X hr hlk (fun i => [q13].getD i 0) rfl dX5_init_18
def wN6 (cI cB : ClassId) (h : Nat) (u : Nat → Nat) : va_W := [(h, .inr (6, [.ref (u 0), .int (i32 0), .int (i32 0), .int (i32 0), .int (i32 (-1))])), (u 0, .inr (5, [.int (i32 0), .ref (u 1)])), (u 1, .inl (cB, (500, .inl (fun _ => 0))))]
set_option maxRecDepth 100000 in
set_option maxHeartbeats 4000000 in
theorem nc_X6 {l : Launch} {D : va_G} {cI cB : ClassId} : Nct l D cI cB yX6_init cX6_init 2 32 2 502 (.inr (6, [.null, .int 0, .int 0, .int 0, .int 0])) (wN6 cI cB) := by
  refine nct_of (by decide +kernel) rfl ?_
  intro h0 p e s m args below meth c A X hI hr hlk
  refine gn_aload (pc := 0) X 0 dX6_init_0 rfl rfl ?_
  refine gn_objInit (pc := 1) X mL_X6_3 (Nat.le_of_ble_eq_true rfl) (Nat.le_of_ble_eq_true rfl) dX6_init_1 ?_
  refine gn_aload (pc := 4) X 0 dX6_init_4 rfl rfl ?_
  refine gn_new (pc := 5) (ci := 5) (fs := [.int 0, .null]) (C := RX5) (T := TX5) (N := 2) X tyX5 inT_X5 tyX5_ok kL_X6_9 is_X5 in_X5 rfl (fun j hj => by rcases (show j = 0 ∨ j = 1 by omega) with rfl | rfl <;> rfl) (Nat.le_of_ble_eq_true rfl) (Nat.le_of_ble_eq_true rfl) dX6_init_5 (fun q5 => ?_)
  refine gn_dup (pc := 8) X dX6_init_8 rfl ?_
  refine gn_callN (pc := 9) (cells := 1) (slots := 2) (R := { frames := 2, cells := 2, slots := 502, locals := 32 }) (b := q5) (st := [.ref h0]) (ws := [(h0, .inr (6, [.null, .int 0, .int 0, .int 0, .int 0]))]) X (nc_X5 (cI := cI) (cB := cB)) (nd_range _) X.2.2.2.2.2.2.2.2.1 cd_X5_init in_X5 iM_X5_init rfl (by decide +kernel) ⟨Nat.le_of_ble_eq_true rfl, Nat.le_of_ble_eq_true rfl⟩ (Nat.le_of_ble_eq_true rfl) (by exact ⟨Nat.le_of_ble_eq_true rfl, Nat.le_of_ble_eq_true rfl⟩) dX6_init_9 (fun u9 => ?_)
  refine gn_to (ws' := [(h0, .inr (6, [.null, .int 0, .int 0, .int 0, .int 0])), (q5, .inr (5, [.int (i32 0), .ref (u9 0)])), (u9 0, .inl (cB, (500, .inl (fun _ => 0))))]) rfl ?_
  refine gn_putF (pc := 12) X hI 0 0 rfl rfl inT_X6 tyX6_ok nmX6 (by decide) fL_X6_12 rfl rfl rfl rfl rfl (Nat.le_of_ble_eq_true rfl) dX6_init_12 ?_
  refine gn_to (ws' := [(h0, .inr (6, [.ref q5, .int 0, .int 0, .int 0, .int 0])), (q5, .inr (5, [.int (i32 0), .ref (u9 0)])), (u9 0, .inl (cB, (500, .inl (fun _ => 0))))]) rfl ?_
  refine gn_aload (pc := 15) X 0 dX6_init_15 rfl rfl ?_
  refine gn_iconst (pc := 16) X dX6_init_16 ?_
  refine gn_put (pc := 17) X 0 1 rfl rfl inT_X6 tyX6_ok nmX6 (by decide) fL_X6_18 rfl rfl rfl rfl (Nat.le_of_ble_eq_true rfl) dX6_init_17 ?_
  refine gn_to (ws' := [(h0, .inr (6, [.ref q5, .int (i32 0), .int 0, .int 0, .int 0])), (q5, .inr (5, [.int (i32 0), .ref (u9 0)])), (u9 0, .inl (cB, (500, .inl (fun _ => 0))))]) rfl ?_
  refine gn_aload (pc := 20) X 0 dX6_init_20 rfl rfl ?_
  refine gn_iconst (pc := 21) X dX6_init_21 ?_
  refine gn_put (pc := 22) X 0 2 rfl rfl inT_X6 tyX6_ok nmX6 (by decide) fL_X6_22 rfl rfl rfl rfl (Nat.le_of_ble_eq_true rfl) dX6_init_22 ?_
  refine gn_to (ws' := [(h0, .inr (6, [.ref q5, .int (i32 0), .int (i32 0), .int 0, .int 0])), (q5, .inr (5, [.int (i32 0), .ref (u9 0)])), (u9 0, .inl (cB, (500, .inl (fun _ => 0))))]) rfl ?_
  refine gn_aload (pc := 25) X 0 dX6_init_25 rfl rfl ?_
  refine gn_iconst (pc := 26) X dX6_init_26 ?_
  refine gn_put (pc := 27) X 0 3 rfl rfl inT_X6 tyX6_ok nmX6 (by decide) fL_X6_25 rfl rfl rfl rfl (Nat.le_of_ble_eq_true rfl) dX6_init_27 ?_
  refine gn_to (ws' := [(h0, .inr (6, [.ref q5, .int (i32 0), .int (i32 0), .int (i32 0), .int 0])), (q5, .inr (5, [.int (i32 0), .ref (u9 0)])), (u9 0, .inl (cB, (500, .inl (fun _ => 0))))]) rfl ?_
  refine gn_aload (pc := 30) X 0 dX6_init_30 rfl rfl ?_
  refine gn_iconst (pc := 31) X dX6_init_31 ?_
  refine gn_put (pc := 32) X 0 4 rfl rfl inT_X6 tyX6_ok nmX6 (by decide) fL_X6_28 rfl rfl rfl rfl (Nat.le_of_ble_eq_true rfl) dX6_init_32 ?_
  refine gn_to (ws' := [(h0, .inr (6, [.ref q5, .int (i32 0), .int (i32 0), .int (i32 0), .int (i32 (-1))])), (q5, .inr (5, [.int (i32 0), .ref (u9 0)])), (u9 0, .inl (cB, (500, .inl (fun _ => 0))))]) rfl ?_
  exact gn_ret (pc := 35) X hr hlk (fun i => [q5, u9 0].getD i 0) rfl dX6_init_35
def wN1 (cI cB : ClassId) (h : Nat) (u : Nat → Nat) : va_W := [(h, .inr (1, [.int (i32 10), .int (i32 0), .int (i32 0), .ref (u 0), .ref (u 1), .ref (u 2), .ref (u 3), .ref (u 4)])), (u 0, .inl (cI, (9, .inl (fun _ => 0)))), (u 1, .inl (cI, (9, .inl (fun _ => 0)))), (u 2, .inl (cI, (72, .inl (fun _ => 0)))), (u 3, .inl (cI, (9, .inl (fun _ => 0)))), (u 4, .inl (cI, (9, .inl (fun _ => 0))))]
set_option maxRecDepth 100000 in
set_option maxHeartbeats 4000000 in
theorem nc_X1 {l : Launch} {D : va_G} {cI cB : ClassId} : Nct l D cI cB yX1_init cX1_init 1 12 5 108 (.inr (1, [.int 0, .int 0, .int 0, .null, .null, .null, .null, .null])) (wN1 cI cB) := by
  refine nct_of (by decide +kernel) rfl ?_
  intro h0 p e s m args below meth c A X hI hr hlk
  refine gn_aload (pc := 0) X 0 dX1_init_0 rfl rfl ?_
  refine gn_objInit (pc := 1) X mL_X1_3 (Nat.le_of_ble_eq_true rfl) (Nat.le_of_ble_eq_true rfl) dX1_init_1 ?_
  refine gn_aload (pc := 4) X 0 dX1_init_4 rfl rfl ?_
  refine gn_bipush (pc := 5) X dX1_init_5 (by decide) (by decide) ?_
  refine gn_put (pc := 7) X 0 0 rfl rfl inT_X1 tyX1_ok nmX1 (by decide) fL_X1_9 rfl rfl rfl rfl (Nat.le_of_ble_eq_true rfl) dX1_init_7 ?_
  refine gn_to (ws' := [(h0, .inr (1, [.int (i32 10), .int 0, .int 0, .null, .null, .null, .null, .null]))]) rfl ?_
  refine gn_aload (pc := 10) X 0 dX1_init_10 rfl rfl ?_
  refine gn_iconst (pc := 11) X dX1_init_11 ?_
  refine gn_put (pc := 12) X 0 1 rfl rfl inT_X1 tyX1_ok nmX1 (by decide) fL_X1_15 rfl rfl rfl rfl (Nat.le_of_ble_eq_true rfl) dX1_init_12 ?_
  refine gn_to (ws' := [(h0, .inr (1, [.int (i32 10), .int (i32 0), .int 0, .null, .null, .null, .null, .null]))]) rfl ?_
  refine gn_aload (pc := 15) X 0 dX1_init_15 rfl rfl ?_
  refine gn_iconst (pc := 16) X dX1_init_16 ?_
  refine gn_put (pc := 17) X 0 2 rfl rfl inT_X1 tyX1_ok nmX1 (by decide) fL_X1_18 rfl rfl rfl rfl (Nat.le_of_ble_eq_true rfl) dX1_init_17 ?_
  refine gn_to (ws' := [(h0, .inr (1, [.int (i32 10), .int (i32 0), .int (i32 0), .null, .null, .null, .null, .null]))]) rfl ?_
  refine gn_aload (pc := 20) X 0 dX1_init_20 rfl rfl ?_
  refine gn_bipush (pc := 21) X dX1_init_21 (by decide) (by decide) ?_
  refine gn_newI (pc := 23) (N := 9) X rfl (Nat.le_of_ble_eq_true rfl) (Nat.le_of_ble_eq_true rfl) (Nat.le_of_ble_eq_true rfl) dX1_init_23 (fun q23 => ?_)
  refine gn_to (ws' := [(h0, .inr (1, [.int (i32 10), .int (i32 0), .int (i32 0), .null, .null, .null, .null, .null])), (q23, .inl (cI, (9, .inl (fun _ => 0))))]) rfl ?_
  refine gn_putF (pc := 25) X hI 0 3 rfl rfl inT_X1 tyX1_ok nmX1 (by decide) fL_X1_21 rfl rfl rfl rfl rfl (Nat.le_of_ble_eq_true rfl) dX1_init_25 ?_
  refine gn_to (ws' := [(h0, .inr (1, [.int (i32 10), .int (i32 0), .int (i32 0), .ref q23, .null, .null, .null, .null])), (q23, .inl (cI, (9, .inl (fun _ => 0))))]) rfl ?_
  refine gn_aload (pc := 28) X 0 dX1_init_28 rfl rfl ?_
  refine gn_bipush (pc := 29) X dX1_init_29 (by decide) (by decide) ?_
  refine gn_newI (pc := 31) (N := 9) X rfl (Nat.le_of_ble_eq_true rfl) (Nat.le_of_ble_eq_true rfl) (Nat.le_of_ble_eq_true rfl) dX1_init_31 (fun q31 => ?_)
  refine gn_to (ws' := [(h0, .inr (1, [.int (i32 10), .int (i32 0), .int (i32 0), .ref q23, .null, .null, .null, .null])), (q23, .inl (cI, (9, .inl (fun _ => 0)))), (q31, .inl (cI, (9, .inl (fun _ => 0))))]) rfl ?_
  refine gn_putF (pc := 33) X hI 0 4 rfl rfl inT_X1 tyX1_ok nmX1 (by decide) fL_X1_25 rfl rfl rfl rfl rfl (Nat.le_of_ble_eq_true rfl) dX1_init_33 ?_
  refine gn_to (ws' := [(h0, .inr (1, [.int (i32 10), .int (i32 0), .int (i32 0), .ref q23, .ref q31, .null, .null, .null])), (q23, .inl (cI, (9, .inl (fun _ => 0)))), (q31, .inl (cI, (9, .inl (fun _ => 0))))]) rfl ?_
  refine gn_aload (pc := 36) X 0 dX1_init_36 rfl rfl ?_
  refine gn_bipush (pc := 37) X dX1_init_37 (by decide) (by decide) ?_
  refine gn_newI (pc := 39) (N := 72) X rfl (Nat.le_of_ble_eq_true rfl) (Nat.le_of_ble_eq_true rfl) (Nat.le_of_ble_eq_true rfl) dX1_init_39 (fun q39 => ?_)
  refine gn_to (ws' := [(h0, .inr (1, [.int (i32 10), .int (i32 0), .int (i32 0), .ref q23, .ref q31, .null, .null, .null])), (q23, .inl (cI, (9, .inl (fun _ => 0)))), (q31, .inl (cI, (9, .inl (fun _ => 0)))), (q39, .inl (cI, (72, .inl (fun _ => 0))))]) rfl ?_
  refine gn_putF (pc := 41) X hI 0 5 rfl rfl inT_X1 tyX1_ok nmX1 (by decide) fL_X1_28 rfl rfl rfl rfl rfl (Nat.le_of_ble_eq_true rfl) dX1_init_41 ?_
  refine gn_to (ws' := [(h0, .inr (1, [.int (i32 10), .int (i32 0), .int (i32 0), .ref q23, .ref q31, .ref q39, .null, .null])), (q23, .inl (cI, (9, .inl (fun _ => 0)))), (q31, .inl (cI, (9, .inl (fun _ => 0)))), (q39, .inl (cI, (72, .inl (fun _ => 0))))]) rfl ?_
  refine gn_aload (pc := 44) X 0 dX1_init_44 rfl rfl ?_
  refine gn_bipush (pc := 45) X dX1_init_45 (by decide) (by decide) ?_
  refine gn_newI (pc := 47) (N := 9) X rfl (Nat.le_of_ble_eq_true rfl) (Nat.le_of_ble_eq_true rfl) (Nat.le_of_ble_eq_true rfl) dX1_init_47 (fun q47 => ?_)
  refine gn_to (ws' := [(h0, .inr (1, [.int (i32 10), .int (i32 0), .int (i32 0), .ref q23, .ref q31, .ref q39, .null, .null])), (q23, .inl (cI, (9, .inl (fun _ => 0)))), (q31, .inl (cI, (9, .inl (fun _ => 0)))), (q39, .inl (cI, (72, .inl (fun _ => 0)))), (q47, .inl (cI, (9, .inl (fun _ => 0))))]) rfl ?_
  refine gn_putF (pc := 49) X hI 0 6 rfl rfl inT_X1 tyX1_ok nmX1 (by decide) fL_X1_31 rfl rfl rfl rfl rfl (Nat.le_of_ble_eq_true rfl) dX1_init_49 ?_
  refine gn_to (ws' := [(h0, .inr (1, [.int (i32 10), .int (i32 0), .int (i32 0), .ref q23, .ref q31, .ref q39, .ref q47, .null])), (q23, .inl (cI, (9, .inl (fun _ => 0)))), (q31, .inl (cI, (9, .inl (fun _ => 0)))), (q39, .inl (cI, (72, .inl (fun _ => 0)))), (q47, .inl (cI, (9, .inl (fun _ => 0))))]) rfl ?_
  refine gn_aload (pc := 52) X 0 dX1_init_52 rfl rfl ?_
  refine gn_bipush (pc := 53) X dX1_init_53 (by decide) (by decide) ?_
  refine gn_newI (pc := 55) (N := 9) X rfl (Nat.le_of_ble_eq_true rfl) (Nat.le_of_ble_eq_true rfl) (Nat.le_of_ble_eq_true rfl) dX1_init_55 (fun q55 => ?_)
  refine gn_to (ws' := [(h0, .inr (1, [.int (i32 10), .int (i32 0), .int (i32 0), .ref q23, .ref q31, .ref q39, .ref q47, .null])), (q23, .inl (cI, (9, .inl (fun _ => 0)))), (q31, .inl (cI, (9, .inl (fun _ => 0)))), (q39, .inl (cI, (72, .inl (fun _ => 0)))), (q47, .inl (cI, (9, .inl (fun _ => 0)))), (q55, .inl (cI, (9, .inl (fun _ => 0))))]) rfl ?_
  refine gn_putF (pc := 57) X hI 0 7 rfl rfl inT_X1 tyX1_ok nmX1 (by decide) fL_X1_34 rfl rfl rfl rfl rfl (Nat.le_of_ble_eq_true rfl) dX1_init_57 ?_
  refine gn_to (ws' := [(h0, .inr (1, [.int (i32 10), .int (i32 0), .int (i32 0), .ref q23, .ref q31, .ref q39, .ref q47, .ref q55])), (q23, .inl (cI, (9, .inl (fun _ => 0)))), (q31, .inl (cI, (9, .inl (fun _ => 0)))), (q39, .inl (cI, (72, .inl (fun _ => 0)))), (q47, .inl (cI, (9, .inl (fun _ => 0)))), (q55, .inl (cI, (9, .inl (fun _ => 0))))]) rfl ?_
  exact gn_ret (pc := 60) X hr hlk (fun i => [q23, q31, q39, q47, q55].getD i 0) rfl dX1_init_60
def wN0 (cI cB : ClassId) (h : Nat) (u : Nat → Nat) : va_W := [(h, .inr (0, [.ref (u 0), .int (i32 0), .int (i32 0), .int (i32 0), .ref (u 6), .ref (u 7), .ref (u 8), .ref (u 9), .ref (u 10), .ref (u 11), .ref (u 12)])), (u 0, .inr (1, [.int (i32 10), .int (i32 0), .int (i32 0), .ref (u 1), .ref (u 2), .ref (u 3), .ref (u 4), .ref (u 5)])), (u 1, .inl (cI, (9, .inl (fun _ => 0)))), (u 2, .inl (cI, (9, .inl (fun _ => 0)))), (u 3, .inl (cI, (72, .inl (fun _ => 0)))), (u 4, .inl (cI, (9, .inl (fun _ => 0)))), (u 5, .inl (cI, (9, .inl (fun _ => 0)))), (u 6, .inl (cI, (9, .inl (fun _ => 0)))), (u 7, .inl (cI, (9, .inl (fun _ => 0)))), (u 8, .inl (cI, (72, .inl (fun _ => 0)))), (u 9, .inl (cI, (30, .inl (fun _ => 0)))), (u 10, .inl (cI, (30, .inl (fun _ => 0)))), (u 11, .inl (cI, (9, .inl (fun _ => 0)))), (u 12, .inl (cI, (9, .inl (fun _ => 0))))]
set_option maxRecDepth 100000 in
set_option maxHeartbeats 4000000 in
theorem nc_X0 {l : Launch} {D : va_G} {cI cB : ClassId} : Nct l D cI cB yX0_init cX0_init 2 32 13 284 (.inr (0, [.null, .int 0, .int 0, .int 0, .null, .null, .null, .null, .null, .null, .null])) (wN0 cI cB) := by
  refine nct_of (by decide +kernel) rfl ?_
  intro h0 p e s m args below meth c A X hI hr hlk
  refine gn_aload (pc := 0) X 0 dX0_init_0 rfl rfl ?_
  refine gn_objInit (pc := 1) X mL_X0_3 (Nat.le_of_ble_eq_true rfl) (Nat.le_of_ble_eq_true rfl) dX0_init_1 ?_
  refine gn_aload (pc := 4) X 0 dX0_init_4 rfl rfl ?_
  refine gn_new (pc := 5) (ci := 1) (fs := [.int 0, .int 0, .int 0, .null, .null, .null, .null, .null]) (C := RX1) (T := TX1) (N := 8) X tyX1 inT_X1 tyX1_ok kL_X0_9 is_X1 in_X1 rfl (fun j hj => by rcases (show j = 0 ∨ j = 1 ∨ j = 2 ∨ j = 3 ∨ j = 4 ∨ j = 5 ∨ j = 6 ∨ j = 7 by omega) with rfl | rfl | rfl | rfl | rfl | rfl | rfl | rfl <;> rfl) (Nat.le_of_ble_eq_true rfl) (Nat.le_of_ble_eq_true rfl) dX0_init_5 (fun q5 => ?_)
  refine gn_dup (pc := 8) X dX0_init_8 rfl ?_
  refine gn_callN (pc := 9) (cells := 1) (slots := 8) (R := { frames := 2, cells := 13, slots := 284, locals := 32 }) (b := q5) (st := [.ref h0]) (ws := [(h0, .inr (0, [.null, .int 0, .int 0, .int 0, .null, .null, .null, .null, .null, .null, .null]))]) X (nc_X1 (cI := cI) (cB := cB)) (nd_range _) X.2.2.2.2.2.2.2.2.2.2.1 cd_X1_init in_X1 iM_X1_init rfl (by decide +kernel) ⟨Nat.le_of_ble_eq_true rfl, Nat.le_of_ble_eq_true rfl⟩ (Nat.le_of_ble_eq_true rfl) (by exact ⟨Nat.le_of_ble_eq_true rfl, Nat.le_of_ble_eq_true rfl⟩) dX0_init_9 (fun u9 => ?_)
  refine gn_to (ws' := [(h0, .inr (0, [.null, .int 0, .int 0, .int 0, .null, .null, .null, .null, .null, .null, .null])), (q5, .inr (1, [.int (i32 10), .int (i32 0), .int (i32 0), .ref (u9 0), .ref (u9 1), .ref (u9 2), .ref (u9 3), .ref (u9 4)])), (u9 0, .inl (cI, (9, .inl (fun _ => 0)))), (u9 1, .inl (cI, (9, .inl (fun _ => 0)))), (u9 2, .inl (cI, (72, .inl (fun _ => 0)))), (u9 3, .inl (cI, (9, .inl (fun _ => 0)))), (u9 4, .inl (cI, (9, .inl (fun _ => 0))))]) rfl ?_
  refine gn_putF (pc := 12) X hI 0 0 rfl rfl inT_X0 tyX0_ok nmX0 (by decide) fL_X0_12 rfl rfl rfl rfl rfl (Nat.le_of_ble_eq_true rfl) dX0_init_12 ?_
  refine gn_to (ws' := [(h0, .inr (0, [.ref q5, .int 0, .int 0, .int 0, .null, .null, .null, .null, .null, .null, .null])), (q5, .inr (1, [.int (i32 10), .int (i32 0), .int (i32 0), .ref (u9 0), .ref (u9 1), .ref (u9 2), .ref (u9 3), .ref (u9 4)])), (u9 0, .inl (cI, (9, .inl (fun _ => 0)))), (u9 1, .inl (cI, (9, .inl (fun _ => 0)))), (u9 2, .inl (cI, (72, .inl (fun _ => 0)))), (u9 3, .inl (cI, (9, .inl (fun _ => 0)))), (u9 4, .inl (cI, (9, .inl (fun _ => 0))))]) rfl ?_
  refine gn_aload (pc := 15) X 0 dX0_init_15 rfl rfl ?_
  refine gn_iconst (pc := 16) X dX0_init_16 ?_
  refine gn_put (pc := 17) X 0 1 rfl rfl inT_X0 tyX0_ok nmX0 (by decide) fL_X0_18 rfl rfl rfl rfl (Nat.le_of_ble_eq_true rfl) dX0_init_17 ?_
  refine gn_to (ws' := [(h0, .inr (0, [.ref q5, .int (i32 0), .int 0, .int 0, .null, .null, .null, .null, .null, .null, .null])), (q5, .inr (1, [.int (i32 10), .int (i32 0), .int (i32 0), .ref (u9 0), .ref (u9 1), .ref (u9 2), .ref (u9 3), .ref (u9 4)])), (u9 0, .inl (cI, (9, .inl (fun _ => 0)))), (u9 1, .inl (cI, (9, .inl (fun _ => 0)))), (u9 2, .inl (cI, (72, .inl (fun _ => 0)))), (u9 3, .inl (cI, (9, .inl (fun _ => 0)))), (u9 4, .inl (cI, (9, .inl (fun _ => 0))))]) rfl ?_
  refine gn_aload (pc := 20) X 0 dX0_init_20 rfl rfl ?_
  refine gn_iconst (pc := 21) X dX0_init_21 ?_
  refine gn_put (pc := 22) X 0 2 rfl rfl inT_X0 tyX0_ok nmX0 (by decide) fL_X0_22 rfl rfl rfl rfl (Nat.le_of_ble_eq_true rfl) dX0_init_22 ?_
  refine gn_to (ws' := [(h0, .inr (0, [.ref q5, .int (i32 0), .int (i32 0), .int 0, .null, .null, .null, .null, .null, .null, .null])), (q5, .inr (1, [.int (i32 10), .int (i32 0), .int (i32 0), .ref (u9 0), .ref (u9 1), .ref (u9 2), .ref (u9 3), .ref (u9 4)])), (u9 0, .inl (cI, (9, .inl (fun _ => 0)))), (u9 1, .inl (cI, (9, .inl (fun _ => 0)))), (u9 2, .inl (cI, (72, .inl (fun _ => 0)))), (u9 3, .inl (cI, (9, .inl (fun _ => 0)))), (u9 4, .inl (cI, (9, .inl (fun _ => 0))))]) rfl ?_
  refine gn_aload (pc := 25) X 0 dX0_init_25 rfl rfl ?_
  refine gn_iconst (pc := 26) X dX0_init_26 ?_
  refine gn_put (pc := 27) X 0 3 rfl rfl inT_X0 tyX0_ok nmX0 (by decide) fL_X0_25 rfl rfl rfl rfl (Nat.le_of_ble_eq_true rfl) dX0_init_27 ?_
  refine gn_to (ws' := [(h0, .inr (0, [.ref q5, .int (i32 0), .int (i32 0), .int (i32 0), .null, .null, .null, .null, .null, .null, .null])), (q5, .inr (1, [.int (i32 10), .int (i32 0), .int (i32 0), .ref (u9 0), .ref (u9 1), .ref (u9 2), .ref (u9 3), .ref (u9 4)])), (u9 0, .inl (cI, (9, .inl (fun _ => 0)))), (u9 1, .inl (cI, (9, .inl (fun _ => 0)))), (u9 2, .inl (cI, (72, .inl (fun _ => 0)))), (u9 3, .inl (cI, (9, .inl (fun _ => 0)))), (u9 4, .inl (cI, (9, .inl (fun _ => 0))))]) rfl ?_
  refine gn_aload (pc := 30) X 0 dX0_init_30 rfl rfl ?_
  refine gn_bipush (pc := 31) X dX0_init_31 (by decide) (by decide) ?_
  refine gn_newI (pc := 33) (N := 9) X rfl (Nat.le_of_ble_eq_true rfl) (Nat.le_of_ble_eq_true rfl) (Nat.le_of_ble_eq_true rfl) dX0_init_33 (fun q33 => ?_)
  refine gn_to (ws' := [(h0, .inr (0, [.ref q5, .int (i32 0), .int (i32 0), .int (i32 0), .null, .null, .null, .null, .null, .null, .null])), (q5, .inr (1, [.int (i32 10), .int (i32 0), .int (i32 0), .ref (u9 0), .ref (u9 1), .ref (u9 2), .ref (u9 3), .ref (u9 4)])), (u9 0, .inl (cI, (9, .inl (fun _ => 0)))), (u9 1, .inl (cI, (9, .inl (fun _ => 0)))), (u9 2, .inl (cI, (72, .inl (fun _ => 0)))), (u9 3, .inl (cI, (9, .inl (fun _ => 0)))), (u9 4, .inl (cI, (9, .inl (fun _ => 0)))), (q33, .inl (cI, (9, .inl (fun _ => 0))))]) rfl ?_
  refine gn_putF (pc := 35) X hI 0 4 rfl rfl inT_X0 tyX0_ok nmX0 (by decide) fL_X0_28 rfl rfl rfl rfl rfl (Nat.le_of_ble_eq_true rfl) dX0_init_35 ?_
  refine gn_to (ws' := [(h0, .inr (0, [.ref q5, .int (i32 0), .int (i32 0), .int (i32 0), .ref q33, .null, .null, .null, .null, .null, .null])), (q5, .inr (1, [.int (i32 10), .int (i32 0), .int (i32 0), .ref (u9 0), .ref (u9 1), .ref (u9 2), .ref (u9 3), .ref (u9 4)])), (u9 0, .inl (cI, (9, .inl (fun _ => 0)))), (u9 1, .inl (cI, (9, .inl (fun _ => 0)))), (u9 2, .inl (cI, (72, .inl (fun _ => 0)))), (u9 3, .inl (cI, (9, .inl (fun _ => 0)))), (u9 4, .inl (cI, (9, .inl (fun _ => 0)))), (q33, .inl (cI, (9, .inl (fun _ => 0))))]) rfl ?_
  refine gn_aload (pc := 38) X 0 dX0_init_38 rfl rfl ?_
  refine gn_bipush (pc := 39) X dX0_init_39 (by decide) (by decide) ?_
  refine gn_newI (pc := 41) (N := 9) X rfl (Nat.le_of_ble_eq_true rfl) (Nat.le_of_ble_eq_true rfl) (Nat.le_of_ble_eq_true rfl) dX0_init_41 (fun q41 => ?_)
  refine gn_to (ws' := [(h0, .inr (0, [.ref q5, .int (i32 0), .int (i32 0), .int (i32 0), .ref q33, .null, .null, .null, .null, .null, .null])), (q5, .inr (1, [.int (i32 10), .int (i32 0), .int (i32 0), .ref (u9 0), .ref (u9 1), .ref (u9 2), .ref (u9 3), .ref (u9 4)])), (u9 0, .inl (cI, (9, .inl (fun _ => 0)))), (u9 1, .inl (cI, (9, .inl (fun _ => 0)))), (u9 2, .inl (cI, (72, .inl (fun _ => 0)))), (u9 3, .inl (cI, (9, .inl (fun _ => 0)))), (u9 4, .inl (cI, (9, .inl (fun _ => 0)))), (q33, .inl (cI, (9, .inl (fun _ => 0)))), (q41, .inl (cI, (9, .inl (fun _ => 0))))]) rfl ?_
  refine gn_putF (pc := 43) X hI 0 5 rfl rfl inT_X0 tyX0_ok nmX0 (by decide) fL_X0_32 rfl rfl rfl rfl rfl (Nat.le_of_ble_eq_true rfl) dX0_init_43 ?_
  refine gn_to (ws' := [(h0, .inr (0, [.ref q5, .int (i32 0), .int (i32 0), .int (i32 0), .ref q33, .ref q41, .null, .null, .null, .null, .null])), (q5, .inr (1, [.int (i32 10), .int (i32 0), .int (i32 0), .ref (u9 0), .ref (u9 1), .ref (u9 2), .ref (u9 3), .ref (u9 4)])), (u9 0, .inl (cI, (9, .inl (fun _ => 0)))), (u9 1, .inl (cI, (9, .inl (fun _ => 0)))), (u9 2, .inl (cI, (72, .inl (fun _ => 0)))), (u9 3, .inl (cI, (9, .inl (fun _ => 0)))), (u9 4, .inl (cI, (9, .inl (fun _ => 0)))), (q33, .inl (cI, (9, .inl (fun _ => 0)))), (q41, .inl (cI, (9, .inl (fun _ => 0))))]) rfl ?_
  refine gn_aload (pc := 46) X 0 dX0_init_46 rfl rfl ?_
  refine gn_bipush (pc := 47) X dX0_init_47 (by decide) (by decide) ?_
  refine gn_newI (pc := 49) (N := 72) X rfl (Nat.le_of_ble_eq_true rfl) (Nat.le_of_ble_eq_true rfl) (Nat.le_of_ble_eq_true rfl) dX0_init_49 (fun q49 => ?_)
  refine gn_to (ws' := [(h0, .inr (0, [.ref q5, .int (i32 0), .int (i32 0), .int (i32 0), .ref q33, .ref q41, .null, .null, .null, .null, .null])), (q5, .inr (1, [.int (i32 10), .int (i32 0), .int (i32 0), .ref (u9 0), .ref (u9 1), .ref (u9 2), .ref (u9 3), .ref (u9 4)])), (u9 0, .inl (cI, (9, .inl (fun _ => 0)))), (u9 1, .inl (cI, (9, .inl (fun _ => 0)))), (u9 2, .inl (cI, (72, .inl (fun _ => 0)))), (u9 3, .inl (cI, (9, .inl (fun _ => 0)))), (u9 4, .inl (cI, (9, .inl (fun _ => 0)))), (q33, .inl (cI, (9, .inl (fun _ => 0)))), (q41, .inl (cI, (9, .inl (fun _ => 0)))), (q49, .inl (cI, (72, .inl (fun _ => 0))))]) rfl ?_
  refine gn_putF (pc := 51) X hI 0 6 rfl rfl inT_X0 tyX0_ok nmX0 (by decide) fL_X0_35 rfl rfl rfl rfl rfl (Nat.le_of_ble_eq_true rfl) dX0_init_51 ?_
  refine gn_to (ws' := [(h0, .inr (0, [.ref q5, .int (i32 0), .int (i32 0), .int (i32 0), .ref q33, .ref q41, .ref q49, .null, .null, .null, .null])), (q5, .inr (1, [.int (i32 10), .int (i32 0), .int (i32 0), .ref (u9 0), .ref (u9 1), .ref (u9 2), .ref (u9 3), .ref (u9 4)])), (u9 0, .inl (cI, (9, .inl (fun _ => 0)))), (u9 1, .inl (cI, (9, .inl (fun _ => 0)))), (u9 2, .inl (cI, (72, .inl (fun _ => 0)))), (u9 3, .inl (cI, (9, .inl (fun _ => 0)))), (u9 4, .inl (cI, (9, .inl (fun _ => 0)))), (q33, .inl (cI, (9, .inl (fun _ => 0)))), (q41, .inl (cI, (9, .inl (fun _ => 0)))), (q49, .inl (cI, (72, .inl (fun _ => 0))))]) rfl ?_
  refine gn_aload (pc := 54) X 0 dX0_init_54 rfl rfl ?_
  refine gn_bipush (pc := 55) X dX0_init_55 (by decide) (by decide) ?_
  refine gn_newI (pc := 57) (N := 30) X rfl (Nat.le_of_ble_eq_true rfl) (Nat.le_of_ble_eq_true rfl) (Nat.le_of_ble_eq_true rfl) dX0_init_57 (fun q57 => ?_)
  refine gn_to (ws' := [(h0, .inr (0, [.ref q5, .int (i32 0), .int (i32 0), .int (i32 0), .ref q33, .ref q41, .ref q49, .null, .null, .null, .null])), (q5, .inr (1, [.int (i32 10), .int (i32 0), .int (i32 0), .ref (u9 0), .ref (u9 1), .ref (u9 2), .ref (u9 3), .ref (u9 4)])), (u9 0, .inl (cI, (9, .inl (fun _ => 0)))), (u9 1, .inl (cI, (9, .inl (fun _ => 0)))), (u9 2, .inl (cI, (72, .inl (fun _ => 0)))), (u9 3, .inl (cI, (9, .inl (fun _ => 0)))), (u9 4, .inl (cI, (9, .inl (fun _ => 0)))), (q33, .inl (cI, (9, .inl (fun _ => 0)))), (q41, .inl (cI, (9, .inl (fun _ => 0)))), (q49, .inl (cI, (72, .inl (fun _ => 0)))), (q57, .inl (cI, (30, .inl (fun _ => 0))))]) rfl ?_
  refine gn_putF (pc := 59) X hI 0 7 rfl rfl inT_X0 tyX0_ok nmX0 (by decide) fL_X0_38 rfl rfl rfl rfl rfl (Nat.le_of_ble_eq_true rfl) dX0_init_59 ?_
  refine gn_to (ws' := [(h0, .inr (0, [.ref q5, .int (i32 0), .int (i32 0), .int (i32 0), .ref q33, .ref q41, .ref q49, .ref q57, .null, .null, .null])), (q5, .inr (1, [.int (i32 10), .int (i32 0), .int (i32 0), .ref (u9 0), .ref (u9 1), .ref (u9 2), .ref (u9 3), .ref (u9 4)])), (u9 0, .inl (cI, (9, .inl (fun _ => 0)))), (u9 1, .inl (cI, (9, .inl (fun _ => 0)))), (u9 2, .inl (cI, (72, .inl (fun _ => 0)))), (u9 3, .inl (cI, (9, .inl (fun _ => 0)))), (u9 4, .inl (cI, (9, .inl (fun _ => 0)))), (q33, .inl (cI, (9, .inl (fun _ => 0)))), (q41, .inl (cI, (9, .inl (fun _ => 0)))), (q49, .inl (cI, (72, .inl (fun _ => 0)))), (q57, .inl (cI, (30, .inl (fun _ => 0))))]) rfl ?_
  refine gn_aload (pc := 62) X 0 dX0_init_62 rfl rfl ?_
  refine gn_bipush (pc := 63) X dX0_init_63 (by decide) (by decide) ?_
  refine gn_newI (pc := 65) (N := 30) X rfl (Nat.le_of_ble_eq_true rfl) (Nat.le_of_ble_eq_true rfl) (Nat.le_of_ble_eq_true rfl) dX0_init_65 (fun q65 => ?_)
  refine gn_to (ws' := [(h0, .inr (0, [.ref q5, .int (i32 0), .int (i32 0), .int (i32 0), .ref q33, .ref q41, .ref q49, .ref q57, .null, .null, .null])), (q5, .inr (1, [.int (i32 10), .int (i32 0), .int (i32 0), .ref (u9 0), .ref (u9 1), .ref (u9 2), .ref (u9 3), .ref (u9 4)])), (u9 0, .inl (cI, (9, .inl (fun _ => 0)))), (u9 1, .inl (cI, (9, .inl (fun _ => 0)))), (u9 2, .inl (cI, (72, .inl (fun _ => 0)))), (u9 3, .inl (cI, (9, .inl (fun _ => 0)))), (u9 4, .inl (cI, (9, .inl (fun _ => 0)))), (q33, .inl (cI, (9, .inl (fun _ => 0)))), (q41, .inl (cI, (9, .inl (fun _ => 0)))), (q49, .inl (cI, (72, .inl (fun _ => 0)))), (q57, .inl (cI, (30, .inl (fun _ => 0)))), (q65, .inl (cI, (30, .inl (fun _ => 0))))]) rfl ?_
  refine gn_putF (pc := 67) X hI 0 8 rfl rfl inT_X0 tyX0_ok nmX0 (by decide) fL_X0_41 rfl rfl rfl rfl rfl (Nat.le_of_ble_eq_true rfl) dX0_init_67 ?_
  refine gn_to (ws' := [(h0, .inr (0, [.ref q5, .int (i32 0), .int (i32 0), .int (i32 0), .ref q33, .ref q41, .ref q49, .ref q57, .ref q65, .null, .null])), (q5, .inr (1, [.int (i32 10), .int (i32 0), .int (i32 0), .ref (u9 0), .ref (u9 1), .ref (u9 2), .ref (u9 3), .ref (u9 4)])), (u9 0, .inl (cI, (9, .inl (fun _ => 0)))), (u9 1, .inl (cI, (9, .inl (fun _ => 0)))), (u9 2, .inl (cI, (72, .inl (fun _ => 0)))), (u9 3, .inl (cI, (9, .inl (fun _ => 0)))), (u9 4, .inl (cI, (9, .inl (fun _ => 0)))), (q33, .inl (cI, (9, .inl (fun _ => 0)))), (q41, .inl (cI, (9, .inl (fun _ => 0)))), (q49, .inl (cI, (72, .inl (fun _ => 0)))), (q57, .inl (cI, (30, .inl (fun _ => 0)))), (q65, .inl (cI, (30, .inl (fun _ => 0))))]) rfl ?_
  refine gn_aload (pc := 70) X 0 dX0_init_70 rfl rfl ?_
  refine gn_bipush (pc := 71) X dX0_init_71 (by decide) (by decide) ?_
  refine gn_newI (pc := 73) (N := 9) X rfl (Nat.le_of_ble_eq_true rfl) (Nat.le_of_ble_eq_true rfl) (Nat.le_of_ble_eq_true rfl) dX0_init_73 (fun q73 => ?_)
  refine gn_to (ws' := [(h0, .inr (0, [.ref q5, .int (i32 0), .int (i32 0), .int (i32 0), .ref q33, .ref q41, .ref q49, .ref q57, .ref q65, .null, .null])), (q5, .inr (1, [.int (i32 10), .int (i32 0), .int (i32 0), .ref (u9 0), .ref (u9 1), .ref (u9 2), .ref (u9 3), .ref (u9 4)])), (u9 0, .inl (cI, (9, .inl (fun _ => 0)))), (u9 1, .inl (cI, (9, .inl (fun _ => 0)))), (u9 2, .inl (cI, (72, .inl (fun _ => 0)))), (u9 3, .inl (cI, (9, .inl (fun _ => 0)))), (u9 4, .inl (cI, (9, .inl (fun _ => 0)))), (q33, .inl (cI, (9, .inl (fun _ => 0)))), (q41, .inl (cI, (9, .inl (fun _ => 0)))), (q49, .inl (cI, (72, .inl (fun _ => 0)))), (q57, .inl (cI, (30, .inl (fun _ => 0)))), (q65, .inl (cI, (30, .inl (fun _ => 0)))), (q73, .inl (cI, (9, .inl (fun _ => 0))))]) rfl ?_
  refine gn_putF (pc := 75) X hI 0 9 rfl rfl inT_X0 tyX0_ok nmX0 (by decide) fL_X0_44 rfl rfl rfl rfl rfl (Nat.le_of_ble_eq_true rfl) dX0_init_75 ?_
  refine gn_to (ws' := [(h0, .inr (0, [.ref q5, .int (i32 0), .int (i32 0), .int (i32 0), .ref q33, .ref q41, .ref q49, .ref q57, .ref q65, .ref q73, .null])), (q5, .inr (1, [.int (i32 10), .int (i32 0), .int (i32 0), .ref (u9 0), .ref (u9 1), .ref (u9 2), .ref (u9 3), .ref (u9 4)])), (u9 0, .inl (cI, (9, .inl (fun _ => 0)))), (u9 1, .inl (cI, (9, .inl (fun _ => 0)))), (u9 2, .inl (cI, (72, .inl (fun _ => 0)))), (u9 3, .inl (cI, (9, .inl (fun _ => 0)))), (u9 4, .inl (cI, (9, .inl (fun _ => 0)))), (q33, .inl (cI, (9, .inl (fun _ => 0)))), (q41, .inl (cI, (9, .inl (fun _ => 0)))), (q49, .inl (cI, (72, .inl (fun _ => 0)))), (q57, .inl (cI, (30, .inl (fun _ => 0)))), (q65, .inl (cI, (30, .inl (fun _ => 0)))), (q73, .inl (cI, (9, .inl (fun _ => 0))))]) rfl ?_
  refine gn_aload (pc := 78) X 0 dX0_init_78 rfl rfl ?_
  refine gn_bipush (pc := 79) X dX0_init_79 (by decide) (by decide) ?_
  refine gn_newI (pc := 81) (N := 9) X rfl (Nat.le_of_ble_eq_true rfl) (Nat.le_of_ble_eq_true rfl) (Nat.le_of_ble_eq_true rfl) dX0_init_81 (fun q81 => ?_)
  refine gn_to (ws' := [(h0, .inr (0, [.ref q5, .int (i32 0), .int (i32 0), .int (i32 0), .ref q33, .ref q41, .ref q49, .ref q57, .ref q65, .ref q73, .null])), (q5, .inr (1, [.int (i32 10), .int (i32 0), .int (i32 0), .ref (u9 0), .ref (u9 1), .ref (u9 2), .ref (u9 3), .ref (u9 4)])), (u9 0, .inl (cI, (9, .inl (fun _ => 0)))), (u9 1, .inl (cI, (9, .inl (fun _ => 0)))), (u9 2, .inl (cI, (72, .inl (fun _ => 0)))), (u9 3, .inl (cI, (9, .inl (fun _ => 0)))), (u9 4, .inl (cI, (9, .inl (fun _ => 0)))), (q33, .inl (cI, (9, .inl (fun _ => 0)))), (q41, .inl (cI, (9, .inl (fun _ => 0)))), (q49, .inl (cI, (72, .inl (fun _ => 0)))), (q57, .inl (cI, (30, .inl (fun _ => 0)))), (q65, .inl (cI, (30, .inl (fun _ => 0)))), (q73, .inl (cI, (9, .inl (fun _ => 0)))), (q81, .inl (cI, (9, .inl (fun _ => 0))))]) rfl ?_
  refine gn_putF (pc := 83) X hI 0 10 rfl rfl inT_X0 tyX0_ok nmX0 (by decide) fL_X0_47 rfl rfl rfl rfl rfl (Nat.le_of_ble_eq_true rfl) dX0_init_83 ?_
  refine gn_to (ws' := [(h0, .inr (0, [.ref q5, .int (i32 0), .int (i32 0), .int (i32 0), .ref q33, .ref q41, .ref q49, .ref q57, .ref q65, .ref q73, .ref q81])), (q5, .inr (1, [.int (i32 10), .int (i32 0), .int (i32 0), .ref (u9 0), .ref (u9 1), .ref (u9 2), .ref (u9 3), .ref (u9 4)])), (u9 0, .inl (cI, (9, .inl (fun _ => 0)))), (u9 1, .inl (cI, (9, .inl (fun _ => 0)))), (u9 2, .inl (cI, (72, .inl (fun _ => 0)))), (u9 3, .inl (cI, (9, .inl (fun _ => 0)))), (u9 4, .inl (cI, (9, .inl (fun _ => 0)))), (q33, .inl (cI, (9, .inl (fun _ => 0)))), (q41, .inl (cI, (9, .inl (fun _ => 0)))), (q49, .inl (cI, (72, .inl (fun _ => 0)))), (q57, .inl (cI, (30, .inl (fun _ => 0)))), (q65, .inl (cI, (30, .inl (fun _ => 0)))), (q73, .inl (cI, (9, .inl (fun _ => 0)))), (q81, .inl (cI, (9, .inl (fun _ => 0))))]) rfl ?_
  exact gn_ret (pc := 86) X hr hlk (fun i => [q5, u9 0, u9 1, u9 2, u9 3, u9 4, q33, q41, q49, q57, q65, q73, q81].getD i 0) rfl dX0_init_86
def wN3 (cI cB : ClassId) (h : Nat) (u : Nat → Nat) : va_W := [(h, .inr (3, [.int (i32 0), .ref (u 0)])), (u 0, .inl (cI, (32, .inl (fun _ => 0))))]
set_option maxRecDepth 100000 in
set_option maxHeartbeats 4000000 in
theorem nc_X3 {l : Launch} {D : va_G} {cI cB : ClassId} : Nct l D cI cB yX3_init cX3_init 1 12 1 32 (.inr (3, [.int 0, .null])) (wN3 cI cB) := by
  refine nct_of (by decide +kernel) rfl ?_
  intro h0 p e s m args below meth c A X hI hr hlk
  refine gn_aload (pc := 0) X 0 dX3_init_0 rfl rfl ?_
  refine gn_objInit (pc := 1) X mL_X3_5 (Nat.le_of_ble_eq_true rfl) (Nat.le_of_ble_eq_true rfl) dX3_init_1 ?_
  refine gn_aload (pc := 4) X 0 dX3_init_4 rfl rfl ?_
  refine gn_iconst (pc := 5) X dX3_init_5 ?_
  refine gn_put (pc := 6) X 0 0 rfl rfl inT_X3 tyX3_ok nmX3 (by decide) fL_X3_11 rfl rfl rfl rfl (Nat.le_of_ble_eq_true rfl) dX3_init_6 ?_
  refine gn_to (ws' := [(h0, .inr (3, [.int (i32 0), .null]))]) rfl ?_
  refine gn_aload (pc := 9) X 0 dX3_init_9 rfl rfl ?_
  refine gn_bipush (pc := 10) X dX3_init_10 (by decide) (by decide) ?_
  refine gn_newI (pc := 12) (N := 32) X rfl (Nat.le_of_ble_eq_true rfl) (Nat.le_of_ble_eq_true rfl) (Nat.le_of_ble_eq_true rfl) dX3_init_12 (fun q12 => ?_)
  refine gn_to (ws' := [(h0, .inr (3, [.int (i32 0), .null])), (q12, .inl (cI, (32, .inl (fun _ => 0))))]) rfl ?_
  refine gn_putF (pc := 14) X hI 0 1 rfl rfl inT_X3 tyX3_ok nmX3 (by decide) fL_X3_15 rfl rfl rfl rfl rfl (Nat.le_of_ble_eq_true rfl) dX3_init_14 ?_
  refine gn_to (ws' := [(h0, .inr (3, [.int (i32 0), .ref q12])), (q12, .inl (cI, (32, .inl (fun _ => 0))))]) rfl ?_
  exact gn_ret (pc := 17) X hr hlk (fun i => [q12].getD i 0) rfl dX3_init_17
def wN2 (cI cB : ClassId) (h : Nat) (u : Nat → Nat) : va_W := [(h, .inr (2, [.int (i32 0), .int (i32 0), .ref (u 0)])), (u 0, .inl (cI, (1512, .inl (fun _ => 0))))]
set_option maxRecDepth 100000 in
set_option maxHeartbeats 4000000 in
theorem nc_X2 {l : Launch} {D : va_G} {cI cB : ClassId} : Nct l D cI cB yX2_init cX2_init 1 12 1 1512 (.inr (2, [.int 0, .int 0, .null])) (wN2 cI cB) := by
  refine nct_of (by decide +kernel) rfl ?_
  intro h0 p e s m args below meth c A X hI hr hlk
  refine gn_aload (pc := 0) X 0 dX2_init_0 rfl rfl ?_
  refine gn_objInit (pc := 1) X mL_X2_5 (Nat.le_of_ble_eq_true rfl) (Nat.le_of_ble_eq_true rfl) dX2_init_1 ?_
  refine gn_aload (pc := 4) X 0 dX2_init_4 rfl rfl ?_
  refine gn_iconst (pc := 5) X dX2_init_5 ?_
  refine gn_put (pc := 6) X 0 0 rfl rfl inT_X2 tyX2_ok nmX2 (by decide) fL_X2_11 rfl rfl rfl rfl (Nat.le_of_ble_eq_true rfl) dX2_init_6 ?_
  refine gn_to (ws' := [(h0, .inr (2, [.int (i32 0), .int 0, .null]))]) rfl ?_
  refine gn_aload (pc := 9) X 0 dX2_init_9 rfl rfl ?_
  refine gn_iconst (pc := 10) X dX2_init_10 ?_
  refine gn_put (pc := 11) X 0 1 rfl rfl inT_X2 tyX2_ok nmX2 (by decide) fL_X2_17 rfl rfl rfl rfl (Nat.le_of_ble_eq_true rfl) dX2_init_11 ?_
  refine gn_to (ws' := [(h0, .inr (2, [.int (i32 0), .int (i32 0), .null]))]) rfl ?_
  refine gn_aload (pc := 14) X 0 dX2_init_14 rfl rfl ?_
  refine gn_sipush (pc := 15) X dX2_init_15 (by decide) (by decide) ?_
  refine gn_newI (pc := 18) (N := 1512) X rfl (Nat.le_of_ble_eq_true rfl) (Nat.le_of_ble_eq_true rfl) (Nat.le_of_ble_eq_true rfl) dX2_init_18 (fun q18 => ?_)
  refine gn_to (ws' := [(h0, .inr (2, [.int (i32 0), .int (i32 0), .null])), (q18, .inl (cI, (1512, .inl (fun _ => 0))))]) rfl ?_
  refine gn_putF (pc := 20) X hI 0 2 rfl rfl inT_X2 tyX2_ok nmX2 (by decide) fL_X2_20 rfl rfl rfl rfl rfl (Nat.le_of_ble_eq_true rfl) dX2_init_20 ?_
  refine gn_to (ws' := [(h0, .inr (2, [.int (i32 0), .int (i32 0), .ref q18])), (q18, .inl (cI, (1512, .inl (fun _ => 0))))]) rfl ?_
  exact gn_ret (pc := 23) X hr hlk (fun i => [q18].getD i 0) rfl dX2_init_23
def wN4 (cI cB : ClassId) (h : Nat) (u : Nat → Nat) : va_W := [(h, .inr (4, [.int (i32 (-1)), .int (i32 0), .int (i32 (-2))]))]
set_option maxRecDepth 100000 in
set_option maxHeartbeats 4000000 in
theorem nc_X4 {l : Launch} {D : va_G} {cI cB : ClassId} : Nct l D cI cB yX4_init cX4_init 1 12 0 0 (.inr (4, [.int 0, .int 0, .int 0])) (wN4 cI cB) := by
  refine nct_of (by decide +kernel) rfl ?_
  intro h0 p e s m args below meth c A X hI hr hlk
  refine gn_aload (pc := 0) X 0 dX4_init_0 rfl rfl ?_
  refine gn_objInit (pc := 1) X mL_X4_3 (Nat.le_of_ble_eq_true rfl) (Nat.le_of_ble_eq_true rfl) dX4_init_1 ?_
  refine gn_aload (pc := 4) X 0 dX4_init_4 rfl rfl ?_
  refine gn_iconst (pc := 5) X dX4_init_5 ?_
  refine gn_put (pc := 6) X 0 0 rfl rfl inT_X4 tyX4_ok nmX4 (by decide) fL_X4_9 rfl rfl rfl rfl (Nat.le_of_ble_eq_true rfl) dX4_init_6 ?_
  refine gn_to (ws' := [(h0, .inr (4, [.int (i32 (-1)), .int 0, .int 0]))]) rfl ?_
  refine gn_aload (pc := 9) X 0 dX4_init_9 rfl rfl ?_
  refine gn_iconst (pc := 10) X dX4_init_10 ?_
  refine gn_put (pc := 11) X 0 1 rfl rfl inT_X4 tyX4_ok nmX4 (by decide) fL_X4_15 rfl rfl rfl rfl (Nat.le_of_ble_eq_true rfl) dX4_init_11 ?_
  refine gn_to (ws' := [(h0, .inr (4, [.int (i32 (-1)), .int (i32 0), .int 0]))]) rfl ?_
  refine gn_aload (pc := 14) X 0 dX4_init_14 rfl rfl ?_
  refine gn_bipush (pc := 15) X dX4_init_15 (by decide) (by decide) ?_
  refine gn_put (pc := 17) X 0 2 rfl rfl inT_X4 tyX4_ok nmX4 (by decide) fL_X4_18 rfl rfl rfl rfl (Nat.le_of_ble_eq_true rfl) dX4_init_17 ?_
  refine gn_to (ws' := [(h0, .inr (4, [.int (i32 (-1)), .int (i32 0), .int (i32 (-2))]))]) rfl ?_
  exact gn_ret (pc := 20) X hr hlk (fun i => [].getD i 0) rfl dX4_init_20
