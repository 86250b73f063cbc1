/-! ===== the law's loop, and its start ===== -/
theorem andb_63 {x : Int} : andb x 63 = x % 64 := by
  have h1 : (i32 x &&& i32 63).toBitVec.toNat = (x % 4294967296).toNat % 64 := by
    show ((i32 x).toBitVec &&& (i32 63).toBitVec).toNat = _
    rw [BitVec.toNat_and]
    show (BitVec.ofInt 32 x).toNat &&& 63 = _
    rw [BitVec.toNat_ofInt, show (63 : Nat) = 2 ^ 6 - 1 by decide, Nat.and_two_pow_sub_one_eq_mod]
    rw [show ((2 ^ 32 : Nat) : Int) = 4294967296 by decide]
  have h2 : andb x 63 = ((i32 x &&& i32 63).toBitVec.toNat : Int) := by
    show (i32 x &&& i32 63).toBitVec.toInt = _
    apply BitVec.toInt_eq_toNat_of_lt
    rw [h1]
    omega
  rw [h2, h1]
  omega
section LL
variable {p : Program} {l : Launch} {e : Env} {s : State} {m : MethodId} {below : List Frame} {meth : Method} {c : Code} {D : va_G} {cI cB : ClassId} {Z : (Nat → Nat) × (Nat → Nat)} {b L : Nat} {xs : Nat → Int32} {aC aM : Nat → Nat} {Q : State → Prop}
set_option maxRecDepth 100000 in
theorem law_loop (X : Cl p s m c D cI cB Z b L xs) (hend : ∀ (Ls : List (Nat × Value)) (S T : Mem), Gl p l e s m below meth c D cI cB b aC aM Q 2067 Ls [] S T) : ∀ (n i : Nat) (S T : Mem), i ≤ L → L < i + n → Rel S T → Gl p l e s m below meth c D cI cB b aC aM Q 18 [(0, .ref b), (1, .ref (aC 0)), (2, .ref (aM 0)), (3, .int (i32 (i : Int)))] [] S T := by
  intro n
  induction n with
  | zero => intro i S T h1 h2; omega
  | succ n ih =>
    intro i S T h1 h2 hr
    have hL := X.2.2.2.2.2.2.2.2.2
    refine gl_iload (pc := 18) X 3 dL_law_18 rfl rfl ?_
    refine gl_aload (pc := 19) X 0 dL_law_19 rfl rfl ?_
    refine gl_slen (pc := 20) X dL_law_20 ?_
    refine gl_bipush (pc := 21) X dL_law_21 (by decide) (by decide) ?_
    refine gl_isub (pc := 23) X dL_law_23 ?_
    refine gl_icmp_gt (pc := 24) X 2067 dL_law_24 rfl (fun _ => hend _ S T) (fun hn => ?_)
    have hi : i + 6 ≤ L := by
      rcases Nat.lt_or_ge L (i + 6) with z | z
      · exact absurd (ltb_t (x := (L : Int) - 6) (y := (i : Int)) (by omega) (by omega) (by omega)) hn
      · exact z
    refine gl_aload (pc := 27) X 0 dL_law_27 rfl rfl ?_
    refine gl_iload (pc := 28) X 3 dL_law_28 rfl rfl ?_
    refine gl_sld (pc := 29) X (i := i) (by omega) dL_law_29 ?_
    refine gl_bipush (pc := 30) X dL_law_30 (by decide) (by decide) ?_
    refine gl_iand (pc := 32) X dL_law_32 ?_
    have k : ∀ S' T' : Mem, Rel S' T' → Gl p l e s m below meth c D cI cB b aC aM Q 2061 [(0, .ref b), (1, .ref (aC 0)), (2, .ref (aM 0)), (3, .int (i32 (i : Int)))] [] S' T' := by
      intro S' T' hr'
      refine gl_iinc (pc := 2061) (Ls' := [(0, .ref b), (1, .ref (aC 0)), (2, .ref (aM 0)), (3, .int (i32 ((i : Int) + 6)))]) X [1, 2, 3, 0] 3 dL_law_2061 rfl (by decide) rfl ?_
      refine gl_goto (pc := 2064) X 18 dL_law_2064 rfl ?_
      rw [show (i : Int) + 6 = ((i + 6 : Nat) : Int) by omega]
      exact ih (i + 6) S' T' hi (by omega) hr'
    have hv : (i32 (andb (xs i).toInt 63)).toInt = (xs i).toInt % 64 := by
      rw [andb_63, i32_in (by omega) (by omega)]
    by_cases h59 : (xs i).toInt % 64 < 59
    · exact law_case X (by omega) hr ((xs i).toInt % 64).toNat (by omega) (by rw [hv]; omega) k
    · exact gl_tabx (pc := 33) X 2061 dL_law_33 (Or.inr (by rw [hv]; omega)) rfl (k S T hr)
end LL
theorem K_start {args : Array Value} {s : State} (h : ∀ w ∈ TT, w.before args s = true) : ∃ (D : va_G) (cI cB : ClassId), va_K D vwCl [(cI, .int), (cB, .byte)] s := by
  obtain ⟨c0, i0, k0⟩ := u_known (C := RX0) (T := TX0) (N := 11) (n := 11) h inT_X0 (h _ is_X0)
  obtain ⟨c1, i1, k1⟩ := u_known (C := RX1) (T := TX1) (N := 8) (n := 8) h inT_X1 (h _ is_X1)
  obtain ⟨c2, i2, k2⟩ := u_known (C := RX2) (T := TX2) (N := 3) (n := 3) h inT_X2 (h _ is_X2)
  obtain ⟨c3, i3, k3⟩ := u_known (C := RX3) (T := TX3) (N := 2) (n := 2) h inT_X3 (h _ is_X3)
  obtain ⟨c4, i4, k4⟩ := u_known (C := RX4) (T := TX4) (N := 3) (n := 3) h inT_X4 (h _ is_X4)
  obtain ⟨c5, i5, k5⟩ := u_known (C := RX5) (T := TX5) (N := 2) (n := 2) h inT_X5 (h _ is_X5)
  obtain ⟨c6, i6, k6⟩ := u_known (C := RX6) (T := TX6) (N := 5) (n := 5) h inT_X6 (h _ is_X6)
  obtain ⟨c7, i7, k7⟩ := u_known (C := RX7) (T := TX7) (N := 10) (n := 10) h inT_X7 (h _ is_X7)
  obtain ⟨c8, i8, k8⟩ := u_known (C := RX8) (T := TX8) (N := 24) (n := 24) h inT_X8 (h _ is_X8)
  obtain ⟨cI, kI, pI, f1, f2, f3⟩ := Cond.arrayClass_spec (h _ aC_int)
  obtain ⟨cB, kB, pB, g1, g2, g3⟩ := Cond.arrayClass_spec (h _ aC_byte)
  refine ⟨(fun k => match k with | 0 => c0 | 1 => c1 | 2 => c2 | 3 => c3 | 4 => c4 | 5 => c5 | 6 => c6 | 7 => c7 | _ => c8, fun k => match k with | 0 => i0 | 1 => i1 | 2 => i2 | 3 => i3 | 4 => i4 | 5 => i5 | 6 => i6 | 7 => i7 | _ => i8), cI, cB, ⟨fun k q hq => ?_, fun k q hq => ?_⟩⟩
  · match k, hq with
    | 0, hq => cases hq; exact k0
    | 1, hq => cases hq; exact k1
    | 2, hq => cases hq; exact k2
    | 3, hq => cases hq; exact k3
    | 4, hq => cases hq; exact k4
    | 5, hq => cases hq; exact k5
    | 6, hq => cases hq; exact k6
    | 7, hq => cases hq; exact k7
    | 8, hq => cases hq; exact k8
    | k + 9, hq => simp at hq
  · match k, hq with
    | 0, hq => cases hq; exact ⟨fun n z => ⟨fun k h => (by cases h), kI, f2, pI, f3⟩, f1⟩
    | 1, hq => cases hq; exact ⟨fun n z => ⟨fun k h => (by cases h), kB, g2, pB, g3⟩, g1⟩
    | k + 2, hq => simp at hq
theorem NW_start {args : Array Value} {s : State} (h : ∀ w ∈ lw_tbl, w.before args s = true) : NW s :=
  ⟨va_Nw.of rfl (h _ (tb1 26 rfl)), va_Nw.of rfl (h _ (tb1 32 rfl)), va_Nw.of rfl (h _ (tb1 66 rfl)), va_Nw.of rfl (h _ (tb1 72 rfl)), va_Nw.of rfl (h _ (tb1 159 rfl)), va_Nw.of rfl (h _ (tb1 173 rfl)), va_Nw.of rfl (h _ (tb1 190 rfl))⟩
section GN4
variable {p : Program} {l : Launch} {e : Env} {R : Room} {s : State} {m : MethodId} {args : Array Value} {below : List Frame} {meth : Method} {c : Code} {cc : ByteArray} {nL : Nat} {own : String} {D : va_G} {cI cB : ClassId} {Z : (Nat → Nat) × (Nat → Nat)} {A : Nat → Prop} {Q : State → Prop} {cells slots pc : Nat} {Ls Ls' : List (Nat × Value)} {st : List Value} {ws ws' : va_W}
theorem nkPM_blind {h0 sz : Nat} {e0 : va_E} : FrameBlind (nkPM D cI cB Z h0 e0 sz) := fun a U g mk q => by
  obtain ⟨q0, q1, qP, qK, qD, qN, qS⟩ := q
  exact ⟨q0, q1, qP, va_K.moved (u := U) (U := U.calling g mk a) (Vm.Alike.refl U.vm) qK, qD, qN.same rfl, qS.blind⟩
theorem gn_callIM (X : Cn p s m args c cc nL own D cI cB A) (hZ : StrW Z A s) {b mc ms rl rf idx : Nat} {e0 : va_E} {w : Nat → (Nat → Nat) → va_W} {y : MethodName} {by_ : ByteArray} (hM : NctM l D cI cB Z y by_ rf rl mc ms e0 w) (hnd : va_nd (List.range ws.length) = true) (hlk : Cond.methodLink own idx y ∈ TT) (hcd : Cond.code y by_ 1 none ∈ TT) (hini : Cond.initialized y.cls ∈ TT) (him : Cond.instanceMethod y ∈ TT) (hyn : y.name = "<init>") (hd2 : y.cls ≠ "java/lang/invoke/MethodHandle" ∧ y.cls ≠ "java/lang/invoke/VarHandle" ∧ (parseMethodDescriptor y.desc).map (fun d => d.parameters.length) = some 0) (hR : rf + 1 ≤ R.frames ∧ 8 + (1 + 11) + rl ≤ R.locals) (hro : ((.ref b :: st : List Value).map fun v => v.category).sum ≤ 8) (hcs : cells + mc ≤ R.cells ∧ slots + ms ≤ R.slots) (hd : decode cc pc = .ok (.invokespecial idx, 3)) (k : ∀ u : Nat → Nat, Gn p l e R s m args below meth c nL D A Q (cells + mc) (slots + ms) (pc + 3) Ls (.ref b :: st) (ws ++ w b u)) : Gn p l e R s m args below meth c nL D A Q cells slots pc Ls (.ref b :: .ref b :: st) (ws ++ [(b, e0)]) := by
  intro H locs ls hP hD hS hl
  have hPc := va_P.sub (ws' := [(b, e0)]) hP [ws.length] (by simp)
  have hDc := va_D.sub (ws' := [(b, e0)]) hD [ws.length] rfl (map_last ws _)
  have hF := va_free (wc := [(b, e0)]) hD hS X.2.2.2.2.2.2.1 [ws.length] (map_last ws _)
  refine gn_after X hnd (va_runI (As := []) (rest := .ref b :: st) ⟨X.1, X.2.1, X.2.2.1, X.2.2.2.1, X.2.2.2.2.1⟩ (hM b H.size) (cwI 0 X.2.2.2.2.1 (fun z hz => ?_) rfl rfl rfl (X.2.2.2.2.1 _ hini) (X.2.2.2.2.1 _ hlk) (X.2.2.2.2.1 _ him) hyn hd2 hR) ⟨nkPM_blind, fun U hU hW => ⟨rfl, by rw [hU], by rw [hU]; exact hPc, va_K.moved hW.alike X.2.2.2.2.2.1, hDc.weaken (fun _ _ _ _ => trivial), X.2.2.2.2.2.2.2.warm hW, hZ.go hS hU hW hF⟩⟩ rfl rfl hl.1 rfl (lv_room hro) hd hcs) hP hD hS hl k
  rcases List.mem_cons.mp hz with rfl | h
  · exact ⟨hcd, TT_good hcd⟩
  · exact ⟨h, TT_good h⟩
end GN4
theorem wN7_mk {cI cB : ClassId} {h : Nat} {u : Nat → Nat} : [] ++ wN7 cI cB h u = mkW (adr h u) cI cB shsC S0 := by
  rw [List.nil_append]
  unfold wN7
  rfl
set_option maxRecDepth 100000 in
set_option maxHeartbeats 1000000 in
theorem whole_start {p : Program} {e : Env} {s : State} {m : MethodId} {below : List Frame} {meth : Method} {c : Code} (l : Launch) (hflags : l.flags = flags0) {b L : Nat} {xs : Nat → Int32} (hL : L ≤ 3072) (C0 : lw_At p s m meth c b L xs) : W p l e room_1 s m #[Value.ref b] below meth c s.heap [] 0 0 (lw_Z below #[Value.ref b] s) (entryFrame m ([Value.ref b] : List Value).toArray 4) := by
  obtain ⟨hx, hb, hr, hml, hown, hts, hX, hbl, hlocks, hgv⟩ := C0
  have hTT : ∀ w ∈ TT, w.before #[Value.ref b] s = true := fun w hw => hts w (TT_tbl hw)
  obtain ⟨D, cI, cB, hK⟩ := K_start hTT
  obtain ⟨Z, hZ⟩ := StrW_start hts hgv
  obtain ⟨T0, t1, t2, t3, t4⟩ := M_starts (T := T00) (q := 1)
  have hrel : Rel S0 T0 := Rel_start t2 t3 t4
  have X : Cn p s m #[Value.ref b] c code 4 RL D cI cB (LA s) := ⟨hx, hb, hml, hown, hTT, hK, fun _ h => h, NW_start hts⟩
  have XL : Cl p s m c D cI cB Z b L xs := ⟨hx, hb, hml, hown, hTT, hK, hZ, hX, hbl, hL⟩
  have go : Gn p l e room_1 s m #[Value.ref b] below meth c 4 D (LA s) (lw_Z below #[Value.ref b] s) 0 0 0 [(0, .ref b)] [] [] := by
    refine gn_new (pc := 0) (ci := 7) (fs := [.null, .null, .null, .null, .null, .null, .null, .null, .null, .int 0]) (C := RX7) (T := TX7) (N := 10) X tyX7 inT_X7 tyX7_ok kL_L_7 is_X7 in_X7 rfl (fun j hj => by rcases (show j = 0 ∨ j = 1 ∨ j = 2 ∨ j = 3 ∨ j = 4 ∨ j = 5 ∨ j = 6 ∨ j = 7 ∨ j = 8 ∨ j = 9 by omega) with rfl | rfl | rfl | rfl | rfl | rfl | rfl | rfl | rfl | rfl <;> rfl) (Nat.le_of_ble_eq_true rfl) (Nat.le_of_ble_eq_true rfl) dL_law_0 (fun q0 => ?_)
    refine gn_dup (pc := 3) X dL_law_3 rfl ?_
    refine gn_callI (pc := 4) (cells := 1) (slots := 10) (R := room_1) (b := q0) (st := []) (ws := []) X (nc_X7 (cI := cI) (cB := cB)) (nd_range _) mL_L_9 cd_X7_init in_X7 iM_X7_init rfl (by decide +kernel) ⟨Nat.le_of_ble_eq_true rfl, Nat.le_of_ble_eq_true rfl⟩ (Nat.le_of_ble_eq_true rfl) ⟨Nat.le_of_ble_eq_true rfl, Nat.le_of_ble_eq_true rfl⟩ dL_law_4 (fun u4 => ?_)
    refine gn_to (ws' := mkW (adr q0 u4) cI cB shsC S0) wN7_mk ?_
    refine gn_astore (pc := 7) (Ls' := [(0, .ref b), (1, .ref q0)]) X [1, 0] dL_law_7 rfl (by decide) rfl ?_
    refine gn_new (pc := 8) (ci := 8) (fs := [.int 0, .null, .null, .null, .null, .int 0, .null, .null, .null, .null, .null, .int 0, .int 0, .null, .null, .int 0, .null, .int 0, .null, .int 0, .int 0, .int 0, .int 0, .int 0]) (C := RX8) (T := TX8) (N := 24) X tyX8 inT_X8 tyX8_ok kL_L_10 is_X8 in_X8 rfl (fun j hj => by rcases (show j = 0 ∨ j = 1 ∨ j = 2 ∨ j = 3 ∨ j = 4 ∨ j = 5 ∨ j = 6 ∨ j = 7 ∨ j = 8 ∨ j = 9 ∨ j = 10 ∨ j = 11 ∨ j = 12 ∨ j = 13 ∨ j = 14 ∨ j = 15 ∨ j = 16 ∨ j = 17 ∨ j = 18 ∨ j = 19 ∨ j = 20 ∨ j = 21 ∨ j = 22 ∨ j = 23 by omega) with rfl | rfl | rfl | rfl | rfl | rfl | rfl | rfl | rfl | rfl | rfl | rfl | rfl | rfl | rfl | rfl | rfl | rfl | rfl | rfl | rfl | rfl | rfl | rfl <;> rfl) (Nat.le_of_ble_eq_true rfl) (Nat.le_of_ble_eq_true rfl) dL_law_8 (fun q8 => ?_)
    refine gn_dup (pc := 11) X dL_law_11 rfl ?_
    refine gn_callIM (pc := 12) (cells := 38) (slots := 2683) (R := room_1) (b := q8) (st := []) (ws := mkW (adr q0 u4) cI cB shsC S0) X hZ (nc_X8 (cI := cI) (cB := cB) (Z := Z) t1) (nd_range _) mL_L_12 cd_X8_init in_X8 iM_X8_init rfl (by decide +kernel) ⟨Nat.le_of_ble_eq_true rfl, Nat.le_of_ble_eq_true rfl⟩ (Nat.le_of_ble_eq_true rfl) ⟨Nat.le_of_ble_eq_true rfl, Nat.le_of_ble_eq_true rfl⟩ dL_law_12 (fun u12 => ?_)
    refine gn_astore (pc := 15) (Ls' := [(0, .ref b), (1, .ref q0), (2, .ref q8)]) X [1, 2, 0] dL_law_15 rfl (by decide) rfl ?_
    refine gn_iconst (pc := 16) X dL_law_16 ?_
    refine gn_istore (pc := 17) (Ls' := [(0, .ref b), (1, .ref q0), (2, .ref q8), (3, .int (i32 0))]) X [1, 2, 3, 0] dL_law_17 rfl (by decide) rfl ?_
    have hend : ∀ (Ls : List (Nat × Value)) (S T : Mem), Gl p l e s m below meth c D cI cB b (adr q0 u4) (adr q8 u12) (lw_Z below #[Value.ref b] s) 2067 Ls [] S T := by
      intro Ls S T H locs ls hP hD hS hl
      refine lv_iconst (v := 1) hx hb dL_law_2067 rfl ?_
      exact va_forget (fun q hq => hS.2.2 q hq) (lw_ret hx hb hr hlocks dL_law_2068)
    exact law_loop XL hend (L + 1) 0 S0 T0 (Nat.zero_le _) (by omega) hrel
  rw [lg_entry_eq]
  exact go s.heap [] _ (fun k q h => by simp at h) ⟨fun i j p q h => by simp at h, fun k q h => by simp at h⟩ va_S.rf (lv_entry [.ref b] (Nat.le_of_ble_eq_true rfl))
