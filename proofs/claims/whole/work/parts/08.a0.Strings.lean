/-! ===== the texts' own methods ===== -/
theorem sByt_ok : sByt.all (fun l => l.all (fun b => decide (((b &&& 255).toUInt32 % 65536).toInt32 = b) && decide (narrow .char (.int b) = .int b))) = true := by decide +kernel
theorem sByt_at {k : Nat} {i : Int} (hk : k < 14) (hi : 0 ≤ i ∧ i < sLen k) : (((((sByt.getD k []).getD i.toNat 0) &&& 255).toUInt32 % 65536).toInt32 = (sByt.getD k []).getD i.toNat 0) ∧ narrow .char (.int ((sByt.getD k []).getD i.toNat 0)) = .int ((sByt.getD k []).getD i.toNat 0) := by
  have h1 : sByt.getD k [] ∈ sByt := by
    have hl : k < sByt.length := hk
    rw [List.getD_eq_getElem?_getD, List.getElem?_eq_getElem hl]
    exact List.getElem_mem hl
  have h2 := List.all_eq_true.mp sByt_ok _ h1
  have hl : i.toNat < (sByt.getD k []).length := by
    have : i < ((sByt.getD k []).length : Int) := hi.2
    omega
  have h3 : (sByt.getD k []).getD i.toNat 0 ∈ sByt.getD k [] := by
    generalize sByt.getD k [] = q at hl ⊢
    rw [List.getD_eq_getElem?_getD, List.getElem?_eq_getElem hl]
    exact List.getElem_mem hl
  have h4 := List.all_eq_true.mp h2 _ h3
  simp only [Bool.and_eq_true, decide_eq_true_eq] at h4
  exact h4
theorem sChr_i32 (k : Nat) (i : Int) : i32 (sChr k i) = (sByt.getD k []).getD i.toNat 0 := by
  unfold sChr
  rw [i32_toInt]
theorem sLen_small {k : Nat} (hk : k < 14) : sLen k < 100 := by
  have h : ∀ k, k < 14 → sLen k < 100 := by decide +kernel
  exact h k hk
section GS
variable {p : Program} {l : Launch} {e : Env} {R : Room} {s : State} {m : MethodId} {args : Array Value} {below : List Frame} {meth : Method} {c : Code} {cc : ByteArray} {nL : Nat} {own : String} {ret : Option FieldType} {D : va_G} {cI cB : ClassId} {Z : (Nat → Nat) × (Nat → Nat)} {ad : Nat → Nat} {shs : List Shp} {A : Nat → Prop} {Q : State → Prop} {pc : Nat} {Ls Ls' : List (Nat × Value)} {st : List Value} {S : Mem}
theorem go_nret {ty : FieldType} (X : Cx p s m args meth c cc nL own (some ty) D cI cB Z A) {x : Int} (hn : narrow ty (.int (i32 x)) = .int (i32 x)) (hd : decode cc pc = .ok (.ireturn, 1)) : Go p l e R s m args below meth c nL D cI cB ad shs A (MQ below (cQ D cI cB ad shs (some (.int (i32 x))) S A) args s 0 0 A) pc Ls [.int (i32 x)] S := by
  intro H locs ls hP hD hS hl
  exact W.zret X.1 X.2.1 X.2.2.2.2.2.2.2.1 hn (fun t ht hW => ⟨rfl, by rw [ht]; exact hP, hS.F ht⟩) hS.2.2 hd X.2.2.2.2.2.2.2.2.1
theorem go_compact (X : Cx p s m args meth c cc nL own ret D cI cB Z A) {idx : Nat} (hw : Cond.fieldLink own idx "java/lang/String" "COMPACT_STRINGS" "Z" ∈ TT) (hd : decode cc pc = .ok (.getstatic idx, 3)) (k : Go p l e R s m args below meth c nL D cI cB ad shs A Q (pc + 3) Ls (.int (i32 1) :: st) S) : Go p l e R s m args below meth c nL D cI cB ad shs A Q pc Ls st S :=
  fun H locs ls hP hD hS hl => va_gets X.1 X.2.1 X.2.2.2.2.2.2.2.2.2.2.2.1 hS X.2.2.2.1 (X.2.2.2.2.1 _ hw) (fun _ h => h) hd (k H locs ls hP hD hS hl)
theorem go_fmt (X : Cx p s m args meth c cc nL own ret D cI cB Z A) {idx : Nat} (hw : Cond.fieldLink own idx "jdk/internal/util/Preconditions" "SIOOBE_FORMATTER" "Ljava/util/function/BiFunction;" ∈ TT) (hd : decode cc pc = .ok (.getstatic idx, 3)) (k : ∀ v : Value, (v = .null ∨ ∃ t, v = .ref t) → Go p l e R s m args below meth c nL D cI cB ad shs A Q (pc + 3) Ls (v :: st) S) : Go p l e R s m args below meth c nL D cI cB ad shs A Q pc Ls st S := by
  intro H locs ls hP hD hS hl
  rcases X.2.2.2.2.2.2.2.2.2.2.2.2 with h | ⟨t, h⟩
  · exact va_gets X.1 X.2.1 h hS X.2.2.2.1 (X.2.2.2.2.1 _ hw) (fun _ h => h) hd (k .null (Or.inl rfl) H locs ls hP hD hS hl)
  · exact va_gets X.1 X.2.1 h hS X.2.2.2.1 (X.2.2.2.2.1 _ hw) (fun _ h => h) hd (k (.ref t) (Or.inr ⟨t, rfl⟩) H locs ls hP hD hS hl)
theorem go_scoder (X : Cx p s m args meth c cc nL own ret D cI cB Z A) {idx : Nat} (sk : Nat) (hk : sk < 14) (hw : Cond.fieldLink own idx "java/lang/String" "coder" "B" ∈ TT) (hd : decode cc pc = .ok (.getfield idx, 3)) (k : Go p l e R s m args below meth c nL D cI cB ad shs A Q (pc + 3) Ls (.int (i32 0) :: st) S) : Go p l e R s m args below meth c nL D cI cB ad shs A Q pc Ls (.ref (Z.1 sk) :: st) S :=
  fun H locs ls hP hD hS hl => vk_getf X.1 X.2.1 ((X.2.2.2.2.2.2.2.2.2.1 sk hk).1 0 (by decide)).2.1 hS X.2.2.2.1 (X.2.2.2.2.1 _ hw) (fun _ h => h) hd (k H locs ls hP hD hS hl)
theorem go_svalue (X : Cx p s m args meth c cc nL own ret D cI cB Z A) {idx : Nat} (sk : Nat) (hk : sk < 14) (hw : Cond.fieldLink own idx "java/lang/String" "value" "[B" ∈ TT) (hd : decode cc pc = .ok (.getfield idx, 3)) (k : Go p l e R s m args below meth c nL D cI cB ad shs A Q (pc + 3) Ls (.ref (Z.2 sk) :: st) S) : Go p l e R s m args below meth c nL D cI cB ad shs A Q pc Ls (.ref (Z.1 sk) :: st) S :=
  fun H locs ls hP hD hS hl => vk_getf X.1 X.2.1 ((X.2.2.2.2.2.2.2.2.2.1 sk hk).1 0 (by decide)).2.2.1 hS X.2.2.2.1 (X.2.2.2.2.1 _ hw) (fun _ h => h) hd (k H locs ls hP hD hS hl)
theorem go_salen (X : Cx p s m args meth c cc nL own ret D cI cB Z A) (sk : Nat) (hk : sk < 14) (hd : decode cc pc = .ok (.arraylength, 1)) (k : Go p l e R s m args below meth c nL D cI cB ad shs A Q (pc + 1) Ls (.int (i32 (sLen sk : Int)) :: st) S) : Go p l e R s m args below meth c nL D cI cB ad shs A Q pc Ls (.ref (Z.2 sk) :: st) S :=
  fun H locs ls hP hD hS hl => va_tlen X.1 X.2.1 ((X.2.2.2.2.2.2.2.2.2.1 sk hk).1 0 (by decide)).2.2.2 hS (v := i32 (sLen sk : Int)) (Int32.ofInt_eq_ofNat.symm) hd (k H locs ls hP hD hS hl)
theorem go_sbald (X : Cx p s m args meth c cc nL own ret D cI cB Z A) {i : Int} (sk : Nat) (hk : sk < 14) (hi : 0 ≤ i ∧ i < sLen sk) (hd : decode cc pc = .ok (.baload, 1)) (k : Go p l e R s m args below meth c nL D cI cB ad shs A Q (pc + 1) Ls (.int (i32 (sChr sk i)) :: st) S) : Go p l e R s m args below meth c nL D cI cB ad shs A Q pc Ls (.int (i32 i) :: .ref (Z.2 sk) :: st) S := by
  intro H locs ls hP hD hS hl
  have hs := sLen_small hk
  refine va_tb X.1 X.2.1 ((X.2.2.2.2.2.2.2.2.2.1 sk hk).1 0 (by decide)).2.2.2 hS (i32_vin hi (show sLen sk ≤ 100000 by omega)) (v := .int (i32 (sChr sk i))) ?_ hd (k H locs ls hP hD hS hl)
  rw [i32_clamp hi.1 (by omega), sChr_i32]
  rfl
theorem go_i2c (X : Cx p s m args meth c cc nL own ret D cI cB Z A) {x v : Int} (hv : ((i32 x).toUInt32 % 65536).toInt32 = i32 v) (hd : decode cc pc = .ok (.i2c, 1)) (k : Go p l e R s m args below meth c nL D cI cB ad shs A Q (pc + 1) Ls (.int (i32 v) :: st) S) : Go p l e R s m args below meth c nL D cI cB ad shs A Q pc Ls (.int (i32 x) :: st) S :=
  fun H locs ls hP hD hS hl => lv_i2c X.1 X.2.1 hd hv (k H locs ls hP hD hS hl)
theorem va_ldcwT {T : State} {locs : List Loc} {cells slots : Nat} (X : Stand p l e R s m args below meth c T locs cells slots) (hexec : p.tables.exec = Jvm.exec) {own text : String} {index : Nat} {a : Addr} (hown : s.vm.findClass own = some m.cls)
    (hconst : (Cond.stringRef own index text).before #[] s = true) (hev : (Term.string own index).eval #[] s none [] s = some (.ref a)) {g : JFrame} (hg : g.method = m) (hdg : decode c.code g.pc = .ok (.ldc_w index, 3)) :
    ∀ target, Steps p.tables e below (T.setTop { g with pc := g.pc + 3, stack := .ref a :: g.stack }) target → Steps p.tables e below (T.setTop g) target := by
  obtain ⟨k, cf, i, a', hk, hcf, hcp, -, hr, hev'⟩ := Cond.stringRef_spec hown hconst
  cases hev.symm.trans hev'
  obtain ⟨k', hk', he⟩ := X.warmed.alike.2.2 _ _ hk
  have hr' : k'.resolved[index]? = some (some (.string a)) := by
    rcases X.warmed.entry hk hk' index with h | ⟨h, -⟩
    · rw [h]; exact hr
    · rw [hr] at h; cases h
  intro target hrest
  subst hg
  jvm_step X.here [hexec, hdg, ldc_w.wp_string (e := e) (s := T) (f := g) X.here.top hk' (by rw [he]; exact hcf) hcp hr']
  exact hrest
theorem go_ldcwS (X : Cx p s m args meth c cc nL own ret D cI cB Z A) {idx : Nat} {tx : String} (sk : Nat) (hs : sTab[sk]? = some (own, idx, tx)) (hd : decode cc pc = .ok (.ldc_w idx, 3)) (k : Go p l e R s m args below meth c nL D cI cB ad shs A Q (pc + 3) Ls (.ref (Z.1 sk) :: st) S) : Go p l e R s m args below meth c nL D cI cB ad shs A Q pc Ls st S := by
  intro H locs ls hP hD hS hl T hT Xs
  obtain ⟨t, a1, b1⟩ := k H locs ls hP hD hS hl T hT Xs
  have hZ := X.2.2.2.2.2.2.2.2.2.2.1 sk _ hs
  exact ⟨t, va_ldcwT Xs X.1 X.2.2.2.1 hZ.1 hZ.2 (g := F0 m pc ls st) rfl (by rw [X.2.1]; exact hd) t a1, b1⟩
end GS
theorem hdq_coder : yJ0_coder_7d493.cls = "java/lang/String" ∧ yJ0_coder_7d493.cls ≠ "java/lang/invoke/MethodHandle" ∧ yJ0_coder_7d493.cls ≠ "java/lang/invoke/VarHandle" ∧ (parseMethodDescriptor yJ0_coder_7d493.desc).map (fun d => d.parameters.length) = some 0 := by decide +kernel
theorem hdq_latin : yJ0_isLatin1_aae02.cls = "java/lang/String" ∧ yJ0_isLatin1_aae02.cls ≠ "java/lang/invoke/MethodHandle" ∧ yJ0_isLatin1_aae02.cls ≠ "java/lang/invoke/VarHandle" ∧ (parseMethodDescriptor yJ0_isLatin1_aae02.desc).map (fun d => d.parameters.length) = some 0 := by decide +kernel
theorem hdq_l1 : yJ1_charAt_3b067.cls ≠ "java/lang/invoke/MethodHandle" ∧ yJ1_charAt_3b067.cls ≠ "java/lang/invoke/VarHandle" ∧ (parseMethodDescriptor yJ1_charAt_3b067.desc).map (fun d => d.parameters.length) = some 2 := by decide +kernel
theorem hdq_chk : yJ0_checkIndex_df160.cls ≠ "java/lang/invoke/MethodHandle" ∧ yJ0_checkIndex_df160.cls ≠ "java/lang/invoke/VarHandle" ∧ (parseMethodDescriptor yJ0_checkIndex_df160.desc).map (fun d => d.parameters.length) = some 2 := by decide +kernel
theorem hdq_pchk : yJ3_checkIndex_8e157.cls ≠ "java/lang/invoke/MethodHandle" ∧ yJ3_checkIndex_8e157.cls ≠ "java/lang/invoke/VarHandle" ∧ (parseMethodDescriptor yJ3_checkIndex_8e157.desc).map (fun d => d.parameters.length) = some 3 := by decide +kernel
theorem ltb_lt {x y : Int} (h1 : -2147483648 ≤ x) (h2 : x < 2147483648) (h3 : -2147483648 ≤ y) (h4 : y < 2147483648) : ltb x y = decide (x < y) := by
  unfold ltb
  rw [decide_eq_decide, Int32.lt_iff_toInt_lt, i32_in h1 h2, i32_in h3 h4]
theorem eqb_eq {x y : Int} (h1 : -2147483648 ≤ x) (h2 : x < 2147483648) (h3 : -2147483648 ≤ y) (h4 : y < 2147483648) : eqb x y = decide (x = y) := by
  unfold eqb
  rw [decide_eq_decide, ← Int32.toInt_inj, i32_in h1 h2, i32_in h3 h4]
section JC
variable {l : Launch} {D : va_G} {cI cB : ClassId} {Z : (Nat → Nat) × (Nat → Nat)} {ad : Nat → Nat} {shs : List Shp} {S : Mem}
theorem ct_coder {k : Nat} (hk : k < 14) : Ctr l D cI cB Z ad shs yJ0_coder_7d493 cJ0_coder_7d493 1 (some .byte) 0 0 [.ref (Z.1 k)] S (some (.int (i32 0))) S := by
  refine ctr_of (by decide +kernel) (Nat.le_of_ble_eq_true rfl) rfl ?_
  intro p e s m args below meth c A X
  refine go_compact (pc := 0) X fL_J0_38 dJ0_coder_7d493_0 ?_
  refine go_if_eq (pc := 3) X 13 dJ0_coder_7d493_3 rfl (fun c1 => ?_) (fun c1 => ?_)
  · exact absurd c1 (by decide)
  refine go_aload_n (pc := 6) X 0 dJ0_coder_7d493_6 rfl rfl ?_
  refine go_scoder (pc := 7) X k hk fL_J0_15 dJ0_coder_7d493_7 ?_
  refine go_goto (pc := 10) X 14 dJ0_coder_7d493_10 rfl ?_
  exact go_nret (pc := 14) X rfl dJ0_coder_7d493_14
theorem ct_latin {k : Nat} (hk : k < 14) : Ctr l D cI cB Z ad shs yJ0_isLatin1_aae02 cJ0_isLatin1_aae02 1 (some .boolean) 0 0 [.ref (Z.1 k)] S (some (.int (i32 1))) S := by
  refine ctr_of (by decide +kernel) (Nat.le_of_ble_eq_true rfl) rfl ?_
  intro p e s m args below meth c A X
  refine go_compact (pc := 0) X fL_J0_38 dJ0_isLatin1_aae02_0 ?_
  refine go_if_eq (pc := 3) X 17 dJ0_isLatin1_aae02_3 rfl (fun c1 => ?_) (fun c1 => ?_)
  · exact absurd c1 (by decide)
  refine go_aload_n (pc := 6) X 0 dJ0_isLatin1_aae02_6 rfl rfl ?_
  refine go_scoder (pc := 7) X k hk fL_J0_15 dJ0_isLatin1_aae02_7 ?_
  refine go_if_ne (pc := 10) X 17 dJ0_isLatin1_aae02_10 rfl (fun c1 => ?_) (fun c1 => ?_)
  · exact absurd (show eqb 0 0 = true by decide) c1
  refine go_iconst (pc := 13) X dJ0_isLatin1_aae02_13 ?_
  refine go_goto (pc := 14) X 18 dJ0_isLatin1_aae02_14 rfl ?_
  exact go_nret (pc := 18) X rfl dJ0_isLatin1_aae02_18
theorem ct_slen {k : Nat} (hk : k < 14) : Ctr l D cI cB Z ad shs yJ0_length_8abf5 cJ0_length_8abf5 1 (some .int) 1 20 [.ref (Z.1 k)] S (some (.int (i32 (sLen k : Int)))) S := by
  refine ctr_of (by decide +kernel) (Nat.le_of_ble_eq_true rfl) rfl ?_
  intro p e s m args below meth c A X
  refine go_aload_n (pc := 0) X 0 dJ0_length_8abf5_0 rfl rfl ?_
  refine go_svalue (pc := 1) X k hk fL_J0_9 dJ0_length_8abf5_1 ?_
  refine go_salen (pc := 4) X k hk dJ0_length_8abf5_4 ?_
  refine go_aload_n (pc := 5) X 0 dJ0_length_8abf5_5 rfl rfl ?_
  refine go_callT (pc := 6) X 0 k [.int (i32 (sLen k : Int))] (ct_coder hk) hk (gV mL_J0_335 iM_J0_coder_7d493 sl_J0_coder_7d493 in_J0 cd_J0_coder_7d493) hdq_coder ⟨Nat.le_of_ble_eq_true rfl, Nat.le_of_ble_eq_true rfl⟩ rfl rfl (Nat.le_of_ble_eq_true rfl) dJ0_length_8abf5_6 ?_
  refine go_ishr (pc := 9) X dJ0_length_8abf5_9 ?_
  have h : ∀ k, k < 14 → shrb (sLen k : Int) 0 = (sLen k : Int) := by decide +kernel
  rw [h k hk]
  exact go_nret (pc := 10) X rfl dJ0_length_8abf5_10
theorem ct_pchk {i n : Int} {v : Value} (hi : 0 ≤ i ∧ i < n) (hn : n < 2147483648) (hv : v = .null ∨ ∃ t, v = .ref t) : Ctr l D cI cB Z ad shs yJ3_checkIndex_8e157 cJ3_checkIndex_8e157 3 (some .int) 0 0 [.int (i32 i), .int (i32 n), v] S (some (.int (i32 i))) S := by
  have hl : (lg_sl [.int (i32 i), .int (i32 n), v]).length ≤ 3 := by rcases hv with rfl | ⟨t, rfl⟩ <;> exact Nat.le_of_ble_eq_true rfl
  refine ctr_of (by decide +kernel) hl rfl ?_
  intro p e s m args below meth c A X
  refine go_iload_n (pc := 0) X 0 dJ3_checkIndex_8e157_0 rfl rfl ?_
  refine go_if_lt (pc := 1) X 9 dJ3_checkIndex_8e157_1 rfl (fun c1 => ?_) (fun c1 => ?_)
  · rw [ltb_lt (by omega) (by omega) (by omega) (by omega)] at c1
    simp only [decide_eq_true_eq] at c1
    omega
  refine go_iload_n (pc := 4) X 0 dJ3_checkIndex_8e157_4 rfl rfl ?_
  refine go_iload_n (pc := 5) X 1 dJ3_checkIndex_8e157_5 rfl rfl ?_
  refine go_icmp_lt (pc := 6) X 16 dJ3_checkIndex_8e157_6 rfl (fun c1 => ?_) (fun c1 => ?_)
  · refine go_iload_n (pc := 16) X 0 dJ3_checkIndex_8e157_16 rfl rfl ?_
    exact go_nret (pc := 17) X rfl dJ3_checkIndex_8e157_17
  · rw [ltb_lt (by omega) (by omega) (by omega) (by omega)] at c1
    simp only [decide_eq_true_eq] at c1
    omega
theorem ct_chk {i n : Int} (hi : 0 ≤ i ∧ i < n) (hn : n < 2147483648) : Ctr l D cI cB Z ad shs yJ0_checkIndex_df160 cJ0_checkIndex_df160 2 none 1 22 [.int (i32 i), .int (i32 n)] S none S := by
  refine ctr_of (by decide +kernel) (Nat.le_of_ble_eq_true rfl) rfl ?_
  intro p e s m args below meth c A X
  refine go_iload_n (pc := 0) X 0 dJ0_checkIndex_df160_0 rfl rfl ?_
  refine go_iload_n (pc := 1) X 1 dJ0_checkIndex_df160_1 rfl rfl ?_
  refine go_fmt (pc := 2) X fL_J0_1053 dJ0_checkIndex_df160_2 (fun v hv => ?_)
  refine go_callSi (pc := 5) X 3 [] (ct_pchk hi hn hv) (gS mL_J0_1059 sM_J3_checkIndex_8e157 in_J3 cd_J3_checkIndex_8e157) hdq_pchk ⟨Nat.le_of_ble_eq_true rfl, Nat.le_of_ble_eq_true rfl⟩ rfl rfl (Nat.le_of_ble_eq_true rfl) dJ0_checkIndex_df160_5 ?_
  refine go_pop (pc := 8) X dJ0_checkIndex_df160_8 rfl ?_
  exact go_vret (pc := 9) X rfl dJ0_checkIndex_df160_9
theorem ct_l1 {k : Nat} {i : Int} (hk : k < 14) (hi : 0 ≤ i ∧ i < sLen k) : Ctr l D cI cB Z ad shs yJ1_charAt_3b067 cJ1_charAt_3b067 2 (some .char) 2 43 [.ref (Z.2 k), .int (i32 i)] S (some (.int (i32 (sChr k i)))) S := by
  have hs := sLen_small hk
  refine ctr_of (by decide +kernel) (Nat.le_of_ble_eq_true rfl) rfl ?_
  intro p e s m args below meth c A X
  refine go_iload_n (pc := 0) X 1 dJ1_charAt_3b067_0 rfl rfl ?_
  refine go_aload_n (pc := 1) X 0 dJ1_charAt_3b067_1 rfl rfl ?_
  refine go_salen (pc := 2) X k hk dJ1_charAt_3b067_2 ?_
  refine go_callSv (pc := 3) X 2 [] (ct_chk hi (by omega)) (gS mL_J1_9 sM_J0_checkIndex_df160 in_J0 cd_J0_checkIndex_df160) hdq_chk ⟨Nat.le_of_ble_eq_true rfl, Nat.le_of_ble_eq_true rfl⟩ rfl rfl (Nat.le_of_ble_eq_true rfl) dJ1_charAt_3b067_3 ?_
  refine go_aload_n (pc := 6) X 0 dJ1_charAt_3b067_6 rfl rfl ?_
  refine go_iload_n (pc := 7) X 1 dJ1_charAt_3b067_7 rfl rfl ?_
  refine go_sbald (pc := 8) X k hk hi dJ1_charAt_3b067_8 ?_
  refine go_sipush (pc := 9) X dJ1_charAt_3b067_9 (by decide) (by decide) ?_
  refine go_iand (pc := 12) X dJ1_charAt_3b067_12 ?_
  refine go_i2c (pc := 13) X (v := sChr k i) ?_ dJ1_charAt_3b067_13 ?_
  · unfold andb
    rw [i32_toInt, sChr_i32]
    exact (sByt_at hk hi).1
  · exact go_nret (pc := 14) X (by rw [sChr_i32]; exact (sByt_at hk hi).2) dJ1_charAt_3b067_14
theorem ct_schar {k : Nat} {i : Int} (hk : k < 14) (hi : 0 ≤ i ∧ i < sLen k) : Ctr l D cI cB Z ad shs yJ0_charAt_5068e cJ0_charAt_5068e 2 (some .char) 3 68 [.ref (Z.1 k), .int (i32 i)] S (some (.int (i32 (sChr k i)))) S := by
  refine ctr_of (by decide +kernel) (Nat.le_of_ble_eq_true rfl) rfl ?_
  intro p e s m args below meth c A X
  refine go_aload_n (pc := 0) X 0 dJ0_charAt_5068e_0 rfl rfl ?_
  refine go_callT (pc := 1) X 0 k [] (ct_latin hk) hk (gV mL_J0_492 iM_J0_isLatin1_aae02 sl_J0_isLatin1_aae02 in_J0 cd_J0_isLatin1_aae02) hdq_latin ⟨Nat.le_of_ble_eq_true rfl, Nat.le_of_ble_eq_true rfl⟩ rfl rfl (Nat.le_of_ble_eq_true rfl) dJ0_charAt_5068e_1 ?_
  refine go_if_eq (pc := 4) X 16 dJ0_charAt_5068e_4 rfl (fun c1 => ?_) (fun c1 => ?_)
  · exact absurd c1 (by decide)
  refine go_aload_n (pc := 7) X 0 dJ0_charAt_5068e_7 rfl rfl ?_
  refine go_svalue (pc := 8) X k hk fL_J0_9 dJ0_charAt_5068e_8 ?_
  refine go_iload_n (pc := 11) X 1 dJ0_charAt_5068e_11 rfl rfl ?_
  refine go_callSi (pc := 12) X 2 [] (ct_l1 hk hi) (gS mL_J0_495 sM_J1_charAt_3b067 in_J1 cd_J1_charAt_3b067) hdq_l1 ⟨Nat.le_of_ble_eq_true rfl, Nat.le_of_ble_eq_true rfl⟩ rfl rfl (Nat.le_of_ble_eq_true rfl) dJ0_charAt_5068e_12 ?_
  exact go_nret (pc := 15) X (by rw [sChr_i32]; exact (sByt_at hk hi).2) dJ0_charAt_5068e_15
end JC
