/-! ===== the law: its walk over the two worlds ===== -/
theorem vaD_fst {A : Nat → Prop} {ws ws' : va_W} (h : ws.map Prod.fst = ws'.map Prod.fst) (hD : va_D A ws) : va_D A ws' := by
  have back : ∀ (k : Nat) (q : Nat × va_E), ws'[k]? = some q → ∃ q0 : Nat × va_E, ws[k]? = some q0 ∧ q0.1 = q.1 := by
    intro k q hq
    have h1 : (ws.map Prod.fst)[k]? = some q.1 := by rw [h, List.getElem?_map, hq]; rfl
    rw [List.getElem?_map] at h1
    cases hk : ws[k]? with
    | none => rw [hk] at h1; cases h1
    | some q0 => rw [hk] at h1; exact ⟨q0, rfl, Option.some.inj h1⟩
  refine ⟨fun i j p q hi hj e => ?_, fun k q hk => ?_⟩
  · obtain ⟨p0, a1, a2⟩ := back i p hi
    obtain ⟨q0, b1, b2⟩ := back j q hj
    exact hD.1 i j p0 q0 a1 b1 (by rw [a2, b2, e])
  · obtain ⟨q0, a1, a2⟩ := back k q hk
    rw [← a2]
    exact hD.2 k q0 a1
theorem mkW_fst {ad : Nat → Nat} {cI cB : ClassId} {shs : List Shp} (S S' : Mem) : (mkW ad cI cB shs S).map Prod.fst = (mkW ad cI cB shs S').map Prod.fst := by
  apply List.ext_getElem?
  intro k
  unfold mkW
  rw [List.getElem?_map, List.getElem?_map, List.getElem?_mapIdx, List.getElem?_mapIdx]
  cases shs[k]? <;> rfl
theorem vaP_l {D : va_G} {cl : List vw_C} {a b : va_W} {H : Heap} (h : va_P D cl (a ++ b) H) : va_P D cl a H := fun k q hq => h k q (by
  rw [List.getElem?_append_left (List.getElem?_eq_some_iff.mp hq).1]
  exact hq)
theorem vaP_r {D : va_G} {cl : List vw_C} {a b : va_W} {H : Heap} (h : va_P D cl (a ++ b) H) : va_P D cl b H := fun k q hq => h (a.length + k) q (by
  rw [List.getElem?_append_right (by omega), show a.length + k - a.length = k by omega]
  exact hq)
theorem vaD_l {A : Nat → Prop} {a b : va_W} (h : va_D A (a ++ b)) : va_D A a := by
  have up : ∀ (k : Nat) (q : Nat × va_E), a[k]? = some q → (a ++ b)[k]? = some q := fun k q hq => by
    rw [List.getElem?_append_left (List.getElem?_eq_some_iff.mp hq).1]
    exact hq
  exact ⟨fun i j p q hi hj e => h.1 i j p q (up i p hi) (up j q hj) e, fun k q hk => h.2 k q (up k q hk)⟩
theorem vaD_r {A : Nat → Prop} {a b : va_W} (h : va_D A (a ++ b)) : va_D A b := by
  have up : ∀ (k : Nat) (q : Nat × va_E), b[k]? = some q → (a ++ b)[a.length + k]? = some q := fun k q hq => by
    rw [List.getElem?_append_right (by omega), show a.length + k - a.length = k by omega]
    exact hq
  exact ⟨fun i j p q hi hj e => by have := h.1 _ _ p q (up i p hi) (up j q hj) e; omega, fun k q hk => h.2 _ q (up k q hk)⟩
theorem vaD_ne {A : Nat → Prop} {a b : va_W} (h : va_D A (a ++ b)) {i j : Nat} {p q : Nat × va_E} (hi : a[i]? = some p) (hj : b[j]? = some q) : p.1 ≠ q.1 := by
  intro e
  have l := (List.getElem?_eq_some_iff.mp hi).1
  have := h.1 i (a.length + j) p q (by rw [List.getElem?_append_left l]; exact hi) (by rw [List.getElem?_append_right (by omega), show a.length + j - a.length = j by omega]; exact hj) e
  omega
def LA (s : State) : Nat → Prop := fun q => s.heap.size ≤ q
def Cl (p : Program) (s : State) (m : MethodId) (c : Code) (D : va_G) (cI cB : ClassId) (Z : (Nat → Nat) × (Nat → Nat)) (b L : Nat) (xs : Nat → Int32) : Prop :=
  p.tables.exec = Jvm.exec ∧ c.code = code ∧ c.maxLocals = 4 ∧ s.vm.findClass RL = some m.cls ∧ (∀ w ∈ TT, w.before #[Value.ref b] s = true) ∧ va_K D vwCl [(cI, .int), (cB, .byte)] s ∧ StrW Z (LA s) s ∧ va_X b L xs s s.heap ∧ b < s.heap.size ∧ L ≤ 3072
def Gl (p : Program) (l : Launch) (e : Env) (s : State) (m : MethodId) (below : List Frame) (meth : Method) (c : Code) (D : va_G) (cI cB : ClassId) (b : Nat) (aC aM : Nat → Nat) (Q : State → Prop) (pc : Nat) (Ls : List (Nat × Value)) (st : List Value) (S T : Mem) : Prop :=
  ∀ (H : Heap) (locs : List Loc) (ls : Array Slot), va_P D vwCl (mkW aC cI cB shsC S ++ mkW aM cI cB shsM T) H → va_D (LA s) (mkW aC cI cB shsC S ++ mkW aM cI cB shsM T) → va_S (LA s) s.heap H locs → lv_has ls 4 Ls → W p l e room_1 s m #[Value.ref b] below meth c H locs 51 5967 Q (F0 m pc ls st)
section GL
variable {p : Program} {l : Launch} {e : Env} {s : State} {m : MethodId} {below : List Frame} {meth : Method} {c : Code} {D : va_G} {cI cB : ClassId} {Z : (Nat → Nat) × (Nat → Nat)} {b L : Nat} {xs : Nat → Int32} {aC aM : Nat → Nat} {Q : State → Prop} {pc : Nat} {Ls Ls' : List (Nat × Value)} {st : List Value} {S T : Mem}
theorem gl_aload (X : Cl p s m c D cI cB Z b L xs) (pl : Nat) {kf : Fin 4} {i x : Nat} (hd : decode code pc = .ok (.aload_n kf, 1)) (hi : (kf : Nat) = i) (hl0 : Ls[pl]? = some (i, .ref x)) (k : Gl p l e s m below meth c D cI cB b aC aM Q (pc + 1) Ls (.ref x :: st) S T) : Gl p l e s m below meth c D cI cB b aC aM Q pc Ls st S T :=
  fun H locs ls hP hD hS hl => lv_aload_n X.1 X.2.1 hd hi (lv_at hl pl hl0) (k H locs ls hP hD hS hl)
theorem gl_iload (X : Cl p s m c D cI cB Z b L xs) (pl : Nat) {kf : Fin 4} {i : Nat} {x : Int32} (hd : decode code pc = .ok (.iload_n kf, 1)) (hi : (kf : Nat) = i) (hl0 : Ls[pl]? = some (i, .int x)) (k : Gl p l e s m below meth c D cI cB b aC aM Q (pc + 1) Ls (.int x :: st) S T) : Gl p l e s m below meth c D cI cB b aC aM Q pc Ls st S T :=
  fun H locs ls hP hD hS hl => lv_iload_n X.1 X.2.1 hd hi (lv_at hl pl hl0) (k H locs ls hP hD hS hl)
theorem gl_iconst (X : Cl p s m c D cI cB Z b L xs) {n : Int} (hd : decode code pc = .ok (.iconst n, 1)) (k : Gl p l e s m below meth c D cI cB b aC aM Q (pc + 1) Ls (.int (i32 n) :: st) S T) : Gl p l e s m below meth c D cI cB b aC aM Q pc Ls st S T :=
  fun H locs ls hP hD hS hl => lv_iconst X.1 X.2.1 hd rfl (k H locs ls hP hD hS hl)
theorem gl_bipush (X : Cl p s m c D cI cB Z b L xs) {n : Int} (hd : decode code pc = .ok (.bipush n, 2)) (h1 : -128 ≤ n) (h2 : n < 128) (k : Gl p l e s m below meth c D cI cB b aC aM Q (pc + 2) Ls (.int (i32 n) :: st) S T) : Gl p l e s m below meth c D cI cB b aC aM Q pc Ls st S T :=
  fun H locs ls hP hD hS hl => lv_bipush X.1 X.2.1 hd (i32_byte h1 h2) (k H locs ls hP hD hS hl)
theorem gl_iadd (X : Cl p s m c D cI cB Z b L xs) {x y : Int} (hd : decode code pc = .ok (.iadd, 1)) (k : Gl p l e s m below meth c D cI cB b aC aM Q (pc + 1) Ls (.int (i32 (x + y)) :: st) S T) : Gl p l e s m below meth c D cI cB b aC aM Q pc Ls (.int (i32 y) :: .int (i32 x) :: st) S T :=
  fun H locs ls hP hD hS hl => lv_iadd X.1 X.2.1 hd (by rw [i32_add]; exact k H locs ls hP hD hS hl)
theorem gl_isub (X : Cl p s m c D cI cB Z b L xs) {x y : Int} (hd : decode code pc = .ok (.isub, 1)) (k : Gl p l e s m below meth c D cI cB b aC aM Q (pc + 1) Ls (.int (i32 (x - y)) :: st) S T) : Gl p l e s m below meth c D cI cB b aC aM Q pc Ls (.int (i32 y) :: .int (i32 x) :: st) S T :=
  fun H locs ls hP hD hS hl => lv_isub X.1 X.2.1 hd (by rw [i32_sub]; exact k H locs ls hP hD hS hl)
theorem gl_iand (X : Cl p s m c D cI cB Z b L xs) {x y : Int} (hd : decode code pc = .ok (.iand, 1)) (k : Gl p l e s m below meth c D cI cB b aC aM Q (pc + 1) Ls (.int (i32 (andb x y)) :: st) S T) : Gl p l e s m below meth c D cI cB b aC aM Q pc Ls (.int (i32 y) :: .int (i32 x) :: st) S T :=
  fun H locs ls hP hD hS hl => lv_iand X.1 X.2.1 hd (by have h := k H locs ls hP hD hS hl; rw [andb, i32_toInt] at h; exact h)
theorem gl_goto (X : Cl p s m c D cI cB Z b L xs) {off : Int} (tgt : Nat) (hd : decode code pc = .ok (.goto off, 3)) (ht : (pc : Int) + off = (tgt : Int)) (k : Gl p l e s m below meth c D cI cB b aC aM Q tgt Ls st S T) : Gl p l e s m below meth c D cI cB b aC aM Q pc Ls st S T :=
  fun H locs ls hP hD hS hl => lv_goto X.1 X.2.1 hd ht (k H locs ls hP hD hS hl)
theorem gl_icmp_gt (X : Cl p s m c D cI cB Z b L xs) {x y off : Int} (tgt : Nat) (hd : decode code pc = .ok (.if_icmp .gt off, 3)) (ht : (pc : Int) + off = (tgt : Int)) (kt : ltb y x = true → Gl p l e s m below meth c D cI cB b aC aM Q tgt Ls st S T) (kf : ¬ ltb y x = true → Gl p l e s m below meth c D cI cB b aC aM Q (pc + 3) Ls st S T) : Gl p l e s m below meth c D cI cB b aC aM Q pc Ls (.int (i32 y) :: .int (i32 x) :: st) S T :=
  fun H locs ls hP hD hS hl => lv_icmp_gt X.1 X.2.1 hd ht (fun h => kt (ltb_iff.mpr h) H locs ls hP hD hS hl) (fun h => kf (fun g => h (ltb_iff.mp g)) H locs ls hP hD hS hl)
/-- the two answers are one: the law goes on -/
theorem gl_same (X : Cl p s m c D cI cB Z b L xs) {x off : Int} (tgt : Nat) (hd : decode code pc = .ok (.if_icmp .eq off, 3)) (ht : (pc : Int) + off = (tgt : Int)) (k : Gl p l e s m below meth c D cI cB b aC aM Q tgt Ls st S T) : Gl p l e s m below meth c D cI cB b aC aM Q pc Ls (.int (i32 x) :: .int (i32 x) :: st) S T :=
  fun H locs ls hP hD hS hl => lv_icmp_eq X.1 X.2.1 hd ht (fun _ => k H locs ls hP hD hS hl) (fun h => absurd rfl h)
theorem gl_iinc (X : Cl p s m c D cI cB Z b L xs) (ks : List Nat) (pl : Nat) {i : Nat} {n x : Int} (hd : decode code pc = .ok (.iinc i n, 3)) (hl0 : Ls[pl]? = some (i, .int (i32 x))) (hn : i < 4) (hp : lv_pick (lst Ls i (.int (i32 (x + n)))) ks = Ls') (k : Gl p l e s m below meth c D cI cB b aC aM Q (pc + 3) Ls' st S T) : Gl p l e s m below meth c D cI cB b aC aM Q pc Ls st S T :=
  fun H locs ls hP hD hS hl => lv_iinc X.1 X.2.1 hd hl hl0 (i32_add x n) hn rfl (fun ls' h' => k H locs ls' hP hD hS (lv_sub h' ks hp))
theorem gl_tab (X : Cl p s m c D cI cB Z b L xs) {dflt lo hi off v x : Int} {offs : Array Int} {len : Nat} (tgt : Nat) (hd : decode code pc = .ok (.tableswitch dflt lo hi offs, len)) (hx : (i32 x).toInt = v) (hv : lo ≤ v ∧ v ≤ hi) (ho : offs[(v - lo).toNat]? = some off) (ht : (pc : Int) + off = (tgt : Int)) (k : Gl p l e s m below meth c D cI cB b aC aM Q tgt Ls st S T) : Gl p l e s m below meth c D cI cB b aC aM Q pc Ls (.int (i32 x) :: st) S T := by
  intro H locs ls hP hD hS hl
  exact lv_tableIn X.1 X.2.1 hd (by rw [hx]; omega) (by rw [hx]; omega) (by rw [hx]; exact ho) ht (k H locs ls hP hD hS hl)
theorem gl_tabx (X : Cl p s m c D cI cB Z b L xs) {dflt lo hi x : Int} {offs : Array Int} {len : Nat} (tgt : Nat) (hd : decode code pc = .ok (.tableswitch dflt lo hi offs, len)) (hx : (i32 x).toInt < lo ∨ hi < (i32 x).toInt) (ht : (pc : Int) + dflt = (tgt : Int)) (k : Gl p l e s m below meth c D cI cB b aC aM Q tgt Ls st S T) : Gl p l e s m below meth c D cI cB b aC aM Q pc Ls (.int (i32 x) :: st) S T := by
  intro H locs ls hP hD hS hl
  exact lv_tableOut X.1 X.2.1 hd hx ht (k H locs ls hP hD hS hl)
theorem gl_slen (X : Cl p s m c D cI cB Z b L xs) (hd : decode code pc = .ok (.arraylength, 1)) (k : Gl p l e s m below meth c D cI cB b aC aM Q (pc + 1) Ls (.int (i32 (L : Int)) :: st) S T) : Gl p l e s m below meth c D cI cB b aC aM Q pc Ls (.ref b :: st) S T := by
  intro H locs ls hP hD hS hl
  refine va_slen X.1 X.2.1 X.2.2.2.2.2.2.2.1 X.2.2.2.2.2.2.2.2.1 (fun h => absurd X.2.2.2.2.2.2.2.2.1 (Nat.not_lt.mpr h)) hS hd ?_
  rw [← Int32.ofInt_eq_ofNat]
  exact k H locs ls hP hD hS hl
theorem gl_sld (X : Cl p s m c D cI cB Z b L xs) {i : Nat} (hi : i < L) (hd : decode code pc = .ok (.iaload, 1)) (k : Gl p l e s m below meth c D cI cB b aC aM Q (pc + 1) Ls (.int (i32 (xs i).toInt) :: st) S T) : Gl p l e s m below meth c D cI cB b aC aM Q pc Ls (.int (i32 (i : Int)) :: .ref b :: st) S T := by
  intro H locs ls hP hD hS hl
  have hL := X.2.2.2.2.2.2.2.2.2
  refine va_sld X.1 X.2.1 X.2.2.2.2.2.2.2.1 X.2.2.2.2.2.2.2.2.1 (fun h => absurd X.2.2.2.2.2.2.2.2.1 (Nat.not_lt.mpr h)) hS (i32_vin ⟨by omega, by omega⟩ (by omega)) hd ?_
  have h := k H locs ls hP hD hS hl
  rw [i32_toInt] at h
  rw [i32_clamp (by omega) (by omega), show ((i : Int)).toNat = i by omega]
  exact h
/-- one argument off the script -/
theorem gl_arg (X : Cl p s m c D cI cB Z b L xs) (pl0 pl3 : Nat) {i kk : Nat} {n : Int} (hn : (kk : Int) = n) (h0 : Ls[pl0]? = some (0, .ref b)) (h3 : Ls[pl3]? = some (3, .int (i32 (i : Int)))) (hi : i + kk < L) (d0 : decode code pc = .ok (.aload_n 0, 1)) (d1 : decode code (pc + 1) = .ok (.iload_n 3, 1)) (d2 : decode code (pc + 2) = .ok (.iconst n, 1)) (d3 : decode code (pc + 3) = .ok (.iadd, 1)) (d4 : decode code (pc + 4) = .ok (.iaload, 1)) (k : Gl p l e s m below meth c D cI cB b aC aM Q (pc + 5) Ls (.int (i32 (xs (i + kk)).toInt) :: st) S T) : Gl p l e s m below meth c D cI cB b aC aM Q pc Ls st S T := by
  subst hn
  refine gl_aload X pl0 d0 rfl h0 (gl_iload X pl3 d1 rfl h3 (gl_iconst X d2 (gl_iadd X d3 ?_)))
  rw [show (i : Int) + (kk : Int) = ((i + kk : Nat) : Int) by omega]
  exact gl_sld X hi d4 k
theorem gl_callC (X : Cl p s m c D cI cB Z b L xs) (n : Nat) (rest : List Value) {As : List Value} {idx rf rl nLy : Nat} {y : MethodName} {by_ : ByteArray} {rety : Option FieldType} {r : Int} {S' : Mem} (hM : Ctr l D cI cB Z aC shsC y by_ nLy rety rf rl (.ref (aC 0) :: As) S (some (.int (i32 r))) S') (hG : GoodIn TT (wsV RL idx RX7 y (.code y by_ nLy rety :: TT))) (hd2 : y.cls = RX7 ∧ y.cls ≠ "java/lang/invoke/MethodHandle" ∧ y.cls ≠ "java/lang/invoke/VarHandle" ∧ (parseMethodDescriptor y.desc).map (fun d => d.parameters.length) = some n) (hR : rf + 1 ≤ room_1.frames ∧ 8 + (nLy + 11) + rl ≤ room_1.locals) (hn : As.length = n) (hst : st = As.reverse ++ .ref (aC 0) :: rest) (hro : (rest.map fun v => v.category).sum ≤ 8) (hd : decode code pc = .ok (.invokevirtual idx, 3)) (k : Gl p l e s m below meth c D cI cB b aC aM Q (pc + 3) Ls (.int (i32 r) :: rest) S' T) : Gl p l e s m below meth c D cI cB b aC aM Q pc Ls st S T := by
  subst hst
  intro H locs ls hP hD hS hl
  have hPC := vaP_l hP
  have hPM := vaP_r hP
  have hDC := vaD_l hD
  have hA : ∀ q, va_A (mkW aC cI cB shsC S) H.size q → LA s q := by
    intro q h
    rcases h with ⟨k, e, h⟩ | h
    · exact hDC.2 k _ h
    · exact Nat.le_trans hS.1 h
  have hr := va_runV (e := e) (below := below) (meth := meth) (locs := locs) (cells := 51) (slots := 5967) (As := As) (rest := rest) (g := F0 m pc ls (As.reverse ++ .ref (aC 0) :: rest)) (R := room_1) ⟨X.1, X.2.1, X.2.2.1, X.2.2.2.1, X.2.2.2.2.1⟩ (hM H.size) (cwV n X.2.2.2.2.1 hG rfl rfl rfl hd2 hR) ⟨cP_blind, va_recv X.2.2.2.2.2.1 hPC rfl (mkW_at S sh7), fun U hU hW => ⟨rfl, by rw [hU], by rw [hU]; exact hPC, va_K.moved hW.alike X.2.2.2.2.2.1, hDC.weaken (fun _ _ _ _ => trivial), X.2.2.2.2.2.2.1.go hS hU hW hA⟩⟩ rfl hn hl.1 rfl (lv_room hro) hd ⟨Nat.le_refl _, Nat.le_refl _⟩
  intro T1 hT Xs
  obtain ⟨v, st₀, t, T', Lc, h0, X', hL, e1, e2, ⟨hv, hP', hz, hk⟩, st⟩ := hr T1 hT Xs
  cases hv
  rw [h0] at hz hk
  have hS' : va_S (LA s) s.heap T'.heap (locs ++ Lc) := ⟨Nat.le_trans hS.1 (by rw [e1]; exact hz), fun q h1 h2 => by rw [e1, hk q (Nat.lt_of_lt_of_le h1 hS.1) (fun z => h2 (hA q z))]; exact hS.2.1 q h1 h2, fun q hq => by
      rcases List.mem_append.mp hq with h | h
      · exact hS.2.2 q h
      · exact hA _ (hL q h)⟩
  have hPM' : va_P D vwCl (mkW aM cI cB shsM T) t.heap := hPM.kept (fun i x hx => hk x.1 (hPM i x hx).lt (fun z => by
    rcases z with ⟨j, e, z⟩ | z
    · exact vaD_ne hD z hx rfl
    · exact absurd (hPM i x hx).lt (Nat.not_lt.mpr z)))
  obtain ⟨t2, a1, b1⟩ := k T'.heap (locs ++ Lc) ls (by rw [e1]; exact hP'.app hPM') (vaD_fst (by rw [List.map_append, List.map_append, mkW_fst S S']) hD) hS' hl T' rfl X'
  exact ⟨t2, st t2 a1, b1⟩
theorem gl_callM (X : Cl p s m c D cI cB Z b L xs) (n : Nat) (rest : List Value) {As : List Value} {idx rf rl nLy : Nat} {y : MethodName} {by_ : ByteArray} {rety : Option FieldType} {r : Int} {T' : Mem} (hM : Ctr l D cI cB Z aM shsM y by_ nLy rety rf rl (.ref (aM 0) :: As) T (some (.int (i32 r))) T') (hG : GoodIn TT (wsV RL idx RX8 y (.code y by_ nLy rety :: TT))) (hd2 : y.cls = RX8 ∧ y.cls ≠ "java/lang/invoke/MethodHandle" ∧ y.cls ≠ "java/lang/invoke/VarHandle" ∧ (parseMethodDescriptor y.desc).map (fun d => d.parameters.length) = some n) (hR : rf + 1 ≤ room_1.frames ∧ 8 + (nLy + 11) + rl ≤ room_1.locals) (hn : As.length = n) (hst : st = As.reverse ++ .ref (aM 0) :: rest) (hro : (rest.map fun v => v.category).sum ≤ 8) (hd : decode code pc = .ok (.invokevirtual idx, 3)) (k : Gl p l e s m below meth c D cI cB b aC aM Q (pc + 3) Ls (.int (i32 r) :: rest) S T') : Gl p l e s m below meth c D cI cB b aC aM Q pc Ls st S T := by
  subst hst
  intro H locs ls hP hD hS hl
  have hPC := vaP_l hP
  have hPM := vaP_r hP
  have hDM := vaD_r hD
  have hA : ∀ q, va_A (mkW aM cI cB shsM T) H.size q → LA s q := by
    intro q h
    rcases h with ⟨k, e, h⟩ | h
    · exact hDM.2 k _ h
    · exact Nat.le_trans hS.1 h
  have hr := va_runV (e := e) (below := below) (meth := meth) (locs := locs) (cells := 51) (slots := 5967) (As := As) (rest := rest) (g := F0 m pc ls (As.reverse ++ .ref (aM 0) :: rest)) (R := room_1) ⟨X.1, X.2.1, X.2.2.1, X.2.2.2.1, X.2.2.2.2.1⟩ (hM H.size) (cwV n X.2.2.2.2.1 hG rfl rfl rfl hd2 hR) ⟨cP_blind, va_recv X.2.2.2.2.2.1 hPM rfl (mkW_at T sh8), fun U hU hW => ⟨rfl, by rw [hU], by rw [hU]; exact hPM, va_K.moved hW.alike X.2.2.2.2.2.1, hDM.weaken (fun _ _ _ _ => trivial), X.2.2.2.2.2.2.1.go hS hU hW hA⟩⟩ rfl hn hl.1 rfl (lv_room hro) hd ⟨Nat.le_refl _, Nat.le_refl _⟩
  intro T1 hT Xs
  obtain ⟨v, st₀, t, U', Lc, h0, X', hL, e1, e2, ⟨hv, hP', hz, hk⟩, st⟩ := hr T1 hT Xs
  cases hv
  rw [h0] at hz hk
  have hS' : va_S (LA s) s.heap U'.heap (locs ++ Lc) := ⟨Nat.le_trans hS.1 (by rw [e1]; exact hz), fun q h1 h2 => by rw [e1, hk q (Nat.lt_of_lt_of_le h1 hS.1) (fun z => h2 (hA q z))]; exact hS.2.1 q h1 h2, fun q hq => by
      rcases List.mem_append.mp hq with h | h
      · exact hS.2.2 q h
      · exact hA _ (hL q h)⟩
  have hPC' : va_P D vwCl (mkW aC cI cB shsC S) t.heap := hPC.kept (fun i x hx => hk x.1 (hPC i x hx).lt (fun z => by
    rcases z with ⟨j, e, z⟩ | z
    · exact vaD_ne hD hx z rfl
    · exact absurd (hPC i x hx).lt (Nat.not_lt.mpr z)))
  obtain ⟨t2, a1, b1⟩ := k U'.heap (locs ++ Lc) ls (by rw [e1]; exact hPC'.app hP') (vaD_fst (by rw [List.map_append, List.map_append, mkW_fst T T']) hD) hS' hl U' rfl X'
  exact ⟨t2, st t2 a1, b1⟩
end GL
