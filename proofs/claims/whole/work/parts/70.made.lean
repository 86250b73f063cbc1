/-! ===== walks that make cells ===== -/
def NW (U : State) : Prop := va_Nw (.methodLinkNest RX7 11 yX6_init RX7) U ∧ va_Nw (.methodLinkNest RX6 11 yX5_init RX7) U ∧ va_Nw (.methodLinkNest RX7 23 yX0_init RX7) U ∧ va_Nw (.methodLinkNest RX0 11 yX1_init RX7) U ∧ va_Nw (.methodLinkNest RX7 35 yX3_init RX7) U ∧ va_Nw (.methodLinkNest RX7 42 yX2_init RX7) U ∧ va_Nw (.methodLinkNest RX7 55 yX4_init RX7) U
theorem NW.warm {s U : State} (h : NW s) (hW : s.WarmedH U.vm) : NW U := ⟨h.1.warmM hW, h.2.1.warmM hW, h.2.2.1.warmM hW, h.2.2.2.1.warmM hW, h.2.2.2.2.1.warmM hW, h.2.2.2.2.2.1.warmM hW, h.2.2.2.2.2.2.warmM hW⟩
theorem NW.same {s U : State} (h : NW s) (hv : s.vm = U.vm) : NW U := ⟨h.1.same rfl hv, h.2.1.same rfl hv, h.2.2.1.same rfl hv, h.2.2.2.1.same rfl hv, h.2.2.2.2.1.same rfl hv, h.2.2.2.2.2.1.same rfl hv, h.2.2.2.2.2.2.same rfl hv⟩
def Cn (p : Program) (s : State) (m : MethodId) (args : Array Value) (c : Code) (cc : ByteArray) (nL : Nat) (own : String) (D : va_G) (cI cB : ClassId) (A : Nat → Prop) : Prop :=
  p.tables.exec = Jvm.exec ∧ c.code = cc ∧ c.maxLocals = nL ∧ s.vm.findClass own = some m.cls ∧ (∀ w ∈ TT, w.before args s = true) ∧ va_K D vwCl [(cI, .int), (cB, .byte)] s ∧ (∀ q, s.heap.size ≤ q → A q) ∧ NW s
def Gn (p : Program) (l : Launch) (e : Env) (R : Room) (s : State) (m : MethodId) (args : Array Value) (below : List Frame) (meth : Method) (c : Code) (nL : Nat) (D : va_G) (A : Nat → Prop) (Q : State → Prop) (cells slots pc : Nat) (Ls : List (Nat × Value)) (st : List Value) (ws : va_W) : Prop :=
  ∀ (H : Heap) (locs : List Loc) (ls : Array Slot), va_P D vwCl ws H → va_D A ws → va_S A s.heap H locs → lv_has ls nL Ls → W p l e R s m args below meth c H locs cells slots Q (F0 m pc ls st)
theorem RA_one {s : State} {c1 c2 : ClassId} (h1 : va_RA s c1 .int) (h2 : va_RA s c2 .int) : c1 = c2 := Option.some.inj ((va_nm_int h1).symm.trans (va_nm_int h2))
theorem RA_oneB {s : State} {c1 c2 : ClassId} (h1 : va_RA s c1 .byte) (h2 : va_RA s c2 .byte) : c1 = c2 := Option.some.inj ((va_nm_byte h1).symm.trans (va_nm_byte h2))
section GN
variable {p : Program} {l : Launch} {e : Env} {R : Room} {s : State} {m : MethodId} {args : Array Value} {below : List Frame} {meth : Method} {c : Code} {cc : ByteArray} {nL : Nat} {own : String} {D : va_G} {cI cB : ClassId} {A : Nat → Prop} {Q : State → Prop} {cells slots pc : Nat} {Ls Ls' : List (Nat × Value)} {st : List Value} {ws ws' : va_W}
theorem gn_to (h : ws = ws') (k : Gn p l e R s m args below meth c nL D A Q cells slots pc Ls st ws') : Gn p l e R s m args below meth c nL D A Q cells slots pc Ls st ws := h ▸ k
theorem gn_aload (X : Cn p s m args c cc nL own D cI cB A) (pl : Nat) {kf : Fin 4} {i x : Nat} (hd : decode cc pc = .ok (.aload_n kf, 1)) (hi : (kf : Nat) = i) (hl0 : Ls[pl]? = some (i, .ref x)) (k : Gn p l e R s m args below meth c nL D A Q cells slots (pc + 1) Ls (.ref x :: st) ws) : Gn p l e R s m args below meth c nL D A Q cells slots pc Ls st ws :=
  fun H locs ls hP hD hS hl => lv_aload_n X.1 X.2.1 hd hi (lv_at hl pl hl0) (k H locs ls hP hD hS hl)
theorem gn_astore (X : Cn p s m args c cc nL own D cI cB A) (ks : List Nat) {kf : Fin 4} {i x : Nat} (hd : decode cc pc = .ok (.astore_n kf, 1)) (hi : (kf : Nat) = i) (hn : i < nL) (hp : lv_pick (lst Ls i (.ref x)) ks = Ls') (k : Gn p l e R s m args below meth c nL D A Q cells slots (pc + 1) Ls' st ws) : Gn p l e R s m args below meth c nL D A Q cells slots pc Ls (.ref x :: st) ws :=
  fun H locs ls hP hD hS hl => lv_astore_n X.1 X.2.1 hd hi hl hn rfl (fun ls' h' => k H locs ls' hP hD hS (lv_sub h' ks hp))
theorem gn_istore (X : Cn p s m args c cc nL own D cI cB A) (ks : List Nat) {kf : Fin 4} {i : Nat} {x : Int32} (hd : decode cc pc = .ok (.istore_n kf, 1)) (hi : (kf : Nat) = i) (hn : i < nL) (hp : lv_pick (lst Ls i (.int x)) ks = Ls') (k : Gn p l e R s m args below meth c nL D A Q cells slots (pc + 1) Ls' st ws) : Gn p l e R s m args below meth c nL D A Q cells slots pc Ls (.int x :: st) ws :=
  fun H locs ls hP hD hS hl => lv_istore_n X.1 X.2.1 hd hi hl hn rfl (fun ls' h' => k H locs ls' hP hD hS (lv_sub h' ks hp))
theorem gn_iconst (X : Cn p s m args c cc nL own D cI cB A) {n : Int} (hd : decode cc pc = .ok (.iconst n, 1)) (k : Gn p l e R s m args below meth c nL D A Q cells slots (pc + 1) Ls (.int (i32 n) :: st) ws) : Gn p l e R s m args below meth c nL D A Q cells slots pc Ls st ws :=
  fun H locs ls hP hD hS hl => lv_iconst X.1 X.2.1 hd rfl (k H locs ls hP hD hS hl)
theorem gn_bipush (X : Cn p s m args c cc nL own D cI cB A) {n : Int} (hd : decode cc pc = .ok (.bipush n, 2)) (h1 : -128 ≤ n) (h2 : n < 128) (k : Gn p l e R s m args below meth c nL D A Q cells slots (pc + 2) Ls (.int (i32 n) :: st) ws) : Gn p l e R s m args below meth c nL D A Q cells slots pc Ls st ws :=
  fun H locs ls hP hD hS hl => lv_bipush X.1 X.2.1 hd (i32_byte h1 h2) (k H locs ls hP hD hS hl)
theorem gn_sipush (X : Cn p s m args c cc nL own D cI cB A) {n : Int} (hd : decode cc pc = .ok (.sipush n, 3)) (h1 : -32768 ≤ n) (h2 : n < 32768) (k : Gn p l e R s m args below meth c nL D A Q cells slots (pc + 3) Ls (.int (i32 n) :: st) ws) : Gn p l e R s m args below meth c nL D A Q cells slots pc Ls st ws :=
  fun H locs ls hP hD hS hl => lv_sipush X.1 X.2.1 hd (i32_short h1 h2) (k H locs ls hP hD hS hl)
theorem gn_dup (X : Cn p s m args c cc nL own D cI cB A) {v : Value} (hd : decode cc pc = .ok (.dup, 1)) (hv : v.category = 1) (k : Gn p l e R s m args below meth c nL D A Q cells slots (pc + 1) Ls (v :: v :: st) ws) : Gn p l e R s m args below meth c nL D A Q cells slots pc Ls (v :: st) ws :=
  fun H locs ls hP hD hS hl => lv_dup X.1 X.2.1 hd hv (k H locs ls hP hD hS hl)
theorem gn_objInit (X : Cn p s m args c cc nL own D cI cB A) {idx a : Nat} (hw : Cond.methodLink own idx objectInit ∈ TT) (hfr : 1 ≤ R.frames) (hlo : 12 ≤ R.locals) (hd : decode cc pc = .ok (.invokespecial idx, 3)) (k : Gn p l e R s m args below meth c nL D A Q cells slots (pc + 3) Ls [] ws) : Gn p l e R s m args below meth c nL D A Q cells slots pc Ls [.ref a] ws :=
  fun H locs ls hP hD hS hl => W.objInit X.1 X.2.1 X.2.2.2.1 (X.2.2.2.2.1 _ hw) (X.2.2.2.2.1 _ iM_Oinit) (X.2.2.2.2.1 _ cd_Oinit) rfl (by rw [X.2.2.1]; exact hl.1) rfl hd hfr hlo (W.eq (g2 := F0 m (pc + 3) ls []) rfl (k H locs ls hP hD hS hl))
theorem gn_new (X : Cn p s m args c cc nL own D cI cB A) {C : String} {T : u_T} {N ci idx : Nat} {fs : List Value} (ty : Nat → FieldType) (hin : ∀ w ∈ u_ws C T N, w ∈ TT) (hty : ∀ k, k < N → parseFieldDescriptor (T k).2.2.1 = some (ty k)) (hcl : Cond.classLink own idx C ∈ TT) (hinst : Cond.instantiable C N ∈ TT) (hini : Cond.initialized C ∈ TT) (hc : vwCl[ci]? = some (C, T, N)) (hfs : ∀ j, j < N → defaultValue (ty j) = vp_V fs j) (hcells : cells + 1 ≤ R.cells) (hslots : slots + N ≤ R.slots) (hd : decode cc pc = .ok (.new idx, 3)) (k : ∀ q : Nat, Gn p l e R s m args below meth c nL D A Q (cells + 1) (slots + N) (pc + 3) Ls (.ref q :: st) (ws ++ [(q, .inr (ci, fs))])) : Gn p l e R s m args below meth c nL D A Q cells slots pc Ls st ws :=
  fun H locs ls hP hD hS hl => va_new X.1 X.2.1 X.2.2.2.2.1 hin ty hty X.2.2.2.1 (X.2.2.2.2.1 _ hcl) (X.2.2.2.2.1 _ hinst) (X.2.2.2.2.1 _ hini) X.2.2.2.2.2.1 hP hD hS X.2.2.2.2.2.2.1 hc hfs hcells hslots hd (fun q H1 hP1 hD1 hS1 => k q H1 locs ls hP1 hD1 hS1 hl)
theorem gn_newI (X : Cn p s m args c cc nL own D cI cB A) {n : Int} {N : Nat} (hn : (N : Int) = n) (hN : N ≤ 100000) (hcells : cells + 1 ≤ R.cells) (hslots : slots + N ≤ R.slots) (hd : decode cc pc = .ok (.newarray .int, 2)) (k : ∀ q : Nat, Gn p l e R s m args below meth c nL D A Q (cells + 1) (slots + N) (pc + 2) Ls (.ref q :: st) (ws ++ [(q, .inl (cI, (N, .inl (fun _ => 0))))])) : Gn p l e R s m args below meth c nL D A Q cells slots pc Ls (.int (i32 n) :: st) ws := by
  subst hn
  intro H locs ls hP hD hS hl
  refine va_newa (atype := .int) (ty := .int) (a0 := (N, .inl (fun _ => 0))) X.1 X.2.1 (X.2.2.2.2.1 _ aC_int) rfl X.2.2.2.2.2.1 hP hD hS X.2.2.2.2.2.2.1 (fun _ => rfl) (i32_nneg (by omega) (by omega)) (by rw [i32_clamp (by omega) (by omega)]; omega) (show N * 4 ≤ 536870912 by omega) hcells hslots hd (fun q cA H1 hK1 hP1 hD1 hS1 => ?_)
  have e : cA = cI := RA_one (hK1.2 2 _ rfl).2 (X.2.2.2.2.2.1.2 0 _ rfl).2
  subst e
  exact k q H1 locs ls hP1 hD1 hS1 hl
theorem gn_newB (X : Cn p s m args c cc nL own D cI cB A) {n : Int} {N : Nat} (hn : (N : Int) = n) (hN : N ≤ 100000) (hcells : cells + 1 ≤ R.cells) (hslots : slots + N ≤ R.slots) (hd : decode cc pc = .ok (.newarray .byte, 2)) (k : ∀ q : Nat, Gn p l e R s m args below meth c nL D A Q (cells + 1) (slots + N) (pc + 2) Ls (.ref q :: st) (ws ++ [(q, .inl (cB, (N, .inl (fun _ => 0))))])) : Gn p l e R s m args below meth c nL D A Q cells slots pc Ls (.int (i32 n) :: st) ws := by
  subst hn
  intro H locs ls hP hD hS hl
  refine va_newa (atype := .byte) (ty := .byte) (a0 := (N, .inl (fun _ => 0))) X.1 X.2.1 (X.2.2.2.2.1 _ aC_byte) rfl X.2.2.2.2.2.1 hP hD hS X.2.2.2.2.2.2.1 (fun _ => rfl) (i32_nneg (by omega) (by omega)) (by rw [i32_clamp (by omega) (by omega)]; omega) (show N * 1 ≤ 536870912 by omega) hcells hslots hd (fun q cA H1 hK1 hP1 hD1 hS1 => ?_)
  have e : cA = cB := RA_oneB (hK1.2 2 _ rfl).2 (X.2.2.2.2.2.1.2 1 _ rfl).2
  subst e
  exact k q H1 locs ls hP1 hD1 hS1 hl
theorem gn_put (X : Cn p s m args c cc nL own D cI cB A) (q0 fk : Nat) {a ci N idx : Nat} {C : String} {T : u_T} {ty0 : Nat → FieldType} {ty : FieldType} {fs : List Value} {v : Value} (hq : ws[q0]? = some (a, .inr (ci, fs))) (hc : vwCl[ci]? = some (C, T, N)) (hin : ∀ w ∈ u_ws C T N, w ∈ TT) (hty : ∀ k, k < N → parseFieldDescriptor (T k).2.2.1 = some (ty0 k)) (hnm : ∀ a, a < N → ∀ b, b < N → a ≠ b → (T a).2.1 ≠ (T b).2.1) (hk : fk < N) (hw : Cond.fieldLink own idx (T fk).1 (T fk).2.1 (T fk).2.2.1 ∈ TT) (hfin : (T fk).2.2.2 = false) (ht : ty0 fk = ty) (hn : narrow ty v = v) (hfit : fits ty v = true) (hlen : fk < fs.length) (hd : decode cc pc = .ok (.putfield idx, 3)) (k : Gn p l e R s m args below meth c nL D A Q cells slots (pc + 3) Ls st (ws.set q0 (a, .inr (ci, fs.set fk v)))) : Gn p l e R s m args below meth c nL D A Q cells slots pc Ls (v :: .ref a :: st) ws :=
  fun H locs ls hP hD hS hl => va_put X.1 X.2.1 X.2.2.2.2.1 hin ty0 hty hnm X.2.2.2.1 X.2.2.2.2.2.1 hP hD hS q0 hq hc fk hk (X.2.2.2.2.1 _ hw) (fun _ h => h) hfin (ty := ty) (v := v) (by rw [hty fk hk, ht]) hn hfit hlen hd (fun H1 locs1 hP1 hD1 hS1 => k H1 locs1 ls hP1 hD1 hS1 hl)
theorem gn_putF (X : Cn p s m args c cc nL own D cI cB A) (hI : meth.name = "<init>") (q0 fk : Nat) {a ci N idx : Nat} {C : String} {T : u_T} {ty0 : Nat → FieldType} {ty : FieldType} {fs : List Value} {v : Value} (hq : ws[q0]? = some (a, .inr (ci, fs))) (hc : vwCl[ci]? = some (C, T, N)) (hin : ∀ w ∈ u_ws C T N, w ∈ TT) (hty : ∀ k, k < N → parseFieldDescriptor (T k).2.2.1 = some (ty0 k)) (hnm : ∀ a, a < N → ∀ b, b < N → a ≠ b → (T a).2.1 ≠ (T b).2.1) (hk : fk < N) (hw : Cond.fieldLink own idx (T fk).1 (T fk).2.1 (T fk).2.2.1 ∈ TT) (hfin : (T fk).2.2.2 = true) (hdecl : (T fk).1 = own) (ht : ty0 fk = ty) (hn : narrow ty v = v) (hfit : fits ty v = true) (hlen : fk < fs.length) (hd : decode cc pc = .ok (.putfield idx, 3)) (k : Gn p l e R s m args below meth c nL D A Q cells slots (pc + 3) Ls st (ws.set q0 (a, .inr (ci, fs.set fk v)))) : Gn p l e R s m args below meth c nL D A Q cells slots pc Ls (v :: .ref a :: st) ws :=
  fun H locs ls hP hD hS hl => va_putF X.1 X.2.1 X.2.2.2.2.1 hin ty0 hty hnm X.2.2.2.1 X.2.2.2.2.2.1 hP hD hS q0 hq hc fk hk (X.2.2.2.2.1 _ hw) (fun _ h => h) hfin hI hdecl (ty := ty) (v := v) (by rw [hty fk hk, ht]) hn hfit hlen hd (fun H1 locs1 hP1 hD1 hS1 => k H1 locs1 ls hP1 hD1 hS1 hl)
theorem gn_get (X : Cn p s m args c cc nL own D cI cB A) (q0 fk : Nat) {a ci N idx : Nat} {C : String} {T : u_T} {fs : List Value} {v : Value} (hq : ws[q0]? = some (a, .inr (ci, fs))) (hc : vwCl[ci]? = some (C, T, N)) (hin : ∀ w ∈ u_ws C T N, w ∈ TT) (hk : fk < N) (hw : Cond.fieldLink own idx (T fk).1 (T fk).2.1 (T fk).2.2.1 ∈ TT) (hv : fs[fk]? = some v) (hd : decode cc pc = .ok (.getfield idx, 3)) (k : Gn p l e R s m args below meth c nL D A Q cells slots (pc + 3) Ls (v :: st) ws) : Gn p l e R s m args below meth c nL D A Q cells slots pc Ls (.ref a :: st) ws :=
  fun H locs ls hP hD hS hl => va_get X.1 X.2.1 X.2.2.2.2.1 hin X.2.2.2.1 X.2.2.2.2.2.1 hP q0 hq hc fk hk (X.2.2.2.2.1 _ hw) (fun _ h => h) (v := v) hv hd (k H locs ls hP hD hS hl)
theorem gn_bast (X : Cn p s m args c cc nL own D cI cB A) (q0 : Nat) {a N : Nat} {f : Nat → Int32} {i v : Int} (hq : ws[q0]? = some (a, .inl (cB, (N, .inl f)))) (hN : N ≤ 100000) (hi : 0 ≤ i ∧ i < N) (hd : decode cc pc = .ok (.bastore, 1)) (k : Gn p l e R s m args below meth c nL D A Q cells slots (pc + 1) Ls st (ws.set q0 (a, .inl (cB, (N, .inl (upd f (i32 i).toNatClampNeg (vp_nar .byte (i32 v)))))))) : Gn p l e R s m args below meth c nL D A Q cells slots pc Ls (.int (i32 v) :: .int (i32 i) :: .ref a :: st) ws :=
  fun H locs ls hP hD hS hl => va_bast X.1 X.2.1 X.2.2.2.2.2.1 hP hD hS q0 1 hq rfl (i32_vin hi hN) hd (fun H1 locs1 hP1 hD1 hS1 => k H1 locs1 ls hP1 hD1 hS1 hl)
end GN
/-! ===== contracts of what makes cells ===== -/
def nkP (D : va_G) (cI cB : ClassId) (h0 : Nat) (e0 : va_E) (sz : Nat) : Array Value → State → Prop := va_Pc [.ref h0] (fun U => U.heap.size = sz ∧ va_P D vwCl [(h0, e0)] U.heap ∧ va_K D vwCl [(cI, .int), (cB, .byte)] U ∧ va_D (fun _ => True) [(h0, e0)] ∧ NW U)
def nkQ (D : va_G) (w : (Nat → Nat) → va_W) (A : Nat → Prop) : Array Value → State → Outcome → State → Prop := va_Qv (fun _ : Nat → Nat => True) (fun u t => va_P D vwCl (w u) t.heap ∧ va_D A (w u)) A
def Nct (l : Launch) (D : va_G) (cI cB : ClassId) (y : MethodName) (cc : ByteArray) (rf rl mc ms : Nat) (e0 : va_E) (w : Nat → (Nat → Nat) → va_W) : Prop :=
  ∀ h0 sz : Nat, Met l y (.code y cc 1 none :: TT) { frames := rf, cells := mc, slots := ms, locals := rl } (nkP D cI cB h0 e0 sz) (nkQ D (w h0) (va_A [(h0, e0)] sz)) mc ms (va_A [(h0, e0)] sz)
theorem nct_of {l : Launch} {D : va_G} {cI cB : ClassId} {y : MethodName} {cc : ByteArray} {rf rl mc ms : Nat} {e0 : va_E} {w : Nat → (Nat → Nat) → va_W} (hy : plainName y.cls = true) (hyn : y.name = "<init>")
    (body : ∀ (h0 : Nat) (p : Program) (e : Env) (s : State) (m : MethodId) (args : Array Value) (below : List Frame) (meth : Method) (c : Code) (A : Nat → Prop), Cn p s m args c cc 1 y.cls D cI cB A → meth.name = "<init>" → meth.sig.returnType = none → meth.locks = false → Gn p l e { frames := rf, cells := mc, slots := ms, locals := rl } s m args below meth c 1 D A (MQ below (nkQ D (w h0) A) args s mc ms A) 0 0 0 [(0, .ref h0)] [] [(h0, e0)]) : Nct l D cI cB y cc rf rl mc ms e0 w := by
  intro h0 sz
  refine Met.ofW (cc := cc) (maxL := 1) (ret := none) hy rfl ?_
  intro p e s m args below meth c s₁ B hml hv
  obtain ⟨rfl, hsz, hP, hK, hD0, hN⟩ := hv
  subst hsz
  have hts := atoms_spec (ws := .code y cc 1 none :: TT) B.pre
  have hI : meth.name = "<init>" := (name_of_methodNamed B.named B.method).1.trans hyn
  have X : Cn p s m [Value.ref h0].toArray c cc 1 y.cls D cI cB (va_A [(h0, e0)] s.heap.size) := ⟨B.exec, B.bytes, hml, findClass_of_methodNamed B.named, fun w hw => hts w (List.mem_cons_of_mem _ hw), hK, fun q h => Or.inr h, hN⟩
  rw [lg_entry_eq]
  exact body h0 p e s m _ below meth c _ X hI B.returns B.notSynchronized s.heap [] _ hP hD0.self va_S.rf (lv_entry [.ref h0] (Nat.le_of_ble_eq_true rfl))
section GN2
variable {p : Program} {l : Launch} {e : Env} {R : Room} {s : State} {m : MethodId} {args : Array Value} {below : List Frame} {meth : Method} {c : Code} {cc : ByteArray} {nL : Nat} {own : String} {D : va_G} {cI cB : ClassId} {A : Nat → Prop} {Q : State → Prop} {cells slots pc : Nat} {Ls Ls' : List (Nat × Value)} {st : List Value} {ws ws' : va_W}
theorem gn_ret (X : Cn p s m args c cc nL own D cI cB A) {w : (Nat → Nat) → va_W} (hr : meth.sig.returnType = none) (hlk : meth.locks = false) (u : Nat → Nat) (hw : ws = w u) (hd : decode cc pc = .ok (.return_, 1)) : Gn p l e R s m args below meth c nL D A (MQ below (nkQ D w A) args s cells slots A) cells slots pc Ls [] ws := by
  subst hw
  intro H locs ls hP hD hS hl
  exact W.vret X.1 X.2.1 hr (fun t ht hW => ⟨⟨u, rfl, trivial, by rw [ht]; exact hP, hD⟩, hS.F ht⟩) hS.2.2 hd hlk
theorem nkP_blind {h0 sz : Nat} {e0 : va_E} : FrameBlind (nkP D cI cB h0 e0 sz) := fun a U g mk q => by
  obtain ⟨q0, q1, qP, qK, qD, qN⟩ := q
  exact ⟨q0, q1, qP, va_K.moved (u := U) (U := U.calling g mk a) (Vm.Alike.refl U.vm) qK, qD, qN.same rfl⟩
theorem map_last (ws : va_W) (x : Nat × va_E) : [ws.length].map (fun i => (ws ++ [x])[i]?) = [x].map some := by simp
theorem map_rest (ws : va_W) (x : Nat × va_E) : (List.range ws.length).map (fun i => (ws ++ [x])[i]?) = ws.map some := by
  apply List.ext_getElem?
  intro i
  rw [List.getElem?_map, List.getElem?_map]
  by_cases h : i < ws.length
  · rw [List.getElem?_range h, List.getElem?_eq_getElem h]
    show some ((ws ++ [x])[i]?) = some (some ws[i])
    rw [List.getElem?_append_left h, List.getElem?_eq_getElem h]
  · rw [List.getElem?_eq_none (by rw [List.length_range]; omega), List.getElem?_eq_none (l := ws) (by omega)]
    rfl
theorem gn_after {b mc ms : Nat} {e0 : va_E} {w : Nat → (Nat → Nat) → va_W} (X : Cn p s m args c cc nL own D cI cB A) (hnd : va_nd (List.range ws.length) = true) {st0 : List Value} {a : Array Value} {H : Heap} {locs : List Loc} {ls : Array Slot} (hr : va_Run p l e R s m args below meth c H locs cells slots mc ms (F0 m pc ls st0) (.ref b :: st) (nkQ D (w b) (va_A [(b, e0)] H.size) a) (va_A [(b, e0)] H.size)) (hP : va_P D vwCl (ws ++ [(b, e0)]) H) (hD : va_D A (ws ++ [(b, e0)])) (hS : va_S A s.heap H locs) (hl : lv_has ls nL Ls) (k : ∀ u : Nat → Nat, Gn p l e R s m args below meth c nL D A Q (cells + mc) (slots + ms) (pc + 3) Ls (.ref b :: st) (ws ++ w b u)) : W p l e R s m args below meth c H locs cells slots Q (F0 m pc ls st0) := by
  have hF := va_free (wc := [(b, e0)]) hD hS X.2.2.2.2.2.2.1 [ws.length] (map_last ws _)
  refine va_callv hr hS (fun q _ h => hF q h) hF (fun u t H1 locs1 ht hvm _ hB hz1 hk1 hS1 => ?_)
  obtain ⟨hP1, hD1⟩ := hB
  rw [ht] at hP1
  obtain ⟨hP2, hD2⟩ := va_join (wr := ws) (w1 := w b u) hP hD [ws.length] (List.range ws.length) (map_last ws _) (map_rest ws _) hnd (fun i hi hc => by
    rw [List.mem_range] at hi
    rw [List.mem_singleton] at hc
    omega) hk1 hF hP1 hD1
  exact k u H1 locs1 ls hP2 hD2 hS1 hl
theorem gn_callN (X : Cn p s m args c cc nL own D cI cB A) {b mc ms rl rf idx : Nat} {e0 : va_E} {w : Nat → (Nat → Nat) → va_W} {y : MethodName} {by_ : ByteArray} (hM : Nct l D cI cB y by_ rf rl mc ms e0 w) (hnd : va_nd (List.range ws.length) = true) (hlk : va_Nw (.methodLinkNest own idx y RX7) s) (hcd : Cond.code y by_ 1 none ∈ TT) (hini : Cond.initialized y.cls ∈ TT) (him : Cond.instanceMethod y ∈ TT) (hyn : y.name = "<init>") (hd2 : y.cls ≠ "java/lang/invoke/MethodHandle" ∧ y.cls ≠ "java/lang/invoke/VarHandle" ∧ (parseMethodDescriptor y.desc).map (fun d => d.parameters.length) = some 0) (hR : rf + 1 ≤ R.frames ∧ 8 + (1 + 11) + rl ≤ R.locals) (hro : ((.ref b :: st : List Value).map fun v => v.category).sum ≤ 8) (hcs : cells + mc ≤ R.cells ∧ slots + ms ≤ R.slots) (hd : decode cc pc = .ok (.invokespecial idx, 3)) (k : ∀ u : Nat → Nat, Gn p l e R s m args below meth c nL D A Q (cells + mc) (slots + ms) (pc + 3) Ls (.ref b :: st) (ws ++ w b u)) : Gn p l e R s m args below meth c nL D A Q cells slots pc Ls (.ref b :: .ref b :: st) (ws ++ [(b, e0)]) := by
  intro H locs ls hP hD hS hl
  have hPc := va_P.sub (ws' := [(b, e0)]) hP [ws.length] (by simp)
  have hDc := va_D.sub (ws' := [(b, e0)]) hD [ws.length] rfl (map_last ws _)
  refine gn_after X hnd (va_runIN (As := []) (rest := .ref b :: st) ⟨X.1, X.2.1, X.2.2.1, X.2.2.2.1, X.2.2.2.2.1⟩ (hM b H.size) ⟨va_cnB 0 X.2.2.2.2.1 (fun z hz => ?_) rfl rfl rfl hlk (X.2.2.2.2.1 _ hini) hd2 hR, hyn, X.2.2.2.2.1 _ him⟩ ⟨nkP_blind, fun U hU hW => ⟨rfl, by rw [hU], by rw [hU]; exact hPc, va_K.moved hW.alike X.2.2.2.2.2.1, hDc.weaken (fun _ _ _ _ => trivial), X.2.2.2.2.2.2.2.warm hW⟩⟩ rfl rfl hl.1 rfl (lv_room hro) hd hcs) hP hD hS hl k
  rcases List.mem_cons.mp hz with rfl | h
  · exact ⟨hcd, TT_good hcd⟩
  · exact ⟨h, TT_good h⟩
theorem gn_callI (X : Cn p s m args c cc nL own D cI cB A) {b mc ms rl rf idx : Nat} {e0 : va_E} {w : Nat → (Nat → Nat) → va_W} {y : MethodName} {by_ : ByteArray} (hM : Nct l D cI cB y by_ rf rl mc ms e0 w) (hnd : va_nd (List.range ws.length) = true) (hlk : Cond.methodLink own idx y ∈ TT) (hcd : Cond.code y by_ 1 none ∈ TT) (hini : Cond.initialized y.cls ∈ TT) (him : Cond.instanceMethod y ∈ TT) (hyn : y.name = "<init>") (hd2 : y.cls ≠ "java/lang/invoke/MethodHandle" ∧ y.cls ≠ "java/lang/invoke/VarHandle" ∧ (parseMethodDescriptor y.desc).map (fun d => d.parameters.length) = some 0) (hR : rf + 1 ≤ R.frames ∧ 8 + (1 + 11) + rl ≤ R.locals) (hro : ((.ref b :: st : List Value).map fun v => v.category).sum ≤ 8) (hcs : cells + mc ≤ R.cells ∧ slots + ms ≤ R.slots) (hd : decode cc pc = .ok (.invokespecial idx, 3)) (k : ∀ u : Nat → Nat, Gn p l e R s m args below meth c nL D A Q (cells + mc) (slots + ms) (pc + 3) Ls (.ref b :: st) (ws ++ w b u)) : Gn p l e R s m args below meth c nL D A Q cells slots pc Ls (.ref b :: .ref b :: st) (ws ++ [(b, e0)]) := by
  intro H locs ls hP hD hS hl
  have hPc := va_P.sub (ws' := [(b, e0)]) hP [ws.length] (by simp)
  have hDc := va_D.sub (ws' := [(b, e0)]) hD [ws.length] rfl (map_last ws _)
  refine gn_after X hnd (va_runI (As := []) (rest := .ref b :: st) ⟨X.1, X.2.1, X.2.2.1, X.2.2.2.1, X.2.2.2.2.1⟩ (hM b H.size) (cwI 0 X.2.2.2.2.1 (fun z hz => ?_) rfl rfl rfl (X.2.2.2.2.1 _ hini) (X.2.2.2.2.1 _ hlk) (X.2.2.2.2.1 _ him) hyn hd2 hR) ⟨nkP_blind, fun U hU hW => ⟨rfl, by rw [hU], by rw [hU]; exact hPc, va_K.moved hW.alike X.2.2.2.2.2.1, hDc.weaken (fun _ _ _ _ => trivial), X.2.2.2.2.2.2.2.warm hW⟩⟩ rfl rfl hl.1 rfl (lv_room hro) hd hcs) hP hD hS hl k
  rcases List.mem_cons.mp hz with rfl | h
  · exact ⟨hcd, TT_good hcd⟩
  · exact ⟨h, TT_good h⟩
end GN2
