/-! ===== the reference at the start ===== -/
def T00 : Mem := fun k j => if k = 13 then (if 0 ≤ j ∧ j < 44 then wTab.getD j.toNat 0 else 0) else 0
def wF (n : Nat) : Nat → Int32 := fun j => if j < n then i32 (wTab.getD j 0) else 0
theorem wF_zero : (fun _ => 0 : Nat → Int32) = wF 0 := by
  funext j
  unfold wF
  rw [if_neg (Nat.not_lt_zero j)]
theorem wB_all : ∀ n : Nat, n < 44 → vp_nar .byte (i32 (wTab.getD n 0)) = i32 (wTab.getD n 0) := by decide +kernel
theorem wF_upd {n : Nat} {v : Int} (hn : n < 44) (hv : wTab.getD n 0 = v) : upd (wF n) (i32 (n : Int)).toNatClampNeg (vp_nar .byte (i32 v)) = wF (n + 1) := by
  subst hv
  rw [i32_clamp (by omega) (by omega), wB_all n hn]
  funext j
  unfold upd wF
  rw [show ((n : Int)).toNat = n by omega]
  by_cases h : j = n
  · rw [if_pos h, if_pos (by omega), h]
  · rw [if_neg h]
    by_cases g : j < n
    · rw [if_pos g, if_pos (by omega)]
    · rw [if_neg g, if_neg (by omega)]
theorem wF_end : wF 44 = fun j : Nat => i32 (T00 13 (j : Int)) := by
  funext j
  unfold wF T00
  rw [if_pos (show (13 : Nat) = 13 from rfl)]
  by_cases h : j < 44
  · rw [if_pos h, if_pos (by omega), show ((j : Int)).toNat = j by omega]
  · rw [if_neg h, if_neg (by omega)]
    rfl
section GN3
variable {p : Program} {l : Launch} {e : Env} {R : Room} {s : State} {m : MethodId} {args : Array Value} {below : List Frame} {meth : Method} {c : Code} {cc : ByteArray} {nL : Nat} {own : String} {D : va_G} {cI cB : ClassId} {Z : (Nat → Nat) × (Nat → Nat)} {ad : Nat → Nat} {shs : List Shp} {A : Nat → Prop} {Q : State → Prop} {cells slots pc : Nat} {Ls Ls' : List (Nat × Value)} {st : List Value} {ws ws' : va_W}
theorem gn_bastW (X : Cn p s m args c cc nL own D cI cB A) (q0 n : Nat) {a : Nat} {i v : Int} (hq : ws[q0]? = some (a, .inl (cB, (44, .inl (wF n))))) (hn : n < 44) (hni : (n : Int) = i) (hv : wTab.getD n 0 = v) (hd : decode cc pc = .ok (.bastore, 1)) (k : Gn p l e R s m args below meth c nL D A Q cells slots (pc + 1) Ls st (ws.set q0 (a, .inl (cB, (44, .inl (wF (n + 1))))))) : Gn p l e R s m args below meth c nL D A Q cells slots pc Ls (.int (i32 v) :: .int (i32 i) :: .ref a :: st) ws := by
  subst hni
  refine gn_bast X q0 hq (Nat.le_of_ble_eq_true rfl) ⟨by omega, by omega⟩ hd ?_
  rw [wF_upd hn hv]
  exact k
theorem gn_callCt (X : Cn p s m args c cc nL own D cI cB A) (hZ : StrW Z A s) (n : Nat) (rest : List Value) {As : List Value} {idx rf rl nLy : Nat} {y : MethodName} {by_ : ByteArray} {rety : Option FieldType} {S S' : Mem} (hM : Ctr l D cI cB Z ad shs y by_ nLy rety rf rl As S none S') (hG : GoodIn TT (va_wsS own idx y (.code y by_ nLy rety :: TT))) (hd2 : y.cls ≠ "java/lang/invoke/MethodHandle" ∧ y.cls ≠ "java/lang/invoke/VarHandle" ∧ (parseMethodDescriptor y.desc).map (fun d => d.parameters.length) = some n) (hR : rf + 1 ≤ R.frames ∧ 8 + (nLy + 11) + rl ≤ R.locals) (hn : As.length = n) (hro : (rest.map fun v => v.category).sum ≤ 8) (hcs : cells ≤ R.cells ∧ slots ≤ R.slots) (hd : decode cc pc = .ok (.invokestatic idx, 3)) (k : Gn p l e R s m args below meth c nL D A Q cells slots (pc + 3) Ls rest (mkW ad cI cB shs S')) : Gn p l e R s m args below meth c nL D A Q cells slots pc Ls (As.reverse ++ rest) (mkW ad cI cB shs S) := by
  intro H locs ls hP hD hS hl
  have hA : ∀ q, va_A (mkW ad cI cB shs S) H.size q → A q := by
    intro q h
    rcases h with ⟨k, e, h⟩ | h
    · exact hD.2 k _ h
    · exact X.2.2.2.2.2.2.1 q (Nat.le_trans hS.1 h)
  have hr := va_runS (e := e) (below := below) (meth := meth) (locs := locs) (cells := cells) (slots := slots) (As := As) (rest := rest) (g := F0 m pc ls (As.reverse ++ rest)) ⟨X.1, X.2.1, X.2.2.1, X.2.2.2.1, X.2.2.2.2.1⟩ (hM H.size) (va_cwS n X.2.2.2.2.1 hG rfl rfl rfl hd2 hR) ⟨cP_blind, fun U hU hW => ⟨rfl, by rw [hU], by rw [hU]; exact hP, va_K.moved hW.alike X.2.2.2.2.2.1, hD.weaken (fun _ _ _ _ => trivial), hZ.go hS hU hW hA⟩⟩ rfl hn hl.1 rfl (lv_room hro) hd hcs
  intro T hT Xs
  obtain ⟨v, st₀, t, T', L, h0, X', hL, e1, e2, ⟨hv, hP', hz, hk⟩, st⟩ := hr T hT Xs
  cases hv
  rw [h0] at hz hk
  have hS' : va_S A s.heap T'.heap (locs ++ L) := ⟨Nat.le_trans hS.1 (by rw [e1]; exact hz), fun q h1 h2 => by rw [e1, hk q (Nat.lt_of_lt_of_le h1 hS.1) (fun z => h2 (hA q z))]; exact hS.2.1 q h1 h2, fun q hq => by
      rcases List.mem_append.mp hq with h | h
      · exact hS.2.2 q h
      · exact hA _ (hL q h)⟩
  obtain ⟨t2, a1, b1⟩ := k T'.heap (locs ++ L) ls (by rw [e1]; exact hP') (mkW_D hD) hS' hl T' rfl X'
  exact ⟨t2, st t2 a1, b1⟩
end GN3
def nkPM (D : va_G) (cI cB : ClassId) (Z : (Nat → Nat) × (Nat → Nat)) (h0 : Nat) (e0 : va_E) (sz : Nat) : Array Value → State → Prop := va_Pc [.ref h0] (fun U => U.heap.size = sz ∧ va_P D vwCl [(h0, e0)] U.heap ∧ va_K D vwCl [(cI, .int), (cB, .byte)] U ∧ va_D (fun _ => True) [(h0, e0)] ∧ NW U ∧ StrW Z (va_A [(h0, e0)] sz) U)
def NctM (l : Launch) (D : va_G) (cI cB : ClassId) (Z : (Nat → Nat) × (Nat → Nat)) (y : MethodName) (cc : ByteArray) (rf rl mc ms : Nat) (e0 : va_E) (w : Nat → (Nat → Nat) → va_W) : Prop :=
  ∀ h0 sz : Nat, Met l y (.code y cc 1 none :: TT) { frames := rf, cells := mc, slots := ms, locals := rl } (nkPM D cI cB Z h0 e0 sz) (nkQ D (w h0) (va_A [(h0, e0)] sz)) mc ms (va_A [(h0, e0)] sz)
theorem nct_ofM {l : Launch} {D : va_G} {cI cB : ClassId} {Z : (Nat → Nat) × (Nat → Nat)} {y : MethodName} {cc : ByteArray} {rf rl mc ms : Nat} {e0 : va_E} {w : Nat → (Nat → Nat) → va_W} (hy : plainName y.cls = true) (hyn : y.name = "<init>")
    (body : ∀ (h0 : Nat) (p : Program) (e : Env) (s : State) (m : MethodId) (args : Array Value) (below : List Frame) (meth : Method) (c : Code) (A : Nat → Prop), Cn p s m args c cc 1 y.cls D cI cB A → StrW Z A s → meth.name = "<init>" → meth.sig.returnType = none → meth.locks = false → Gn p l e { frames := rf, cells := mc, slots := ms, locals := rl } s m args below meth c 1 D A (MQ below (nkQ D (w h0) A) args s mc ms A) 0 0 0 [(0, .ref h0)] [] [(h0, e0)]) : NctM l D cI cB Z y cc rf rl mc ms e0 w := by
  intro h0 sz
  refine Met.ofW (cc := cc) (maxL := 1) (ret := none) hy rfl ?_
  intro p e s m args below meth c s₁ B hml hv
  obtain ⟨rfl, hsz, hP, hK, hD0, hN, hZ⟩ := hv
  subst hsz
  have hts := atoms_spec (ws := .code y cc 1 none :: TT) B.pre
  have hI : meth.name = "<init>" := (name_of_methodNamed B.named B.method).1.trans hyn
  have X : Cn p s m [Value.ref h0].toArray c cc 1 y.cls D cI cB (va_A [(h0, e0)] s.heap.size) := ⟨B.exec, B.bytes, hml, findClass_of_methodNamed B.named, fun w hw => hts w (List.mem_cons_of_mem _ hw), hK, fun q h => Or.inr h, hN⟩
  rw [lg_entry_eq]
  exact body h0 p e s m _ below meth c _ X hZ hI B.returns B.notSynchronized s.heap [] _ hP hD0.self va_S.rf (lv_entry [.ref h0] (Nat.le_of_ble_eq_true rfl))
