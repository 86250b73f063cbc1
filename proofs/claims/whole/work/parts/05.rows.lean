/-! ===== whole numbers over the machine's ===== -/
def i32 (x : Int) : Int32 := Int32.ofInt x
abbrev Mem : Type := Nat → Int → Int
def wr (S : Mem) (q : Nat) (i v : Int) : Mem := fun k j => if k = q ∧ j = i then v else S k j
def cpy (S : Mem) (q0 : Nat) (sp : Int) (q1 : Nat) (dp n : Int) : Mem := fun k j => if k = q1 ∧ dp ≤ j ∧ j < dp + n then S q0 (sp + (j - dp)) else S k j
def ltb (x y : Int) : Bool := decide (i32 x < i32 y)
def eqb (x y : Int) : Bool := decide (i32 x = i32 y)
def dvb (x y : Int) : Int := (i32 x / i32 y).toInt
def rmb (x y : Int) : Int := (i32 x - i32 x / i32 y * i32 y).toInt
def shlb (x y : Int) : Int := (i32 x <<< (i32 y &&& 31)).toInt
def shrb (x y : Int) : Int := (i32 x >>> (i32 y &&& 31)).toInt
def andb (x y : Int) : Int := (i32 x &&& i32 y).toInt
def xorb (x y : Int) : Int := (i32 x ^^^ i32 y).toInt
def byb (x : Int) : Int := ((i32 x).toInt8.toInt32).toInt
def mnb (x y : Int) : Int := if ltb y x = true then y else x
def mxb (x y : Int) : Int := if ltb x y = true then y else x
theorem i32_toInt (z : Int32) : i32 z.toInt = z := Int32.ofInt_toInt z
theorem i32_add (x y : Int) : i32 x + i32 y = i32 (x + y) := (Int32.ofInt_add x y).symm
theorem i32_sub (x y : Int) : i32 x - i32 y = i32 (x - y) := (Int32.ofInt_sub x y).symm
theorem i32_mul (x y : Int) : i32 x * i32 y = i32 (x * y) := (Int32.ofInt_mul x y).symm
theorem i32_neg (x : Int) : - i32 x = i32 (-x) := (Int32.ofInt_neg x).symm
theorem i32_in {x : Int} (h1 : -2147483648 ≤ x) (h2 : x < 2147483648) : (i32 x).toInt = x := Int32.toInt_ofInt_of_le (by omega) (by omega)
theorem i32_0 : i32 0 = 0 := rfl
theorem i32_byte {n : Int} (h1 : -128 ≤ n) (h2 : n < 128) : (Int8.ofInt n).toInt32 = i32 n := by
  apply Int32.toInt_inj.mp
  rw [i32_in (by omega) (by omega), Int8.toInt_toInt32, Int8.toInt_ofInt_of_le (by omega) (by omega)]
theorem i32_short {n : Int} (h1 : -32768 ≤ n) (h2 : n < 32768) : (Int16.ofInt n).toInt32 = i32 n := by
  apply Int32.toInt_inj.mp
  rw [i32_in (by omega) (by omega), Int16.toInt_toInt32, Int16.toInt_ofInt_of_le (by omega) (by omega)]
theorem i32_vin {i : Int} {n : Nat} (h : 0 ≤ i ∧ i < n) (hn : n ≤ 100000) : vp_in (i32 i) n := by
  rw [vp_in_iff, i32_in (by omega) (by omega)]
  exact h
theorem i32_clamp {i : Int} (h1 : 0 ≤ i) (h2 : i < 2147483648) : (i32 i).toNatClampNeg = i.toNat := by
  rw [← Int32.toNat_toInt, i32_in (by omega) (by omega)]
theorem i32_nneg {i : Int} (h1 : 0 ≤ i) (h2 : i < 2147483648) : ¬ i32 i < 0 := by
  rw [Int32.lt_iff_toInt_lt, i32_in (by omega) (by omega)]
  show ¬ i < 0
  omega
theorem eqb_toInt {x v : Int} (h1 : -2147483648 ≤ v) (h2 : v < 2147483648) : eqb x v = true ↔ (i32 x).toInt = v := by
  unfold eqb
  rw [decide_eq_true_iff]
  constructor
  · intro h
    rw [h, i32_in h1 h2]
  · intro h
    apply Int32.toInt_inj.mp
    rw [h, i32_in h1 h2]
/-! ===== worlds: shapes that stay, numbers that move ===== -/
abbrev Shp : Type := (Bool × Nat) ⊕ (Nat × List (Option Nat))
def mkF (ad : Nat → Nat) (M : Int → Int) (k : Nat) (o : Option Nat) : Value := match o with
  | some q => .ref (ad q)
  | none => .int (i32 (M (k : Int)))
def mkE (ad : Nat → Nat) (cI cB : ClassId) (sh : Shp) (M : Int → Int) : va_E := match sh with
  | .inl (b, n) => .inl (cond b cB cI, n, .inl (fun j => i32 (M (j : Int))))
  | .inr (ci, fl) => .inr (ci, fl.mapIdx (mkF ad M))
def mkW (ad : Nat → Nat) (cI cB : ClassId) (shs : List Shp) (S : Mem) : va_W := shs.mapIdx (fun k sh => (ad k, mkE ad cI cB sh (S k)))
theorem mkW_at {ad : Nat → Nat} {cI cB : ClassId} {shs : List Shp} (S : Mem) {q : Nat} {sh : Shp} (h : shs[q]? = some sh) : (mkW ad cI cB shs S)[q]? = some (ad q, mkE ad cI cB sh (S q)) := by
  unfold mkW
  rw [List.getElem?_mapIdx, h]
  rfl
theorem mkW_back {ad : Nat → Nat} {cI cB : ClassId} {shs : List Shp} {S : Mem} {q : Nat} {w : Nat × va_E} (h : (mkW ad cI cB shs S)[q]? = some w) : ∃ sh, shs[q]? = some sh ∧ w = (ad q, mkE ad cI cB sh (S q)) := by
  unfold mkW at h
  rw [List.getElem?_mapIdx] at h
  cases hs : shs[q]? with
  | none => rw [hs] at h; cases h
  | some sh => rw [hs] at h; exact ⟨sh, rfl, (Option.some.inj h).symm⟩
theorem mkW_D {ad : Nat → Nat} {cI cB : ClassId} {shs : List Shp} {S S' : Mem} {A : Nat → Prop} (h : va_D A (mkW ad cI cB shs S)) : va_D A (mkW ad cI cB shs S') := by
  refine ⟨fun i j x y hi hj hxy => ?_, fun k x hk => ?_⟩
  · obtain ⟨s1, a1, rfl⟩ := mkW_back hi
    obtain ⟨s2, a2, rfl⟩ := mkW_back hj
    exact h.1 i j _ _ (mkW_at S a1) (mkW_at S a2) hxy
  · obtain ⟨s1, a1, rfl⟩ := mkW_back hk
    exact h.2 k (ad k, mkE ad cI cB s1 (S k)) (mkW_at S a1)
theorem mkW_A {ad : Nat → Nat} {cI cB : ClassId} {shs : List Shp} {S S' : Mem} {sz q : Nat} (h : va_A (mkW ad cI cB shs S) sz q) : va_A (mkW ad cI cB shs S') sz q := by
  rcases h with ⟨k, e, h⟩ | h
  · obtain ⟨sh, a, b⟩ := mkW_back h
    have hq : q = ad k := congrArg Prod.fst b
    subst hq
    exact Or.inl ⟨k, _, mkW_at S' a⟩
  · exact Or.inr h
theorem mkW_set {ad : Nat → Nat} {cI cB : ClassId} {shs : List Shp} {S S' : Mem} {q : Nat} {sh : Shp} {e : va_E} (hq : shs[q]? = some sh) (hn : ∀ k, k ≠ q → S' k = S k) (he : e = mkE ad cI cB sh (S' q)) : (mkW ad cI cB shs S).set q (ad q, e) = mkW ad cI cB shs S' := by
  subst he
  apply List.ext_getElem?
  intro k
  have hlen : q < (mkW ad cI cB shs S).length := (List.getElem?_eq_some_iff.mp (mkW_at S hq)).1
  by_cases hk : k = q
  · subst hk
    rw [List.getElem?_set_self hlen, mkW_at S' hq]
  · rw [List.getElem?_set_ne (Ne.symm hk)]
    unfold mkW
    rw [List.getElem?_mapIdx, List.getElem?_mapIdx, hn k hk]
theorem wr_ne {S : Mem} {q : Nat} {i v : Int} {k : Nat} (h : k ≠ q) : wr S q i v k = S k := by
  funext j
  unfold wr
  rw [if_neg (fun a => h a.1)]
theorem mkE_arr {ad : Nat → Nat} {cI cB : ClassId} {b : Bool} {n : Nat} {S : Mem} {q : Nat} {i v : Int} (h0 : 0 ≤ i) (h1 : i < 2147483648) : (Sum.inl (cond b cB cI, n, .inl (upd (fun j => i32 (S q (j : Int))) (i32 i).toNatClampNeg (i32 v))) : va_E) = mkE ad cI cB (.inl (b, n)) (wr S q i v q) := by
  have e : (upd (fun j => i32 (S q (j : Int))) (i32 i).toNatClampNeg (i32 v)) = fun j : Nat => i32 (wr S q i v q (j : Int)) := by
    funext j
    unfold upd wr
    rw [i32_clamp h0 h1]
    by_cases hj : j = i.toNat
    · rw [if_pos hj, if_pos ⟨rfl, by omega⟩]
    · rw [if_neg hj, if_neg (fun a => hj (by omega))]
  rw [e]
  rfl
theorem mkE_fld {ad : Nat → Nat} {cI cB : ClassId} {ci k : Nat} {fl : List (Option Nat)} {S : Mem} {q : Nat} {v : Int} (hk : fl[k]? = some none) : (Sum.inr (ci, (fl.mapIdx (mkF ad (S q))).set k (.int (i32 v))) : va_E) = mkE ad cI cB (.inr (ci, fl)) (wr S q (k : Int) v q) := by
  have e : (fl.mapIdx (mkF ad (S q))).set k (.int (i32 v)) = fl.mapIdx (mkF ad (wr S q (k : Int) v q)) := by
    apply List.ext_getElem?
    intro j
    have hl : k < (fl.mapIdx (mkF ad (S q))).length := by
      rw [List.length_mapIdx]
      exact (List.getElem?_eq_some_iff.mp hk).1
    by_cases hj : j = k
    · subst hj
      rw [List.getElem?_set_self hl, List.getElem?_mapIdx, hk]
      simp [mkF, wr]
    · rw [List.getElem?_set_ne (Ne.symm hj), List.getElem?_mapIdx, List.getElem?_mapIdx]
      cases hf : fl[j]? with
      | none => rfl
      | some o =>
        cases o with
        | some r => rfl
        | none =>
          have : ¬ ((j : Int) = (k : Int)) := by omega
          simp [mkF, wr, this]
  rw [e]
  rfl
/-! ===== words for calls ===== -/
theorem gV {own C : String} {idx : Nat} {y : MethodName} {cc : ByteArray} {nL : Nat} {ret : Option FieldType} (h1 : Cond.methodLink own idx y ∈ TT) (h2 : Cond.instanceMethod y ∈ TT) (h3 : Cond.selects C y y ∈ TT) (h4 : Cond.initialized C ∈ TT) (h5 : Cond.code y cc nL ret ∈ TT) : GoodIn TT (wsV own idx C y (.code y cc nL ret :: TT)) := by
  intro w hw
  have key : w ∈ TT := by
    unfold wsV at hw
    rcases List.mem_append.mp hw with h | h
    · simp only [List.mem_cons, List.not_mem_nil, or_false] at h
      rcases h with rfl | rfl | rfl | rfl
      · exact h1
      · exact h2
      · exact h3
      · exact h4
    · rcases List.mem_cons.mp h with rfl | h
      · exact h5
      · exact h
  exact ⟨key, TT_good key⟩
theorem gS {own : String} {idx : Nat} {y : MethodName} {cc : ByteArray} {nL : Nat} {ret : Option FieldType} (h1 : Cond.methodLink own idx y ∈ TT) (h2 : Cond.static y ∈ TT) (h4 : Cond.initialized y.cls ∈ TT) (h5 : Cond.code y cc nL ret ∈ TT) : GoodIn TT (va_wsS own idx y (.code y cc nL ret :: TT)) := by
  intro w hw
  have key : w ∈ TT := by
    unfold va_wsS at hw
    rcases List.mem_append.mp hw with h | h
    · simp only [List.mem_cons, List.not_mem_nil, or_false] at h
      rcases h with rfl | rfl | rfl
      · exact h1
      · exact h2
      · exact h4
    · rcases List.mem_cons.mp h with rfl | h
      · exact h5
      · exact h
  exact ⟨key, TT_good key⟩
/-! ===== the texts that stand in the program ===== -/
def sTab : List (String × Nat × String) := [("ClinchClock$TextReader", 39, "supply"), ("ClinchClock$TextReader", 51, "reserve"), ("ClinchClock$TextReader", 55, "bidder"), ("ClinchClock$TextReader", 78, "cap"), ("ClinchClock", 320, "supply "), ("ClinchClock", 326, "reserve "), ("ClinchClock", 358, "bidder"), ("ClinchClock", 360, " "), ("ClinchClock", 362, " cap "), ("ClinchClock", 364, ";"), ("ClinchClock", 334, "end "), ("ClinchClock", 339, " has "), ("ClinchClock", 345, " pays "), ("ClinchClock", 347, "left ")]
def sByt : List (List Int32) := [[115, 117, 112, 112, 108, 121], [114, 101, 115, 101, 114, 118, 101], [98, 105, 100, 100, 101, 114], [99, 97, 112], [115, 117, 112, 112, 108, 121, 32], [114, 101, 115, 101, 114, 118, 101, 32], [98, 105, 100, 100, 101, 114], [32], [32, 99, 97, 112, 32], [59], [101, 110, 100, 32], [32, 104, 97, 115, 32], [32, 112, 97, 121, 115, 32], [108, 101, 102, 116, 32]]
def sLen (k : Nat) : Nat := (sByt.getD k []).length
def StrW (Z : (Nat → Nat) × (Nat → Nat)) (A : Nat → Prop) (U : State) : Prop :=
  (∀ k, k < 14 → vk_S 1 [sLen k] [sByt.getD k []] (fun _ => Z.1 k) (fun _ => Z.2 k) A U U.heap) ∧ (∀ k q, sTab[k]? = some q → vk_R q.1 q.2.1 q.2.2 (Z.1 k) U) ∧ va_Z "java/lang/String" "COMPACT_STRINGS" "Z" (.int 1) A U U.heap ∧ va_Zq "jdk/internal/util/Preconditions" "SIOOBE_FORMATTER" "Ljava/util/function/BiFunction;" A U U.heap
theorem StrW.blind {Z : (Nat → Nat) × (Nat → Nat)} {A : Nat → Prop} {U V : State} (h : StrW Z A U) (hh : V.heap = U.heap := by rfl) (hv : V.vm = U.vm := by rfl) : StrW Z A V := by
  obtain ⟨h1, h2, h3, h4⟩ := h
  have ha : U.vm.Alike V.vm := by rw [hv]; exact Vm.Alike.refl U.vm
  exact ⟨fun k hk => by rw [hh]; exact (h1 k hk).moved ha, fun k q hq => (h2 k q hq).same hv, by rw [hh]; exact h3.moved ha, by rw [hh]; exact h4.moved ha⟩
theorem StrW.go {Z : (Nat → Nat) × (Nat → Nat)} {A B : Nat → Prop} {s U : State} {H : Heap} {locs : List Loc} (h : StrW Z A s) (hS : va_S A s.heap H locs) (hU : U.heap = H) (hW : s.WarmedH U.vm) (hB : ∀ q, B q → A q) : StrW Z B U := by
  obtain ⟨h1, h2, h3, h4⟩ := h
  subst hU
  exact ⟨fun k hk => (((h1 k hk).kept hS.2.1).moved hW.alike).narrow hB, fun k q hq => (h2 k q hq).warm hW, ((h3.kept hS.2.1).moved hW.alike).narrow hB, ((h4.kept hS.2.1).moved hW.alike).narrow hB⟩
/-! ===== a contract over whole numbers ===== -/
def cQ (D : va_G) (cI cB : ClassId) (ad : Nat → Nat) (shs : List Shp) (rv : Option Value) (S' : Mem) (A : Nat → Prop) : Array Value → State → Outcome → State → Prop := fun _ st oc t => oc = .returned rv ∧ va_P D vwCl (mkW ad cI cB shs S') t.heap ∧ va_F A st t
def cP (D : va_G) (cI cB : ClassId) (Z : (Nat → Nat) × (Nat → Nat)) (ad : Nat → Nat) (shs : List Shp) (As : List Value) (S : Mem) (sz : Nat) : Array Value → State → Prop := va_Pc As (fun U => U.heap.size = sz ∧ va_P D vwCl (mkW ad cI cB shs S) U.heap ∧ va_K D vwCl [(cI, .int), (cB, .byte)] U ∧ va_D (fun _ => True) (mkW ad cI cB shs S) ∧ StrW Z (va_A (mkW ad cI cB shs S) sz) U)
def Ctr (l : Launch) (D : va_G) (cI cB : ClassId) (Z : (Nat → Nat) × (Nat → Nat)) (ad : Nat → Nat) (shs : List Shp) (y : MethodName) (cc : ByteArray) (nL : Nat) (ret : Option FieldType) (rf rl : Nat) (As : List Value) (S : Mem) (rv : Option Value) (S' : Mem) : Prop :=
  ∀ sz : Nat, Met l y (.code y cc nL ret :: TT) { frames := rf, cells := 0, slots := 0, locals := rl } (cP D cI cB Z ad shs As S sz) (cQ D cI cB ad shs rv S' (va_A (mkW ad cI cB shs S) sz)) 0 0 (va_A (mkW ad cI cB shs S) sz)
def Cx (p : Program) (s : State) (m : MethodId) (args : Array Value) (meth : Method) (c : Code) (cc : ByteArray) (nL : Nat) (own : String) (ret : Option FieldType) (D : va_G) (cI cB : ClassId) (Z : (Nat → Nat) × (Nat → Nat)) (A : Nat → Prop) : Prop :=
  p.tables.exec = Jvm.exec ∧ c.code = cc ∧ c.maxLocals = nL ∧ s.vm.findClass own = some m.cls ∧ (∀ w ∈ TT, w.before args s = true) ∧ va_K D vwCl [(cI, .int), (cB, .byte)] s ∧ (∀ q, s.heap.size ≤ q → A q) ∧ meth.sig.returnType = ret ∧ meth.locks = false ∧ StrW Z A s
def Go (p : Program) (l : Launch) (e : Env) (R : Room) (s : State) (m : MethodId) (args : Array Value) (below : List Frame) (meth : Method) (c : Code) (nL : Nat) (D : va_G) (cI cB : ClassId) (ad : Nat → Nat) (shs : List Shp) (A : Nat → Prop) (Q : State → Prop) (pc : Nat) (Ls : List (Nat × Value)) (st : List Value) (S : Mem) : Prop :=
  ∀ (H : Heap) (locs : List Loc) (ls : Array Slot), va_P D vwCl (mkW ad cI cB shs S) H → va_D A (mkW ad cI cB shs S) → va_S A s.heap H locs → lv_has ls nL Ls → W p l e R s m args below meth c H locs 0 0 Q (F0 m pc ls st)
def lst (Ls : List (Nat × Value)) (i : Nat) (v : Value) : List (Nat × Value) := (i, v) :: Ls.filter (fun q => !(q.1 == i) && !(q.1 + 1 == i && q.2.category == 2))
def lp {σ ρ : Type} (step : σ → Option (σ ⊕ ρ)) : Nat → σ → Option ρ
  | 0, _ => none
  | n + 1, s => match step s with
    | none => none
    | some (.inl s') => lp step n s'
    | some (.inr r) => some r
def wrk {α : Type} (S : Mem) (q : Nat) (i v : Int) (k : Mem → Option α) : Option α := k (wr S q i v)
def cpyk {α : Type} (S : Mem) (q0 : Nat) (sp : Int) (q1 : Nat) (dp n : Int) (k : Mem → Option α) : Option α := k (cpy S q0 sp q1 dp n)
theorem wrk_some {α : Type} {S : Mem} {q : Nat} {i v : Int} {k : Mem → Option α} {b : α} (h : wrk S q i v k = some b) : ∃ S', S' = wr S q i v ∧ k S' = some b := ⟨_, rfl, h⟩
theorem cpyk_some {α : Type} {S : Mem} {q0 : Nat} {sp : Int} {q1 : Nat} {dp n : Int} {k : Mem → Option α} {b : α} (h : cpyk S q0 sp q1 dp n k = some b) : ∃ S', S' = cpy S q0 sp q1 dp n ∧ k S' = some b := ⟨_, rfl, h⟩
def lct {α β γ : Type} (x : α ⊕ β) (k : α → Option γ) (f : β → Option γ) : Option γ := match x with
  | .inl a => k a
  | .inr b => f b
def FU : Nat := 5000
def lpG {σ ρ : Type} (G : σ → Prop) (E : ρ → Prop) (x : σ ⊕ ρ) : Prop := match x with
  | .inl s => G s
  | .inr r => E r
theorem lp_go {σ ρ : Type} {step : σ → Option (σ ⊕ ρ)} (G : σ → Prop) (E : ρ → Prop) (hs : ∀ s x, step s = some x → lpG G E x → G s) : ∀ (n : Nat) (s : σ) (r : ρ), lp step n s = some r → E r → G s := by
  intro n
  induction n with
  | zero => intro s r h; cases h
  | succ n ih =>
    intro s r h hE
    unfold lp at h
    cases hx : step s with
    | none => rw [hx] at h; cases h
    | some x =>
      rw [hx] at h
      cases x with
      | inl s' => exact hs s _ hx (ih s' r h hE)
      | inr r' => cases h; exact hs s _ hx hE
theorem lp_back {σ ρ : Type} {G : σ → Prop} {E : ρ → Prop} {a x : σ ⊕ ρ} (h : some a = some x) (hx : lpG G E x) : lpG G E a := by
  cases h
  exact hx
theorem lpG_l {σ ρ : Type} {G : σ → Prop} {E : ρ → Prop} {a : σ} (h : G a) : lpG G E (.inl a) := h
theorem lpG_r {σ ρ : Type} {G : σ → Prop} {E : ρ → Prop} {a : ρ} (h : E a) : lpG G E (.inr a) := h
theorem lct_l {α β γ : Type} {a : α} {k : α → Option γ} {f : β → Option γ} {b : γ} (h : lct (.inl a) k f = some b) : k a = some b := h
theorem lct_r {α β γ : Type} {a : β} {k : α → Option γ} {f : β → Option γ} {b : γ} (h : lct (.inr a) k f = some b) : f a = some b := h
theorem bind_some {α β : Type} {x : Option α} {f : α → Option β} {b : β} (h : x.bind f = some b) : ∃ a, x = some a ∧ f a = some b := Option.bind_eq_some_iff.mp h
theorem gd_some {α : Type} {P : Prop} [Decidable P] {k : Option α} {b : α} (h : (if P then k else none) = some b) : P ∧ k = some b := by
  by_cases hp : P
  · rw [if_pos hp] at h
    exact ⟨hp, h⟩
  · rw [if_neg hp] at h
    cases h
section GO
variable {p : Program} {l : Launch} {e : Env} {R : Room} {s : State} {m : MethodId} {args : Array Value} {below : List Frame} {meth : Method} {c : Code} {cc : ByteArray} {nL : Nat} {own : String} {ret : Option FieldType} {D : va_G} {cI cB : ClassId} {Z : (Nat → Nat) × (Nat → Nat)} {ad : Nat → Nat} {shs : List Shp} {A : Nat → Prop} {Q : State → Prop} {pc : Nat} {Ls Ls' : List (Nat × Value)} {st : List Value} {S : Mem}
theorem go_iconst (X : Cx p s m args meth c cc nL own ret D cI cB Z A) {n : Int} (hd : decode cc pc = .ok (.iconst n, 1)) (k : Go p l e R s m args below meth c nL D cI cB ad shs A Q (pc + 1) Ls (.int (i32 n) :: st) S) : Go p l e R s m args below meth c nL D cI cB ad shs A Q pc Ls st S :=
  fun H locs ls hP hD hS hl => lv_iconst X.1 X.2.1 hd rfl (k H locs ls hP hD hS hl)
theorem go_bipush (X : Cx p s m args meth c cc nL own ret D cI cB Z A) {n : Int} (hd : decode cc pc = .ok (.bipush n, 2)) (h1 : -128 ≤ n) (h2 : n < 128) (k : Go p l e R s m args below meth c nL D cI cB ad shs A Q (pc + 2) Ls (.int (i32 n) :: st) S) : Go p l e R s m args below meth c nL D cI cB ad shs A Q pc Ls st S :=
  fun H locs ls hP hD hS hl => lv_bipush X.1 X.2.1 hd (i32_byte h1 h2) (k H locs ls hP hD hS hl)
theorem go_sipush (X : Cx p s m args meth c cc nL own ret D cI cB Z A) {n : Int} (hd : decode cc pc = .ok (.sipush n, 3)) (h1 : -32768 ≤ n) (h2 : n < 32768) (k : Go p l e R s m args below meth c nL D cI cB ad shs A Q (pc + 3) Ls (.int (i32 n) :: st) S) : Go p l e R s m args below meth c nL D cI cB ad shs A Q pc Ls st S :=
  fun H locs ls hP hD hS hl => lv_sipush X.1 X.2.1 hd (i32_short h1 h2) (k H locs ls hP hD hS hl)
theorem go_ldc (X : Cx p s m args meth c cc nL own ret D cI cB Z A) {v : Int32} {idx : Nat} (n : Int) (hw : Cond.constant own idx v ∈ TT) (hv : v = i32 n) (hd : decode cc pc = .ok (.ldc idx, 2)) (k : Go p l e R s m args below meth c nL D cI cB ad shs A Q (pc + 2) Ls (.int (i32 n) :: st) S) : Go p l e R s m args below meth c nL D cI cB ad shs A Q pc Ls st S :=
  fun H locs ls hP hD hS hl => lv_ldc X.1 X.2.1 X.2.2.2.1 (hv ▸ X.2.2.2.2.1 _ hw) hd (k H locs ls hP hD hS hl)
theorem go_ldcw (X : Cx p s m args meth c cc nL own ret D cI cB Z A) {v : Int32} {idx : Nat} (n : Int) (hw : Cond.constant own idx v ∈ TT) (hv : v = i32 n) (hd : decode cc pc = .ok (.ldc_w idx, 3)) (k : Go p l e R s m args below meth c nL D cI cB ad shs A Q (pc + 3) Ls (.int (i32 n) :: st) S) : Go p l e R s m args below meth c nL D cI cB ad shs A Q pc Ls st S :=
  fun H locs ls hP hD hS hl => lv_ldcw X.1 X.2.1 X.2.2.2.1 (hv ▸ X.2.2.2.2.1 _ hw) hd (k H locs ls hP hD hS hl)
theorem go_iload_n (X : Cx p s m args meth c cc nL own ret D cI cB Z A) (pl : Nat) {kf : Fin 4} {i : Nat} {x : Int32} (hd : decode cc pc = .ok (.iload_n kf, 1)) (hi : (kf : Nat) = i) (hl0 : Ls[pl]? = some (i, .int x)) (k : Go p l e R s m args below meth c nL D cI cB ad shs A Q (pc + 1) Ls (.int x :: st) S) : Go p l e R s m args below meth c nL D cI cB ad shs A Q pc Ls st S :=
  fun H locs ls hP hD hS hl => lv_iload_n X.1 X.2.1 hd hi (lv_at hl pl hl0) (k H locs ls hP hD hS hl)
theorem go_iload (X : Cx p s m args meth c cc nL own ret D cI cB Z A) (pl : Nat) {i : Nat} {x : Int32} (hd : decode cc pc = .ok (.iload i, 2)) (hl0 : Ls[pl]? = some (i, .int x)) (k : Go p l e R s m args below meth c nL D cI cB ad shs A Q (pc + 2) Ls (.int x :: st) S) : Go p l e R s m args below meth c nL D cI cB ad shs A Q pc Ls st S :=
  fun H locs ls hP hD hS hl => lv_iload X.1 X.2.1 hd (lv_at hl pl hl0) (k H locs ls hP hD hS hl)
theorem go_aload_n (X : Cx p s m args meth c cc nL own ret D cI cB Z A) (pl : Nat) {kf : Fin 4} {i : Nat} {x : Nat} (hd : decode cc pc = .ok (.aload_n kf, 1)) (hi : (kf : Nat) = i) (hl0 : Ls[pl]? = some (i, .ref x)) (k : Go p l e R s m args below meth c nL D cI cB ad shs A Q (pc + 1) Ls (.ref x :: st) S) : Go p l e R s m args below meth c nL D cI cB ad shs A Q pc Ls st S :=
  fun H locs ls hP hD hS hl => lv_aload_n X.1 X.2.1 hd hi (lv_at hl pl hl0) (k H locs ls hP hD hS hl)
theorem go_aload (X : Cx p s m args meth c cc nL own ret D cI cB Z A) (pl : Nat) {i : Nat} {x : Nat} (hd : decode cc pc = .ok (.aload i, 2)) (hl0 : Ls[pl]? = some (i, .ref x)) (k : Go p l e R s m args below meth c nL D cI cB ad shs A Q (pc + 2) Ls (.ref x :: st) S) : Go p l e R s m args below meth c nL D cI cB ad shs A Q pc Ls st S :=
  fun H locs ls hP hD hS hl => lv_aload X.1 X.2.1 hd (lv_at hl pl hl0) (k H locs ls hP hD hS hl)
theorem go_pick (ks : List Nat) (hp : lv_pick Ls ks = Ls') (k : Go p l e R s m args below meth c nL D cI cB ad shs A Q pc Ls' st S) : Go p l e R s m args below meth c nL D cI cB ad shs A Q pc Ls st S :=
  fun H locs ls hP hD hS hl => k H locs ls hP hD hS (lv_sub hl ks hp)
theorem go_istore_n (X : Cx p s m args meth c cc nL own ret D cI cB Z A) (ks : List Nat) {kf : Fin 4} {i : Nat} {x : Int32} (hd : decode cc pc = .ok (.istore_n kf, 1)) (hi : (kf : Nat) = i) (hn : i < nL) (hp : lv_pick (lst Ls i (.int x)) ks = Ls') (k : Go p l e R s m args below meth c nL D cI cB ad shs A Q (pc + 1) Ls' st S) : Go p l e R s m args below meth c nL D cI cB ad shs A Q pc Ls (.int x :: st) S :=
  fun H locs ls hP hD hS hl => lv_istore_n X.1 X.2.1 hd hi hl hn rfl (fun ls' h' => k H locs ls' hP hD hS (lv_sub h' ks hp))
theorem go_istore (X : Cx p s m args meth c cc nL own ret D cI cB Z A) (ks : List Nat) {i : Nat} {x : Int32} (hd : decode cc pc = .ok (.istore i, 2)) (hn : i < nL) (hp : lv_pick (lst Ls i (.int x)) ks = Ls') (k : Go p l e R s m args below meth c nL D cI cB ad shs A Q (pc + 2) Ls' st S) : Go p l e R s m args below meth c nL D cI cB ad shs A Q pc Ls (.int x :: st) S :=
  fun H locs ls hP hD hS hl => lv_istore X.1 X.2.1 hd hl hn rfl (fun ls' h' => k H locs ls' hP hD hS (lv_sub h' ks hp))
theorem go_astore_n (X : Cx p s m args meth c cc nL own ret D cI cB Z A) (ks : List Nat) {kf : Fin 4} {i : Nat} {x : Nat} (hd : decode cc pc = .ok (.astore_n kf, 1)) (hi : (kf : Nat) = i) (hn : i < nL) (hp : lv_pick (lst Ls i (.ref x)) ks = Ls') (k : Go p l e R s m args below meth c nL D cI cB ad shs A Q (pc + 1) Ls' st S) : Go p l e R s m args below meth c nL D cI cB ad shs A Q pc Ls (.ref x :: st) S :=
  fun H locs ls hP hD hS hl => lv_astore_n X.1 X.2.1 hd hi hl hn rfl (fun ls' h' => k H locs ls' hP hD hS (lv_sub h' ks hp))
theorem go_iinc (X : Cx p s m args meth c cc nL own ret D cI cB Z A) (ks : List Nat) (pl : Nat) {i : Nat} {n x : Int} (hd : decode cc pc = .ok (.iinc i n, 3)) (hl0 : Ls[pl]? = some (i, .int (i32 x))) (hn : i < nL) (hp : lv_pick (lst Ls i (.int (i32 (x + n)))) ks = Ls') (k : Go p l e R s m args below meth c nL D cI cB ad shs A Q (pc + 3) Ls' st S) : Go p l e R s m args below meth c nL D cI cB ad shs A Q pc Ls st S :=
  fun H locs ls hP hD hS hl => lv_iinc X.1 X.2.1 hd hl hl0 (i32_add x n) hn rfl (fun ls' h' => k H locs ls' hP hD hS (lv_sub h' ks hp))
theorem go_iadd (X : Cx p s m args meth c cc nL own ret D cI cB Z A) {x y : Int} (hd : decode cc pc = .ok (.iadd, 1)) (k : Go p l e R s m args below meth c nL D cI cB ad shs A Q (pc + 1) Ls (.int (i32 (x + y)) :: st) S) : Go p l e R s m args below meth c nL D cI cB ad shs A Q pc Ls (.int (i32 y) :: .int (i32 x) :: st) S :=
  fun H locs ls hP hD hS hl => lv_iadd X.1 X.2.1 hd (by rw [i32_add]; exact k H locs ls hP hD hS hl)
theorem go_isub (X : Cx p s m args meth c cc nL own ret D cI cB Z A) {x y : Int} (hd : decode cc pc = .ok (.isub, 1)) (k : Go p l e R s m args below meth c nL D cI cB ad shs A Q (pc + 1) Ls (.int (i32 (x - y)) :: st) S) : Go p l e R s m args below meth c nL D cI cB ad shs A Q pc Ls (.int (i32 y) :: .int (i32 x) :: st) S :=
  fun H locs ls hP hD hS hl => lv_isub X.1 X.2.1 hd (by rw [i32_sub]; exact k H locs ls hP hD hS hl)
theorem go_imul (X : Cx p s m args meth c cc nL own ret D cI cB Z A) {x y : Int} (hd : decode cc pc = .ok (.imul, 1)) (k : Go p l e R s m args below meth c nL D cI cB ad shs A Q (pc + 1) Ls (.int (i32 (x * y)) :: st) S) : Go p l e R s m args below meth c nL D cI cB ad shs A Q pc Ls (.int (i32 y) :: .int (i32 x) :: st) S :=
  fun H locs ls hP hD hS hl => lv_imul X.1 X.2.1 hd (by rw [i32_mul]; exact k H locs ls hP hD hS hl)
theorem go_ineg (X : Cx p s m args meth c cc nL own ret D cI cB Z A) {x : Int} (hd : decode cc pc = .ok (.ineg, 1)) (k : Go p l e R s m args below meth c nL D cI cB ad shs A Q (pc + 1) Ls (.int (i32 (-x)) :: st) S) : Go p l e R s m args below meth c nL D cI cB ad shs A Q pc Ls (.int (i32 x) :: st) S :=
  fun H locs ls hP hD hS hl => lv_ineg X.1 X.2.1 hd (by have h := k H locs ls hP hD hS hl; rw [← i32_neg] at h; exact h)
theorem go_iand (X : Cx p s m args meth c cc nL own ret D cI cB Z A) {x y : Int} (hd : decode cc pc = .ok (.iand, 1)) (k : Go p l e R s m args below meth c nL D cI cB ad shs A Q (pc + 1) Ls (.int (i32 (andb x y)) :: st) S) : Go p l e R s m args below meth c nL D cI cB ad shs A Q pc Ls (.int (i32 y) :: .int (i32 x) :: st) S :=
  fun H locs ls hP hD hS hl => lv_iand X.1 X.2.1 hd (by have h := k H locs ls hP hD hS hl; rw [andb, i32_toInt] at h; exact h)
theorem go_ixor (X : Cx p s m args meth c cc nL own ret D cI cB Z A) {x y : Int} (hd : decode cc pc = .ok (.ixor, 1)) (k : Go p l e R s m args below meth c nL D cI cB ad shs A Q (pc + 1) Ls (.int (i32 (xorb x y)) :: st) S) : Go p l e R s m args below meth c nL D cI cB ad shs A Q pc Ls (.int (i32 y) :: .int (i32 x) :: st) S :=
  fun H locs ls hP hD hS hl => lv_ixor X.1 X.2.1 hd (by have h := k H locs ls hP hD hS hl; rw [xorb, i32_toInt] at h; exact h)
theorem go_ishl (X : Cx p s m args meth c cc nL own ret D cI cB Z A) {x y : Int} (hd : decode cc pc = .ok (.ishl, 1)) (k : Go p l e R s m args below meth c nL D cI cB ad shs A Q (pc + 1) Ls (.int (i32 (shlb x y)) :: st) S) : Go p l e R s m args below meth c nL D cI cB ad shs A Q pc Ls (.int (i32 y) :: .int (i32 x) :: st) S :=
  fun H locs ls hP hD hS hl => lv_ishl X.1 X.2.1 hd (by have h := k H locs ls hP hD hS hl; rw [shlb, i32_toInt] at h; exact h)
theorem go_ishr (X : Cx p s m args meth c cc nL own ret D cI cB Z A) {x y : Int} (hd : decode cc pc = .ok (.ishr, 1)) (k : Go p l e R s m args below meth c nL D cI cB ad shs A Q (pc + 1) Ls (.int (i32 (shrb x y)) :: st) S) : Go p l e R s m args below meth c nL D cI cB ad shs A Q pc Ls (.int (i32 y) :: .int (i32 x) :: st) S :=
  fun H locs ls hP hD hS hl => lv_ishr X.1 X.2.1 hd (by have h := k H locs ls hP hD hS hl; rw [shrb, i32_toInt] at h; exact h)
theorem go_i2b (X : Cx p s m args meth c cc nL own ret D cI cB Z A) {x : Int} (hd : decode cc pc = .ok (.i2b, 1)) (k : Go p l e R s m args below meth c nL D cI cB ad shs A Q (pc + 1) Ls (.int (i32 (byb x)) :: st) S) : Go p l e R s m args below meth c nL D cI cB ad shs A Q pc Ls (.int (i32 x) :: st) S :=
  fun H locs ls hP hD hS hl => lv_i2b X.1 X.2.1 hd rfl (by have h := k H locs ls hP hD hS hl; rw [byb, i32_toInt] at h; exact h)
theorem go_idiv (X : Cx p s m args meth c cc nL own ret D cI cB Z A) {x y : Int} (hd : decode cc pc = .ok (.idiv, 1)) (hne : eqb y 0 = false) (k : Go p l e R s m args below meth c nL D cI cB ad shs A Q (pc + 1) Ls (.int (i32 (dvb x y)) :: st) S) : Go p l e R s m args below meth c nL D cI cB ad shs A Q pc Ls (.int (i32 y) :: .int (i32 x) :: st) S :=
  fun H locs ls hP hD hS hl => lv_idiv X.1 X.2.1 hd (fun h => by simp [eqb, i32_0, h] at hne) (by have h := k H locs ls hP hD hS hl; rw [dvb, i32_toInt] at h; exact h)
theorem go_irem (X : Cx p s m args meth c cc nL own ret D cI cB Z A) {x y : Int} (hd : decode cc pc = .ok (.irem, 1)) (hne : eqb y 0 = false) (k : Go p l e R s m args below meth c nL D cI cB ad shs A Q (pc + 1) Ls (.int (i32 (rmb x y)) :: st) S) : Go p l e R s m args below meth c nL D cI cB ad shs A Q pc Ls (.int (i32 y) :: .int (i32 x) :: st) S :=
  fun H locs ls hP hD hS hl => lv_irem X.1 X.2.1 hd (fun h => by simp [eqb, i32_0, h] at hne) (by have h := k H locs ls hP hD hS hl; rw [rmb, i32_toInt] at h; exact h)
theorem go_dup (X : Cx p s m args meth c cc nL own ret D cI cB Z A) {v : Value} (hd : decode cc pc = .ok (.dup, 1)) (hv : v.category = 1) (k : Go p l e R s m args below meth c nL D cI cB ad shs A Q (pc + 1) Ls (v :: v :: st) S) : Go p l e R s m args below meth c nL D cI cB ad shs A Q pc Ls (v :: st) S :=
  fun H locs ls hP hD hS hl => lv_dup X.1 X.2.1 hd hv (k H locs ls hP hD hS hl)
theorem go_dup2 (X : Cx p s m args meth c cc nL own ret D cI cB Z A) {v w : Value} (hd : decode cc pc = .ok (.dup2, 1)) (hv : v.category = 1) (hw : w.category = 1) (k : Go p l e R s m args below meth c nL D cI cB ad shs A Q (pc + 1) Ls (v :: w :: v :: w :: st) S) : Go p l e R s m args below meth c nL D cI cB ad shs A Q pc Ls (v :: w :: st) S :=
  fun H locs ls hP hD hS hl => lv_dup2_11 X.1 X.2.1 hd hv hw (k H locs ls hP hD hS hl)
theorem go_pop (X : Cx p s m args meth c cc nL own ret D cI cB Z A) {v : Value} (hd : decode cc pc = .ok (.pop, 1)) (hv : v.category = 1) (k : Go p l e R s m args below meth c nL D cI cB ad shs A Q (pc + 1) Ls st S) : Go p l e R s m args below meth c nL D cI cB ad shs A Q pc Ls (v :: st) S :=
  fun H locs ls hP hD hS hl => lv_pop X.1 X.2.1 hd hv (k H locs ls hP hD hS hl)
theorem go_goto (X : Cx p s m args meth c cc nL own ret D cI cB Z A) {off : Int} (tgt : Nat) (hd : decode cc pc = .ok (.goto off, 3)) (ht : (pc : Int) + off = (tgt : Int)) (k : Go p l e R s m args below meth c nL D cI cB ad shs A Q tgt Ls st S) : Go p l e R s m args below meth c nL D cI cB ad shs A Q pc Ls st S :=
  fun H locs ls hP hD hS hl => lv_goto X.1 X.2.1 hd ht (k H locs ls hP hD hS hl)
theorem eqb_iff {x y : Int} : eqb x y = true ↔ i32 x = i32 y := decide_eq_true_iff
theorem ltb_iff {x y : Int} : ltb x y = true ↔ i32 x < i32 y := decide_eq_true_iff
theorem go_icmp_eq (X : Cx p s m args meth c cc nL own ret D cI cB Z A) {x y off : Int} (tgt : Nat) (hd : decode cc pc = .ok (.if_icmp .eq off, 3)) (ht : (pc : Int) + off = (tgt : Int)) (kt : eqb x y = true → Go p l e R s m args below meth c nL D cI cB ad shs A Q tgt Ls st S) (kf : ¬ eqb x y = true → Go p l e R s m args below meth c nL D cI cB ad shs A Q (pc + 3) Ls st S) : Go p l e R s m args below meth c nL D cI cB ad shs A Q pc Ls (.int (i32 y) :: .int (i32 x) :: st) S :=
  fun H locs ls hP hD hS hl => lv_icmp_eq X.1 X.2.1 hd ht (fun h => kt (eqb_iff.mpr h) H locs ls hP hD hS hl) (fun h => kf (fun g => h (eqb_iff.mp g)) H locs ls hP hD hS hl)
theorem go_icmp_ne (X : Cx p s m args meth c cc nL own ret D cI cB Z A) {x y off : Int} (tgt : Nat) (hd : decode cc pc = .ok (.if_icmp .ne off, 3)) (ht : (pc : Int) + off = (tgt : Int)) (kt : ¬ eqb x y = true → Go p l e R s m args below meth c nL D cI cB ad shs A Q tgt Ls st S) (kf : eqb x y = true → Go p l e R s m args below meth c nL D cI cB ad shs A Q (pc + 3) Ls st S) : Go p l e R s m args below meth c nL D cI cB ad shs A Q pc Ls (.int (i32 y) :: .int (i32 x) :: st) S :=
  fun H locs ls hP hD hS hl => lv_icmp_ne X.1 X.2.1 hd ht (fun h => kt (fun g => h (eqb_iff.mp g)) H locs ls hP hD hS hl) (fun h => kf (eqb_iff.mpr h) H locs ls hP hD hS hl)
theorem go_icmp_lt (X : Cx p s m args meth c cc nL own ret D cI cB Z A) {x y off : Int} (tgt : Nat) (hd : decode cc pc = .ok (.if_icmp .lt off, 3)) (ht : (pc : Int) + off = (tgt : Int)) (kt : ltb x y = true → Go p l e R s m args below meth c nL D cI cB ad shs A Q tgt Ls st S) (kf : ¬ ltb x y = true → Go p l e R s m args below meth c nL D cI cB ad shs A Q (pc + 3) Ls st S) : Go p l e R s m args below meth c nL D cI cB ad shs A Q pc Ls (.int (i32 y) :: .int (i32 x) :: st) S :=
  fun H locs ls hP hD hS hl => lv_icmp_lt X.1 X.2.1 hd ht (fun h => kt (ltb_iff.mpr h) H locs ls hP hD hS hl) (fun h => kf (fun g => h (ltb_iff.mp g)) H locs ls hP hD hS hl)
theorem go_icmp_ge (X : Cx p s m args meth c cc nL own ret D cI cB Z A) {x y off : Int} (tgt : Nat) (hd : decode cc pc = .ok (.if_icmp .ge off, 3)) (ht : (pc : Int) + off = (tgt : Int)) (kt : ¬ ltb x y = true → Go p l e R s m args below meth c nL D cI cB ad shs A Q tgt Ls st S) (kf : ltb x y = true → Go p l e R s m args below meth c nL D cI cB ad shs A Q (pc + 3) Ls st S) : Go p l e R s m args below meth c nL D cI cB ad shs A Q pc Ls (.int (i32 y) :: .int (i32 x) :: st) S :=
  fun H locs ls hP hD hS hl => lv_icmp_ge X.1 X.2.1 hd ht (fun h => kt (fun g => (Int32.not_lt.mpr h) (ltb_iff.mp g)) H locs ls hP hD hS hl) (fun h => kf (ltb_iff.mpr (Int32.not_le.mp h)) H locs ls hP hD hS hl)
theorem go_icmp_gt (X : Cx p s m args meth c cc nL own ret D cI cB Z A) {x y off : Int} (tgt : Nat) (hd : decode cc pc = .ok (.if_icmp .gt off, 3)) (ht : (pc : Int) + off = (tgt : Int)) (kt : ltb y x = true → Go p l e R s m args below meth c nL D cI cB ad shs A Q tgt Ls st S) (kf : ¬ ltb y x = true → Go p l e R s m args below meth c nL D cI cB ad shs A Q (pc + 3) Ls st S) : Go p l e R s m args below meth c nL D cI cB ad shs A Q pc Ls (.int (i32 y) :: .int (i32 x) :: st) S :=
  fun H locs ls hP hD hS hl => lv_icmp_gt X.1 X.2.1 hd ht (fun h => kt (ltb_iff.mpr h) H locs ls hP hD hS hl) (fun h => kf (fun g => h (ltb_iff.mp g)) H locs ls hP hD hS hl)
theorem go_icmp_le (X : Cx p s m args meth c cc nL own ret D cI cB Z A) {x y off : Int} (tgt : Nat) (hd : decode cc pc = .ok (.if_icmp .le off, 3)) (ht : (pc : Int) + off = (tgt : Int)) (kt : ¬ ltb y x = true → Go p l e R s m args below meth c nL D cI cB ad shs A Q tgt Ls st S) (kf : ltb y x = true → Go p l e R s m args below meth c nL D cI cB ad shs A Q (pc + 3) Ls st S) : Go p l e R s m args below meth c nL D cI cB ad shs A Q pc Ls (.int (i32 y) :: .int (i32 x) :: st) S :=
  fun H locs ls hP hD hS hl => lv_icmp_le X.1 X.2.1 hd ht (fun h => kt (fun g => (Int32.not_lt.mpr h) (ltb_iff.mp g)) H locs ls hP hD hS hl) (fun h => kf (ltb_iff.mpr (Int32.not_le.mp h)) H locs ls hP hD hS hl)
theorem go_if_eq (X : Cx p s m args meth c cc nL own ret D cI cB Z A) {x off : Int} (tgt : Nat) (hd : decode cc pc = .ok (.ifCond .eq off, 3)) (ht : (pc : Int) + off = (tgt : Int)) (kt : eqb x 0 = true → Go p l e R s m args below meth c nL D cI cB ad shs A Q tgt Ls st S) (kf : ¬ eqb x 0 = true → Go p l e R s m args below meth c nL D cI cB ad shs A Q (pc + 3) Ls st S) : Go p l e R s m args below meth c nL D cI cB ad shs A Q pc Ls (.int (i32 x) :: st) S :=
  fun H locs ls hP hD hS hl => lv_if_eq X.1 X.2.1 hd ht (fun h => kt (eqb_iff.mpr h) H locs ls hP hD hS hl) (fun h => kf (fun g => h (eqb_iff.mp g)) H locs ls hP hD hS hl)
theorem go_if_ne (X : Cx p s m args meth c cc nL own ret D cI cB Z A) {x off : Int} (tgt : Nat) (hd : decode cc pc = .ok (.ifCond .ne off, 3)) (ht : (pc : Int) + off = (tgt : Int)) (kt : ¬ eqb x 0 = true → Go p l e R s m args below meth c nL D cI cB ad shs A Q tgt Ls st S) (kf : eqb x 0 = true → Go p l e R s m args below meth c nL D cI cB ad shs A Q (pc + 3) Ls st S) : Go p l e R s m args below meth c nL D cI cB ad shs A Q pc Ls (.int (i32 x) :: st) S :=
  fun H locs ls hP hD hS hl => lv_if_ne X.1 X.2.1 hd ht (fun h => kt (fun g => h (eqb_iff.mp g)) H locs ls hP hD hS hl) (fun h => kf (eqb_iff.mpr h) H locs ls hP hD hS hl)
theorem go_if_lt (X : Cx p s m args meth c cc nL own ret D cI cB Z A) {x off : Int} (tgt : Nat) (hd : decode cc pc = .ok (.ifCond .lt off, 3)) (ht : (pc : Int) + off = (tgt : Int)) (kt : ltb x 0 = true → Go p l e R s m args below meth c nL D cI cB ad shs A Q tgt Ls st S) (kf : ¬ ltb x 0 = true → Go p l e R s m args below meth c nL D cI cB ad shs A Q (pc + 3) Ls st S) : Go p l e R s m args below meth c nL D cI cB ad shs A Q pc Ls (.int (i32 x) :: st) S :=
  fun H locs ls hP hD hS hl => lv_if_lt X.1 X.2.1 hd ht (fun h => kt (ltb_iff.mpr h) H locs ls hP hD hS hl) (fun h => kf (fun g => h (ltb_iff.mp g)) H locs ls hP hD hS hl)
theorem go_if_ge (X : Cx p s m args meth c cc nL own ret D cI cB Z A) {x off : Int} (tgt : Nat) (hd : decode cc pc = .ok (.ifCond .ge off, 3)) (ht : (pc : Int) + off = (tgt : Int)) (kt : ¬ ltb x 0 = true → Go p l e R s m args below meth c nL D cI cB ad shs A Q tgt Ls st S) (kf : ltb x 0 = true → Go p l e R s m args below meth c nL D cI cB ad shs A Q (pc + 3) Ls st S) : Go p l e R s m args below meth c nL D cI cB ad shs A Q pc Ls (.int (i32 x) :: st) S :=
  fun H locs ls hP hD hS hl => lv_if_ge X.1 X.2.1 hd ht (fun h => kt (fun g => (Int32.not_lt.mpr h) (ltb_iff.mp g)) H locs ls hP hD hS hl) (fun h => kf (ltb_iff.mpr (Int32.not_le.mp h)) H locs ls hP hD hS hl)
theorem go_if_gt (X : Cx p s m args meth c cc nL own ret D cI cB Z A) {x off : Int} (tgt : Nat) (hd : decode cc pc = .ok (.ifCond .gt off, 3)) (ht : (pc : Int) + off = (tgt : Int)) (kt : ltb 0 x = true → Go p l e R s m args below meth c nL D cI cB ad shs A Q tgt Ls st S) (kf : ¬ ltb 0 x = true → Go p l e R s m args below meth c nL D cI cB ad shs A Q (pc + 3) Ls st S) : Go p l e R s m args below meth c nL D cI cB ad shs A Q pc Ls (.int (i32 x) :: st) S :=
  fun H locs ls hP hD hS hl => lv_if_gt X.1 X.2.1 hd ht (fun h => kt (ltb_iff.mpr h) H locs ls hP hD hS hl) (fun h => kf (fun g => h (ltb_iff.mp g)) H locs ls hP hD hS hl)
theorem go_if_le (X : Cx p s m args meth c cc nL own ret D cI cB Z A) {x off : Int} (tgt : Nat) (hd : decode cc pc = .ok (.ifCond .le off, 3)) (ht : (pc : Int) + off = (tgt : Int)) (kt : ¬ ltb 0 x = true → Go p l e R s m args below meth c nL D cI cB ad shs A Q tgt Ls st S) (kf : ltb 0 x = true → Go p l e R s m args below meth c nL D cI cB ad shs A Q (pc + 3) Ls st S) : Go p l e R s m args below meth c nL D cI cB ad shs A Q pc Ls (.int (i32 x) :: st) S :=
  fun H locs ls hP hD hS hl => lv_if_le X.1 X.2.1 hd ht (fun h => kt (fun g => (Int32.not_lt.mpr h) (ltb_iff.mp g)) H locs ls hP hD hS hl) (fun h => kf (ltb_iff.mpr (Int32.not_le.mp h)) H locs ls hP hD hS hl)
theorem go_iald (X : Cx p s m args meth c cc nL own ret D cI cB Z A) {q n : Nat} {i ni : Int} (hq : shs[q]? = some (.inl (false, n))) (hn : n ≤ 100000) (hni : (n : Int) = ni) (hi : 0 ≤ i ∧ i < ni) (hd : decode cc pc = .ok (.iaload, 1)) (k : Go p l e R s m args below meth c nL D cI cB ad shs A Q (pc + 1) Ls (.int (i32 (S q i)) :: st) S) : Go p l e R s m args below meth c nL D cI cB ad shs A Q pc Ls (.int (i32 i) :: .ref (ad q) :: st) S := by
  subst hni
  intro H locs ls hP hD hS hl
  refine va_iald X.1 X.2.1 X.2.2.2.2.2.1 hP q 0 (mkW_at S hq) rfl (i32_vin hi hn) hd ?_
  rw [i32_clamp hi.1 (by omega), Int.toNat_of_nonneg hi.1]
  exact k H locs ls hP hD hS hl
theorem go_bald (X : Cx p s m args meth c cc nL own ret D cI cB Z A) {q n : Nat} {i ni : Int} (hq : shs[q]? = some (.inl (true, n))) (hn : n ≤ 100000) (hni : (n : Int) = ni) (hi : 0 ≤ i ∧ i < ni) (hd : decode cc pc = .ok (.baload, 1)) (k : Go p l e R s m args below meth c nL D cI cB ad shs A Q (pc + 1) Ls (.int (i32 (S q i)) :: st) S) : Go p l e R s m args below meth c nL D cI cB ad shs A Q pc Ls (.int (i32 i) :: .ref (ad q) :: st) S := by
  subst hni
  intro H locs ls hP hD hS hl
  refine va_bald X.1 X.2.1 X.2.2.2.2.2.1 hP q 1 (mkW_at S hq) rfl (i32_vin hi hn) hd ?_
  rw [i32_clamp hi.1 (by omega), Int.toNat_of_nonneg hi.1]
  exact k H locs ls hP hD hS hl
theorem go_iast (X : Cx p s m args meth c cc nL own ret D cI cB Z A) {q n : Nat} {i v : Int} (hq : shs[q]? = some (.inl (false, n))) (hn : n ≤ 100000) (hi : 0 ≤ i ∧ i < n) (hd : decode cc pc = .ok (.iastore, 1)) (k : Go p l e R s m args below meth c nL D cI cB ad shs A Q (pc + 1) Ls st (wr S q i v)) : Go p l e R s m args below meth c nL D cI cB ad shs A Q pc Ls (.int (i32 v) :: .int (i32 i) :: .ref (ad q) :: st) S := by
  intro H locs ls hP hD hS hl
  refine va_iast X.1 X.2.1 X.2.2.2.2.2.1 hP hD hS q 0 (mkW_at S hq) rfl (i32_vin hi hn) hd (fun H1 locs1 hP1 hD1 hS1 => ?_)
  have e := mkW_set (ad := ad) (cI := cI) (cB := cB) (S := S) (S' := wr S q i v) hq (fun k hk => wr_ne hk) (mkE_arr (b := false) (n := n) hi.1 (by omega))
  have hP2 : va_P D vwCl (mkW ad cI cB shs (wr S q i v)) H1 := by rw [← e]; exact hP1
  exact k H1 locs1 ls hP2 (mkW_D hD) hS1 hl
theorem go_bast (X : Cx p s m args meth c cc nL own ret D cI cB Z A) {q n : Nat} {i v : Int} (hq : shs[q]? = some (.inl (true, n))) (hn : n ≤ 100000) (hi : 0 ≤ i ∧ i < n) (hd : decode cc pc = .ok (.bastore, 1)) (k : Go p l e R s m args below meth c nL D cI cB ad shs A Q (pc + 1) Ls st (wr S q i (byb v))) : Go p l e R s m args below meth c nL D cI cB ad shs A Q pc Ls (.int (i32 v) :: .int (i32 i) :: .ref (ad q) :: st) S := by
  intro H locs ls hP hD hS hl
  refine va_bast X.1 X.2.1 X.2.2.2.2.2.1 hP hD hS q 1 (mkW_at S hq) rfl (i32_vin hi hn) hd (fun H1 locs1 hP1 hD1 hS1 => ?_)
  have e := mkW_set (ad := ad) (cI := cI) (cB := cB) (S := S) (S' := wr S q i (byb v)) hq (fun k hk => wr_ne hk) (mkE_arr (b := true) (n := n) hi.1 (by omega))
  have hb : vp_nar .byte (i32 v) = i32 (byb v) := by rw [vp_nar_byte, byb, i32_toInt]
  have hP2 : va_P D vwCl (mkW ad cI cB shs (wr S q i (byb v))) H1 := by
    rw [← e]
    rw [hb] at hP1
    exact hP1
  exact k H1 locs1 ls hP2 (mkW_D hD) hS1 hl
theorem go_alen (X : Cx p s m args meth c cc nL own ret D cI cB Z A) {q n : Nat} {b : Bool} (hq : shs[q]? = some (.inl (b, n))) (hd : decode cc pc = .ok (.arraylength, 1)) (k : Go p l e R s m args below meth c nL D cI cB ad shs A Q (pc + 1) Ls (.int (i32 (n : Int)) :: st) S) : Go p l e R s m args below meth c nL D cI cB ad shs A Q pc Ls (.ref (ad q) :: st) S := by
  intro H locs ls hP hD hS hl
  cases b
  · exact va_alen X.1 X.2.1 X.2.2.2.2.2.1 hP q 0 (mkW_at S hq) rfl (Int32.ofInt_eq_ofNat.symm) hd (k H locs ls hP hD hS hl)
  · exact va_alen X.1 X.2.1 X.2.2.2.2.2.1 hP q 1 (mkW_at S hq) rfl (Int32.ofInt_eq_ofNat.symm) hd (k H locs ls hP hD hS hl)
theorem go_get (X : Cx p s m args meth c cc nL own ret D cI cB Z A) {q ci fk N idx : Nat} {C : String} {T : u_T} {fl : List (Option Nat)} {fi : Int} (hfi : (fk : Int) = fi) (hq : shs[q]? = some (.inr (ci, fl))) (hc : vwCl[ci]? = some (C, T, N)) (hin : ∀ w ∈ u_ws C T N, w ∈ TT) (hk : fk < N) (hw : Cond.fieldLink own idx (T fk).1 (T fk).2.1 (T fk).2.2.1 ∈ TT) (hf : fl[fk]? = some none) (hd : decode cc pc = .ok (.getfield idx, 3)) (k : Go p l e R s m args below meth c nL D cI cB ad shs A Q (pc + 3) Ls (.int (i32 (S q fi)) :: st) S) : Go p l e R s m args below meth c nL D cI cB ad shs A Q pc Ls (.ref (ad q) :: st) S := by
  subst hfi
  intro H locs ls hP hD hS hl
  refine va_get X.1 X.2.1 X.2.2.2.2.1 hin X.2.2.2.1 X.2.2.2.2.2.1 hP q (mkW_at S hq) hc fk hk (X.2.2.2.2.1 _ hw) (fun _ h => h) (v := .int (i32 (S q (fk : Int)))) ?_ hd (k H locs ls hP hD hS hl)
  rw [List.getElem?_mapIdx, hf]
  rfl
theorem go_getr (X : Cx p s m args meth c cc nL own ret D cI cB Z A) {q ci fk N idx r : Nat} {C : String} {T : u_T} {fl : List (Option Nat)} (hq : shs[q]? = some (.inr (ci, fl))) (hc : vwCl[ci]? = some (C, T, N)) (hin : ∀ w ∈ u_ws C T N, w ∈ TT) (hk : fk < N) (hw : Cond.fieldLink own idx (T fk).1 (T fk).2.1 (T fk).2.2.1 ∈ TT) (hf : fl[fk]? = some (some r)) (hd : decode cc pc = .ok (.getfield idx, 3)) (k : Go p l e R s m args below meth c nL D cI cB ad shs A Q (pc + 3) Ls (.ref (ad r) :: st) S) : Go p l e R s m args below meth c nL D cI cB ad shs A Q pc Ls (.ref (ad q) :: st) S := by
  intro H locs ls hP hD hS hl
  refine va_get X.1 X.2.1 X.2.2.2.2.1 hin X.2.2.2.1 X.2.2.2.2.2.1 hP q (mkW_at S hq) hc fk hk (X.2.2.2.2.1 _ hw) (fun _ h => h) (v := .ref (ad r)) ?_ hd (k H locs ls hP hD hS hl)
  rw [List.getElem?_mapIdx, hf]
  rfl
theorem go_put (X : Cx p s m args meth c cc nL own ret D cI cB Z A) {q ci fk N idx : Nat} {C : String} {T : u_T} {ty0 : Nat → FieldType} {ty : FieldType} {fl : List (Option Nat)} {v : Int} (hq : shs[q]? = some (.inr (ci, fl))) (hc : vwCl[ci]? = some (C, T, N)) (hin : ∀ w ∈ u_ws C T N, w ∈ TT) (hty : ∀ k, k < N → parseFieldDescriptor (T k).2.2.1 = some (ty0 k)) (hnm : ∀ a, a < N → ∀ b, b < N → a ≠ b → (T a).2.1 ≠ (T b).2.1) (hk : fk < N) (hw : Cond.fieldLink own idx (T fk).1 (T fk).2.1 (T fk).2.2.1 ∈ TT) (hf : fl[fk]? = some none) (hfin : (T fk).2.2.2 = false) (ht : ty0 fk = ty) (hn : narrow ty (.int (i32 v)) = .int (i32 v)) (hfit : fits ty (.int (i32 v)) = true) (hd : decode cc pc = .ok (.putfield idx, 3)) (k : Go p l e R s m args below meth c nL D cI cB ad shs A Q (pc + 3) Ls st (wr S q (fk : Int) v)) : Go p l e R s m args below meth c nL D cI cB ad shs A Q pc Ls (.int (i32 v) :: .ref (ad q) :: st) S := by
  intro H locs ls hP hD hS hl
  have hlen : fk < (fl.mapIdx (mkF ad (S q))).length := by
    rw [List.length_mapIdx]
    exact (List.getElem?_eq_some_iff.mp hf).1
  refine va_put X.1 X.2.1 X.2.2.2.2.1 hin ty0 hty hnm X.2.2.2.1 X.2.2.2.2.2.1 hP hD hS q (mkW_at S hq) hc fk hk (X.2.2.2.2.1 _ hw) (fun _ h => h) hfin (ty := ty) (v := .int (i32 v)) (by rw [hty fk hk, ht]) hn hfit hlen hd (fun H1 locs1 hP1 hD1 hS1 => ?_)
  have e := mkW_set (ad := ad) (cI := cI) (cB := cB) (S := S) (S' := wr S q (fk : Int) v) hq (fun k hk => wr_ne hk) (mkE_fld (ci := ci) hf)
  have hP2 : va_P D vwCl (mkW ad cI cB shs (wr S q (fk : Int) v)) H1 := by rw [← e]; exact hP1
  exact k H1 locs1 ls hP2 (mkW_D hD) hS1 hl
theorem go_mmin (X : Cx p s m args meth c cc nL own ret D cI cB Z A) {idx : Nat} {x y : Int} (hw : Cond.methodLink own idx Lib.Math.min.name ∈ TT) (hfr : 1 ≤ R.frames) (hlo : (st.map fun v => v.category).sum + 13 ≤ R.locals) (hd : decode cc pc = .ok (.invokestatic idx, 3)) (k : Go p l e R s m args below meth c nL D cI cB ad shs A Q (pc + 3) Ls (.int (i32 (mnb x y)) :: st) S) : Go p l e R s m args below meth c nL D cI cB ad shs A Q pc Ls (.int (i32 y) :: .int (i32 x) :: st) S := by
  intro H locs ls hP hD hS hl
  refine va_mmin X.1 X.2.1 (X.2.2.1.trans hl.1.symm) X.2.2.2.1 (X.2.2.2.2.1 _ hw) (X.2.2.2.2.1 _ sM_Mmin) (X.2.2.2.2.1 _ in_J9) (X.2.2.2.2.1 _ cd_Mmin) hfr hlo (Nat.zero_le _) (Nat.zero_le _) hd ?_
  have h := k H locs ls hP hD hS hl
  have e : i32 (mnb x y) = if i32 y < i32 x then i32 y else i32 x := by
    unfold mnb
    by_cases hc : i32 y < i32 x
    · rw [if_pos (ltb_iff.mpr hc), if_pos hc]
    · rw [if_neg (fun g => hc (ltb_iff.mp g)), if_neg hc]
  rw [e] at h
  exact h
theorem go_mmax (X : Cx p s m args meth c cc nL own ret D cI cB Z A) {idx : Nat} {x y : Int} (hw : Cond.methodLink own idx Lib.Math.max.name ∈ TT) (hfr : 1 ≤ R.frames) (hlo : (st.map fun v => v.category).sum + 13 ≤ R.locals) (hd : decode cc pc = .ok (.invokestatic idx, 3)) (k : Go p l e R s m args below meth c nL D cI cB ad shs A Q (pc + 3) Ls (.int (i32 (mxb x y)) :: st) S) : Go p l e R s m args below meth c nL D cI cB ad shs A Q pc Ls (.int (i32 y) :: .int (i32 x) :: st) S := by
  intro H locs ls hP hD hS hl
  refine va_mmax X.1 X.2.1 (X.2.2.1.trans hl.1.symm) X.2.2.2.1 (X.2.2.2.2.1 _ hw) (X.2.2.2.2.1 _ sM_Mmax) (X.2.2.2.2.1 _ in_J9) (X.2.2.2.2.1 _ cd_Mmax) hfr hlo (Nat.zero_le _) (Nat.zero_le _) hd ?_
  have h := k H locs ls hP hD hS hl
  have e : i32 (mxb x y) = if i32 x < i32 y then i32 y else i32 x := by
    unfold mxb
    by_cases hc : i32 x < i32 y
    · rw [if_pos (ltb_iff.mpr hc), if_pos hc]
    · rw [if_neg (fun g => hc (ltb_iff.mp g)), if_neg hc]
  rw [e] at h
  exact h
theorem go_copy (X : Cx p s m args meth c cc nL own ret D cI cB Z A) {idx q0 q1 n0 n1 : Nat} {sp dp n : Int} (hw : Cond.methodLink own idx arraycopyName ∈ TT) (hq0 : shs[q0]? = some (.inl (false, n0))) (hq1 : shs[q1]? = some (.inl (false, n1))) (hn0 : n0 ≤ 100000) (hn1 : n1 ≤ 100000) (hg : 0 ≤ sp ∧ 0 ≤ dp ∧ 0 ≤ n ∧ sp + n ≤ n0 ∧ dp + n ≤ n1) (hfr : 1 ≤ R.frames) (hlo : (st.map fun v => v.category).sum + (nativeFrameWords "java/lang/System" "arraycopy" 5 + 11) ≤ R.locals) (hd : decode cc pc = .ok (.invokestatic idx, 3)) (k : Go p l e R s m args below meth c nL D cI cB ad shs A Q (pc + 3) Ls st (cpy S q0 sp q1 dp n)) : Go p l e R s m args below meth c nL D cI cB ad shs A Q pc Ls (.int (i32 n) :: .int (i32 dp) :: .ref (ad q1) :: .int (i32 sp) :: .ref (ad q0) :: st) S := by
  intro H locs ls hP hD hS hl
  obtain ⟨g1, g2, g3, g4, g5⟩ := hg
  refine va_copyi X.1 X.2.1 (X.2.2.1.trans hl.1.symm) X.2.2.2.1 (X.2.2.2.2.1 _ hw) (X.2.2.2.2.1 _ nM_Acopy) (X.2.2.2.2.1 _ sM_Acopy) (X.2.2.2.2.1 _ in_J10) X.2.2.2.2.2.1 hP hD hS q0 q1 0 0 (mkW_at S hq0) (mkW_at S hq1) rfl rfl rfl (i32_nneg g1 (by omega)) (i32_nneg g2 (by omega)) (i32_nneg g3 (by omega)) (by rw [i32_clamp g1 (by omega), i32_clamp g3 (by omega)]; omega) (by rw [i32_clamp g2 (by omega), i32_clamp g3 (by omega)]; omega) (fun i _ => rfl) hfr hlo hd (fun H1 locs1 hP1 hD1 hS1 => ?_)
  have e := mkW_set (ad := ad) (cI := cI) (cB := cB) (S := S) (S' := cpy S q0 sp q1 dp n) (e := .inl (cond false cB cI, n1, .inl (va_cpy (fun j => i32 (S q0 (j : Int))) (fun j => i32 (S q1 (j : Int))) (i32 sp).toNatClampNeg (i32 dp).toNatClampNeg (i32 n).toNatClampNeg))) hq1 (fun k hk => by
      funext j
      unfold cpy
      rw [if_neg (fun a => hk a.1)]) (by
      have e2 : (va_cpy (fun j => i32 (S q0 (j : Int))) (fun j => i32 (S q1 (j : Int))) (i32 sp).toNatClampNeg (i32 dp).toNatClampNeg (i32 n).toNatClampNeg) = fun j : Nat => i32 (cpy S q0 sp q1 dp n q1 (j : Int)) := by
        funext j
        unfold va_cpy cpy
        rw [i32_clamp g1 (by omega), i32_clamp g2 (by omega), i32_clamp g3 (by omega)]
        by_cases hj : dp.toNat ≤ j ∧ j < dp.toNat + n.toNat
        · rw [if_pos hj, if_pos ⟨rfl, by omega, by omega⟩]
          have e3 : ((sp.toNat + (j - dp.toNat) : Nat) : Int) = sp + ((j : Int) - dp) := by omega
          show i32 (S q0 ((sp.toNat + (j - dp.toNat) : Nat) : Int)) = _
          rw [e3]
        · rw [if_neg hj, if_neg (fun a => hj (by omega))]
      rw [e2]
      rfl)
  have hP2 : va_P D vwCl (mkW ad cI cB shs (cpy S q0 sp q1 dp n)) H1 := by rw [← e]; exact hP1
  exact k H1 locs1 ls hP2 (mkW_D hD) hS1 hl
theorem go_tab (X : Cx p s m args meth c cc nL own ret D cI cB Z A) {dflt lo hi off v x : Int} {offs : Array Int} {len : Nat} (tgt : Nat) (hd : decode cc pc = .ok (.tableswitch dflt lo hi offs, len)) (hx : eqb x v = true) (hv : lo ≤ v ∧ v ≤ hi) (hr : -2147483648 ≤ v ∧ v < 2147483648) (ho : offs[(v - lo).toNat]? = some off) (ht : (pc : Int) + off = (tgt : Int)) (k : Go p l e R s m args below meth c nL D cI cB ad shs A Q tgt Ls st S) : Go p l e R s m args below meth c nL D cI cB ad shs A Q pc Ls (.int (i32 x) :: st) S := by
  intro H locs ls hP hD hS hl
  have e := (eqb_toInt hr.1 hr.2).mp hx
  exact lv_tableIn X.1 X.2.1 hd (by rw [e]; omega) (by rw [e]; omega) (by rw [e]; exact ho) ht (k H locs ls hP hD hS hl)
theorem go_tabx (X : Cx p s m args meth c cc nL own ret D cI cB Z A) {dflt lo hi x : Int} {offs : Array Int} {len : Nat} (tgt : Nat) (hd : decode cc pc = .ok (.tableswitch dflt lo hi offs, len)) (hx : (i32 x).toInt < lo ∨ hi < (i32 x).toInt) (ht : (pc : Int) + dflt = (tgt : Int)) (k : Go p l e R s m args below meth c nL D cI cB ad shs A Q tgt Ls st S) : Go p l e R s m args below meth c nL D cI cB ad shs A Q pc Ls (.int (i32 x) :: st) S := by
  intro H locs ls hP hD hS hl
  exact lv_tableOut X.1 X.2.1 hd hx ht (k H locs ls hP hD hS hl)
theorem go_look (X : Cx p s m args meth c cc nL own ret D cI cB Z A) {dflt off x : Int} {ps : Array (Int × Int)} {len : Nat} (tgt : Nat) (hd : decode cc pc = .ok (.lookupswitch dflt ps, len)) (hp : (ps.toList.zip (ps.toList.drop 1)).all (fun (a, next) => a.1 < next.1) = true) (ho : Op.lookupswitch.offset ps.toList dflt (i32 x).toInt = off) (ht : (pc : Int) + off = (tgt : Int)) (k : Go p l e R s m args below meth c nL D cI cB ad shs A Q tgt Ls st S) : Go p l e R s m args below meth c nL D cI cB ad shs A Q pc Ls (.int (i32 x) :: st) S := by
  intro H locs ls hP hD hS hl
  exact lv_lookup X.1 X.2.1 hd hp ho ht (k H locs ls hP hD hS hl)
theorem go_A {H : Heap} {locs : List Loc} (X : Cx p s m args meth c cc nL own ret D cI cB Z A) (hD : va_D A (mkW ad cI cB shs S)) (hS : va_S A s.heap H locs) : ∀ q, va_A (mkW ad cI cB shs S) H.size q → A q := by
  intro q h
  rcases h with ⟨k, e, h⟩ | h
  · exact hD.2 k _ h
  · exact X.2.2.2.2.2.2.1 q (Nat.le_trans hS.1 h)
/-- behind a call -/
theorem go_after {rest st0 : List Value} {rv : Option Value} {S' : Mem} {a : Array Value} {H : Heap} {locs : List Loc} {ls : Array Slot} (X : Cx p s m args meth c cc nL own ret D cI cB Z A) (hr : va_Run p l e R s m args below meth c H locs 0 0 0 0 (F0 m pc ls st0) rest (cQ D cI cB ad shs rv S' (va_A (mkW ad cI cB shs S) H.size) a) (va_A (mkW ad cI cB shs S) H.size)) (hD : va_D A (mkW ad cI cB shs S)) (hS : va_S A s.heap H locs) (hl : lv_has ls nL Ls) (k : Go p l e R s m args below meth c nL D cI cB ad shs A Q (pc + 3) Ls (rv.toList ++ rest) S') : W p l e R s m args below meth c H locs 0 0 Q (F0 m pc ls st0) := by
  intro T hT Xs
  have hA := go_A X hD hS
  obtain ⟨v, st₀, t, T', L, h0, X', hL, e1, e2, ⟨hv, hP', hz, hk⟩, st⟩ := hr T hT Xs
  cases hv
  rw [h0] at hz hk
  have hS' : va_S A s.heap T'.heap (locs ++ L) := ⟨Nat.le_trans hS.1 (by rw [e1]; exact hz), fun q h1 h2 => by rw [e1, hk q (Nat.lt_of_lt_of_le h1 hS.1) (fun z => h2 (hA q z))]; exact hS.2.1 q h1 h2, fun q hq => by
      rcases List.mem_append.mp hq with h | h
      · exact hS.2.2 q h
      · exact hA _ (hL q h)⟩
  obtain ⟨t2, a1, b1⟩ := k T'.heap (locs ++ L) ls (by rw [e1]; exact hP') (mkW_D hD) hS' hl T' rfl X'
  exact ⟨t2, st t2 a1, b1⟩
theorem cP_blind {As : List Value} {sz : Nat} : FrameBlind (cP D cI cB Z ad shs As S sz) := fun a U g mk q => by
  obtain ⟨q0, q1, qP, qK, qD, qS⟩ := q
  exact ⟨q0, q1, qP, va_K.moved (u := U) (U := U.calling g mk a) (Vm.Alike.refl U.vm) qK, qD, qS.blind⟩
theorem go_callV (X : Cx p s m args meth c cc nL own ret D cI cB Z A) (n : Nat) (rest : List Value) {As : List Value} {q ci N idx rf rl nLy : Nat} {C : String} {T : u_T} {fl : List (Option Nat)} {y : MethodName} {by_ : ByteArray} {rety : Option FieldType} {rv : Option Value} {S' : Mem} (hM : Ctr l D cI cB Z ad shs y by_ nLy rety rf rl (.ref (ad q) :: As) S rv S') (hq : shs[q]? = some (.inr (ci, fl))) (hc : vwCl[ci]? = some (C, T, N)) (hG : GoodIn TT (wsV own idx C y (.code y by_ nLy rety :: TT))) (hd2 : y.cls = C ∧ y.cls ≠ "java/lang/invoke/MethodHandle" ∧ y.cls ≠ "java/lang/invoke/VarHandle" ∧ (parseMethodDescriptor y.desc).map (fun d => d.parameters.length) = some n) (hR : rf + 1 ≤ R.frames ∧ 8 + (nLy + 11) + rl ≤ R.locals) (hn : As.length = n) (hst : st = As.reverse ++ .ref (ad q) :: rest) (hro : (rest.map fun v => v.category).sum ≤ 8) (hd : decode cc pc = .ok (.invokevirtual idx, 3)) (k : Go p l e R s m args below meth c nL D cI cB ad shs A Q (pc + 3) Ls (rv.toList ++ rest) S') : Go p l e R s m args below meth c nL D cI cB ad shs A Q pc Ls st S := by
  subst hst
  intro H locs ls hP hD hS hl
  refine go_after X (va_runV (As := As) (rest := rest) ⟨X.1, X.2.1, X.2.2.1, X.2.2.2.1, X.2.2.2.2.1⟩ (hM H.size) (cwV n X.2.2.2.2.1 hG rfl rfl rfl hd2 hR) ⟨cP_blind, ?_, fun U hU hW => ⟨rfl, by rw [hU], by rw [hU]; exact hP, va_K.moved hW.alike X.2.2.2.2.2.1, hD.weaken (fun _ _ _ _ => trivial), X.2.2.2.2.2.2.2.2.2.go hS hU hW (go_A X hD hS)⟩⟩ rfl hn hl.1 rfl (lv_room hro) hd ⟨Nat.zero_le _, Nat.zero_le _⟩) hD hS hl k
  exact va_recv X.2.2.2.2.2.1 hP hc (mkW_at S hq)
theorem go_callS (X : Cx p s m args meth c cc nL own ret D cI cB Z A) (n : Nat) (rest : List Value) {As : List Value} {idx rf rl nLy : Nat} {y : MethodName} {by_ : ByteArray} {rety : Option FieldType} {rv : Option Value} {S' : Mem} (hM : Ctr l D cI cB Z ad shs y by_ nLy rety rf rl As S rv S') (hG : GoodIn TT (va_wsS own idx y (.code y by_ nLy rety :: TT))) (hd2 : y.cls ≠ "java/lang/invoke/MethodHandle" ∧ y.cls ≠ "java/lang/invoke/VarHandle" ∧ (parseMethodDescriptor y.desc).map (fun d => d.parameters.length) = some n) (hR : rf + 1 ≤ R.frames ∧ 8 + (nLy + 11) + rl ≤ R.locals) (hn : As.length = n) (hst : st = As.reverse ++ rest) (hro : (rest.map fun v => v.category).sum ≤ 8) (hd : decode cc pc = .ok (.invokestatic idx, 3)) (k : Go p l e R s m args below meth c nL D cI cB ad shs A Q (pc + 3) Ls (rv.toList ++ rest) S') : Go p l e R s m args below meth c nL D cI cB ad shs A Q pc Ls st S := by
  subst hst
  intro H locs ls hP hD hS hl
  exact go_after X (va_runS (As := As) (rest := rest) ⟨X.1, X.2.1, X.2.2.1, X.2.2.2.1, X.2.2.2.2.1⟩ (hM H.size) (va_cwS n X.2.2.2.2.1 hG rfl rfl rfl hd2 hR) ⟨cP_blind, fun U hU hW => ⟨rfl, by rw [hU], by rw [hU]; exact hP, va_K.moved hW.alike X.2.2.2.2.2.1, hD.weaken (fun _ _ _ _ => trivial), X.2.2.2.2.2.2.2.2.2.go hS hU hW (go_A X hD hS)⟩⟩ rfl hn hl.1 rfl (lv_room hro) hd ⟨Nat.zero_le _, Nat.zero_le _⟩) hD hS hl k
/-- the ends -/
theorem go_iret (X : Cx p s m args meth c cc nL own (some .int) D cI cB Z A) {x r : Int} {S' : Mem} (h : some (x, S) = some (r, S')) (hd : decode cc pc = .ok (.ireturn, 1)) : Go p l e R s m args below meth c nL D cI cB ad shs A (MQ below (cQ D cI cB ad shs (some (.int (i32 r))) S' A) args s 0 0 A) pc Ls [.int (i32 x)] S := by
  cases h
  intro H locs ls hP hD hS hl
  exact W.iret X.1 X.2.1 X.2.2.2.2.2.2.2.1 (fun t ht hW => ⟨rfl, by rw [ht]; exact hP, hS.F ht⟩) hS.2.2 hd X.2.2.2.2.2.2.2.2.1
theorem go_zret (X : Cx p s m args meth c cc nL own (some .boolean) D cI cB Z A) {x r : Int} {S' : Mem} (hx : x = 0 ∨ x = 1) (h : some (x, S) = some (r, S')) (hd : decode cc pc = .ok (.ireturn, 1)) : Go p l e R s m args below meth c nL D cI cB ad shs A (MQ below (cQ D cI cB ad shs (some (.int (i32 r))) S' A) args s 0 0 A) pc Ls [.int (i32 x)] S := by
  cases h
  intro H locs ls hP hD hS hl
  exact W.zret X.1 X.2.1 X.2.2.2.2.2.2.2.1 (by rcases hx with rfl | rfl <;> rfl) (fun t ht hW => ⟨rfl, by rw [ht]; exact hP, hS.F ht⟩) hS.2.2 hd X.2.2.2.2.2.2.2.2.1
theorem go_vret (X : Cx p s m args meth c cc nL own none D cI cB Z A) {S' : Mem} (h : some S = some S') (hd : decode cc pc = .ok (.return_, 1)) : Go p l e R s m args below meth c nL D cI cB ad shs A (MQ below (cQ D cI cB ad shs none S' A) args s 0 0 A) pc Ls [] S := by
  cases h
  intro H locs ls hP hD hS hl
  exact W.vret X.1 X.2.1 X.2.2.2.2.2.2.2.1 (fun t ht hW => ⟨rfl, by rw [ht]; exact hP, hS.F ht⟩) hS.2.2 hd X.2.2.2.2.2.2.2.2.1
theorem go_aret {ob : String} (X : Cx p s m args meth c cc nL own (some (.object ob)) D cI cB Z A) {x : Nat} {S' : Mem} (h : some S = some S') (hd : decode cc pc = .ok (.areturn, 1)) : Go p l e R s m args below meth c nL D cI cB ad shs A (MQ below (cQ D cI cB ad shs (some (.ref x)) S' A) args s 0 0 A) pc Ls [.ref x] S := by
  cases h
  intro H locs ls hP hD hS hl
  exact W.aret X.1 X.2.1 X.2.2.2.2.2.2.2.1 (Or.inl ⟨_, rfl⟩) (Or.inr ⟨_, rfl⟩) (fun t ht hW => ⟨rfl, by rw [ht]; exact hP, hS.F ht⟩) hS.2.2 hd X.2.2.2.2.2.2.2.2.1
theorem go_callVi (X : Cx p s m args meth c cc nL own ret D cI cB Z A) (n : Nat) (rest : List Value) {As : List Value} {q ci N idx rf rl nLy : Nat} {C : String} {T : u_T} {fl : List (Option Nat)} {y : MethodName} {by_ : ByteArray} {rety : Option FieldType} {r : Int} {S' : Mem} (hM : Ctr l D cI cB Z ad shs y by_ nLy rety rf rl (.ref (ad q) :: As) S (some (.int (i32 r))) S') (hq : shs[q]? = some (.inr (ci, fl))) (hc : vwCl[ci]? = some (C, T, N)) (hG : GoodIn TT (wsV own idx C y (.code y by_ nLy rety :: TT))) (hd2 : y.cls = C ∧ y.cls ≠ "java/lang/invoke/MethodHandle" ∧ y.cls ≠ "java/lang/invoke/VarHandle" ∧ (parseMethodDescriptor y.desc).map (fun d => d.parameters.length) = some n) (hR : rf + 1 ≤ R.frames ∧ 8 + (nLy + 11) + rl ≤ R.locals) (hn : As.length = n) (hst : st = As.reverse ++ .ref (ad q) :: rest) (hro : (rest.map fun v => v.category).sum ≤ 8) (hd : decode cc pc = .ok (.invokevirtual idx, 3)) (k : Go p l e R s m args below meth c nL D cI cB ad shs A Q (pc + 3) Ls (.int (i32 r) :: rest) S') : Go p l e R s m args below meth c nL D cI cB ad shs A Q pc Ls st S :=
  go_callV X n rest hM hq hc hG hd2 hR hn hst hro hd k
theorem go_callVv (X : Cx p s m args meth c cc nL own ret D cI cB Z A) (n : Nat) (rest : List Value) {As : List Value} {q ci N idx rf rl nLy : Nat} {C : String} {T : u_T} {fl : List (Option Nat)} {y : MethodName} {by_ : ByteArray} {rety : Option FieldType} {S' : Mem} (hM : Ctr l D cI cB Z ad shs y by_ nLy rety rf rl (.ref (ad q) :: As) S none S') (hq : shs[q]? = some (.inr (ci, fl))) (hc : vwCl[ci]? = some (C, T, N)) (hG : GoodIn TT (wsV own idx C y (.code y by_ nLy rety :: TT))) (hd2 : y.cls = C ∧ y.cls ≠ "java/lang/invoke/MethodHandle" ∧ y.cls ≠ "java/lang/invoke/VarHandle" ∧ (parseMethodDescriptor y.desc).map (fun d => d.parameters.length) = some n) (hR : rf + 1 ≤ R.frames ∧ 8 + (nLy + 11) + rl ≤ R.locals) (hn : As.length = n) (hst : st = As.reverse ++ .ref (ad q) :: rest) (hro : (rest.map fun v => v.category).sum ≤ 8) (hd : decode cc pc = .ok (.invokevirtual idx, 3)) (k : Go p l e R s m args below meth c nL D cI cB ad shs A Q (pc + 3) Ls rest S') : Go p l e R s m args below meth c nL D cI cB ad shs A Q pc Ls st S :=
  go_callV X n rest hM hq hc hG hd2 hR hn hst hro hd k
theorem go_callVr (X : Cx p s m args meth c cc nL own ret D cI cB Z A) (n : Nat) (rest : List Value) {As : List Value} {q ci N idx rf rl nLy : Nat} {C : String} {T : u_T} {fl : List (Option Nat)} {y : MethodName} {by_ : ByteArray} {rety : Option FieldType} {r : Nat} {S' : Mem} (hM : Ctr l D cI cB Z ad shs y by_ nLy rety rf rl (.ref (ad q) :: As) S (some (.ref r)) S') (hq : shs[q]? = some (.inr (ci, fl))) (hc : vwCl[ci]? = some (C, T, N)) (hG : GoodIn TT (wsV own idx C y (.code y by_ nLy rety :: TT))) (hd2 : y.cls = C ∧ y.cls ≠ "java/lang/invoke/MethodHandle" ∧ y.cls ≠ "java/lang/invoke/VarHandle" ∧ (parseMethodDescriptor y.desc).map (fun d => d.parameters.length) = some n) (hR : rf + 1 ≤ R.frames ∧ 8 + (nLy + 11) + rl ≤ R.locals) (hn : As.length = n) (hst : st = As.reverse ++ .ref (ad q) :: rest) (hro : (rest.map fun v => v.category).sum ≤ 8) (hd : decode cc pc = .ok (.invokevirtual idx, 3)) (k : Go p l e R s m args below meth c nL D cI cB ad shs A Q (pc + 3) Ls (.ref r :: rest) S') : Go p l e R s m args below meth c nL D cI cB ad shs A Q pc Ls st S :=
  go_callV X n rest hM hq hc hG hd2 hR hn hst hro hd k
theorem go_callSi (X : Cx p s m args meth c cc nL own ret D cI cB Z A) (n : Nat) (rest : List Value) {As : List Value} {idx rf rl nLy : Nat} {y : MethodName} {by_ : ByteArray} {rety : Option FieldType} {r : Int} {S' : Mem} (hM : Ctr l D cI cB Z ad shs y by_ nLy rety rf rl As S (some (.int (i32 r))) S') (hG : GoodIn TT (va_wsS own idx y (.code y by_ nLy rety :: TT))) (hd2 : y.cls ≠ "java/lang/invoke/MethodHandle" ∧ y.cls ≠ "java/lang/invoke/VarHandle" ∧ (parseMethodDescriptor y.desc).map (fun d => d.parameters.length) = some n) (hR : rf + 1 ≤ R.frames ∧ 8 + (nLy + 11) + rl ≤ R.locals) (hn : As.length = n) (hst : st = As.reverse ++ rest) (hro : (rest.map fun v => v.category).sum ≤ 8) (hd : decode cc pc = .ok (.invokestatic idx, 3)) (k : Go p l e R s m args below meth c nL D cI cB ad shs A Q (pc + 3) Ls (.int (i32 r) :: rest) S') : Go p l e R s m args below meth c nL D cI cB ad shs A Q pc Ls st S :=
  go_callS X n rest hM hG hd2 hR hn hst hro hd k
theorem go_callSv (X : Cx p s m args meth c cc nL own ret D cI cB Z A) (n : Nat) (rest : List Value) {As : List Value} {idx rf rl nLy : Nat} {y : MethodName} {by_ : ByteArray} {rety : Option FieldType} {S' : Mem} (hM : Ctr l D cI cB Z ad shs y by_ nLy rety rf rl As S none S') (hG : GoodIn TT (va_wsS own idx y (.code y by_ nLy rety :: TT))) (hd2 : y.cls ≠ "java/lang/invoke/MethodHandle" ∧ y.cls ≠ "java/lang/invoke/VarHandle" ∧ (parseMethodDescriptor y.desc).map (fun d => d.parameters.length) = some n) (hR : rf + 1 ≤ R.frames ∧ 8 + (nLy + 11) + rl ≤ R.locals) (hn : As.length = n) (hst : st = As.reverse ++ rest) (hro : (rest.map fun v => v.category).sum ≤ 8) (hd : decode cc pc = .ok (.invokestatic idx, 3)) (k : Go p l e R s m args below meth c nL D cI cB ad shs A Q (pc + 3) Ls rest S') : Go p l e R s m args below meth c nL D cI cB ad shs A Q pc Ls st S :=
  go_callS X n rest hM hG hd2 hR hn hst hro hd k
theorem go_iastE (X : Cx p s m args meth c cc nL own ret D cI cB Z A) {q n : Nat} {i v ni : Int} {S' : Mem} (e1 : S' = wr S q i v) (hq : shs[q]? = some (.inl (false, n))) (hn : n ≤ 100000) (hni : (n : Int) = ni) (hi : 0 ≤ i ∧ i < ni) (hd : decode cc pc = .ok (.iastore, 1)) (k : Go p l e R s m args below meth c nL D cI cB ad shs A Q (pc + 1) Ls st S') : Go p l e R s m args below meth c nL D cI cB ad shs A Q pc Ls (.int (i32 v) :: .int (i32 i) :: .ref (ad q) :: st) S :=
  go_iast X hq hn (hni ▸ hi) hd (e1 ▸ k)
theorem go_bastE (X : Cx p s m args meth c cc nL own ret D cI cB Z A) {q n : Nat} {i v ni : Int} {S' : Mem} (e1 : S' = wr S q i (byb v)) (hq : shs[q]? = some (.inl (true, n))) (hn : n ≤ 100000) (hni : (n : Int) = ni) (hi : 0 ≤ i ∧ i < ni) (hd : decode cc pc = .ok (.bastore, 1)) (k : Go p l e R s m args below meth c nL D cI cB ad shs A Q (pc + 1) Ls st S') : Go p l e R s m args below meth c nL D cI cB ad shs A Q pc Ls (.int (i32 v) :: .int (i32 i) :: .ref (ad q) :: st) S :=
  go_bast X hq hn (hni ▸ hi) hd (e1 ▸ k)
theorem go_putE (X : Cx p s m args meth c cc nL own ret D cI cB Z A) {q ci fk N idx : Nat} {C : String} {T : u_T} {ty0 : Nat → FieldType} {ty : FieldType} {fl : List (Option Nat)} {v fi : Int} {S' : Mem} (hfi : (fk : Int) = fi) (e1 : S' = wr S q fi v) (hq : shs[q]? = some (.inr (ci, fl))) (hc : vwCl[ci]? = some (C, T, N)) (hin : ∀ w ∈ u_ws C T N, w ∈ TT) (hty : ∀ k, k < N → parseFieldDescriptor (T k).2.2.1 = some (ty0 k)) (hnm : ∀ a, a < N → ∀ b, b < N → a ≠ b → (T a).2.1 ≠ (T b).2.1) (hk : fk < N) (hw : Cond.fieldLink own idx (T fk).1 (T fk).2.1 (T fk).2.2.1 ∈ TT) (hf : fl[fk]? = some none) (hfin : (T fk).2.2.2 = false) (ht : ty0 fk = ty) (hn : narrow ty (.int (i32 v)) = .int (i32 v)) (hfit : fits ty (.int (i32 v)) = true) (hd : decode cc pc = .ok (.putfield idx, 3)) (k : Go p l e R s m args below meth c nL D cI cB ad shs A Q (pc + 3) Ls st S') : Go p l e R s m args below meth c nL D cI cB ad shs A Q pc Ls (.int (i32 v) :: .ref (ad q) :: st) S :=
  go_put X hq hc hin hty hnm hk hw hf hfin ht hn hfit hd (by rw [hfi]; exact e1 ▸ k)
theorem go_copyE (X : Cx p s m args meth c cc nL own ret D cI cB Z A) {idx q0 q1 n0 n1 : Nat} {sp dp n m0 m1 : Int} {S' : Mem} (e1 : S' = cpy S q0 sp q1 dp n) (hw : Cond.methodLink own idx arraycopyName ∈ TT) (hq0 : shs[q0]? = some (.inl (false, n0))) (hq1 : shs[q1]? = some (.inl (false, n1))) (hn0 : n0 ≤ 100000) (hn1 : n1 ≤ 100000) (hm0 : (n0 : Int) = m0) (hm1 : (n1 : Int) = m1) (hg : 0 ≤ sp ∧ 0 ≤ dp ∧ 0 ≤ n ∧ sp + n ≤ m0 ∧ dp + n ≤ m1) (hfr : 1 ≤ R.frames) (hlo : (st.map fun v => v.category).sum + (nativeFrameWords "java/lang/System" "arraycopy" 5 + 11) ≤ R.locals) (hd : decode cc pc = .ok (.invokestatic idx, 3)) (k : Go p l e R s m args below meth c nL D cI cB ad shs A Q (pc + 3) Ls st S') : Go p l e R s m args below meth c nL D cI cB ad shs A Q pc Ls (.int (i32 n) :: .int (i32 dp) :: .ref (ad q1) :: .int (i32 sp) :: .ref (ad q0) :: st) S :=
  go_copy X hw hq0 hq1 hn0 hn1 (by rw [hm0, hm1]; exact hg) hfr hlo hd (e1 ▸ k)
theorem go_iretP (X : Cx p s m args meth c cc nL own (some .int) D cI cB Z A) {x r : Int} (h : some x = some r) (hd : decode cc pc = .ok (.ireturn, 1)) : Go p l e R s m args below meth c nL D cI cB ad shs A (MQ below (cQ D cI cB ad shs (some (.int (i32 r))) S A) args s 0 0 A) pc Ls [.int (i32 x)] S :=
  go_iret X (by cases h; rfl) hd
theorem go_zretP (X : Cx p s m args meth c cc nL own (some .boolean) D cI cB Z A) {x r : Int} (hx : x = 0 ∨ x = 1) (h : some x = some r) (hd : decode cc pc = .ok (.ireturn, 1)) : Go p l e R s m args below meth c nL D cI cB ad shs A (MQ below (cQ D cI cB ad shs (some (.int (i32 r))) S A) args s 0 0 A) pc Ls [.int (i32 x)] S :=
  go_zret X hx (by cases h; rfl) hd
/-- a text of the program's -/
theorem go_ldcS (X : Cx p s m args meth c cc nL own ret D cI cB Z A) {idx : Nat} {tx : String} (sk : Nat) (hs : sTab[sk]? = some (own, idx, tx)) (hd : decode cc pc = .ok (.ldc idx, 2)) (k : Go p l e R s m args below meth c nL D cI cB ad shs A Q (pc + 2) Ls (.ref (Z.1 sk) :: st) S) : Go p l e R s m args below meth c nL D cI cB ad shs A Q pc Ls st S :=
  fun H locs ls hP hD hS hl => va_ldcS X.1 X.2.1 X.2.2.2.1 (X.2.2.2.2.2.2.2.2.2.2.1 sk _ hs) hd (k H locs ls hP hD hS hl)
theorem go_callT (X : Cx p s m args meth c cc nL own ret D cI cB Z A) (n sk : Nat) (rest : List Value) {As : List Value} {idx rf rl nLy : Nat} {y : MethodName} {by_ : ByteArray} {rety : Option FieldType} {r : Int} {S' : Mem} (hM : Ctr l D cI cB Z ad shs y by_ nLy rety rf rl (.ref (Z.1 sk) :: As) S (some (.int (i32 r))) S') (hsk : sk < 14) (hG : GoodIn TT (wsV own idx "java/lang/String" y (.code y by_ nLy rety :: TT))) (hd2 : y.cls = "java/lang/String" ∧ y.cls ≠ "java/lang/invoke/MethodHandle" ∧ y.cls ≠ "java/lang/invoke/VarHandle" ∧ (parseMethodDescriptor y.desc).map (fun d => d.parameters.length) = some n) (hR : rf + 1 ≤ R.frames ∧ 8 + (nLy + 11) + rl ≤ R.locals) (hn : As.length = n) (hst : st = As.reverse ++ .ref (Z.1 sk) :: rest) (hro : (rest.map fun v => v.category).sum ≤ 8) (hd : decode cc pc = .ok (.invokevirtual idx, 3)) (k : Go p l e R s m args below meth c nL D cI cB ad shs A Q (pc + 3) Ls (.int (i32 r) :: rest) S') : Go p l e R s m args below meth c nL D cI cB ad shs A Q pc Ls st S := by
  subst hst
  intro H locs ls hP hD hS hl
  refine go_after X (va_runV (As := As) (rest := rest) ⟨X.1, X.2.1, X.2.2.1, X.2.2.2.1, X.2.2.2.2.1⟩ (hM H.size) (cwV n X.2.2.2.2.1 hG rfl rfl rfl hd2 hR) ⟨cP_blind, ?_, fun U hU hW => ⟨rfl, by rw [hU], by rw [hU]; exact hP, va_K.moved hW.alike X.2.2.2.2.2.1, hD.weaken (fun _ _ _ _ => trivial), X.2.2.2.2.2.2.2.2.2.go hS hU hW (go_A X hD hS)⟩⟩ rfl hn hl.1 rfl (lv_room hro) hd ⟨Nat.zero_le _, Nat.zero_le _⟩) hD hS hl k
  exact vk_recv (i := 0) (X.2.2.2.2.2.2.2.2.2.1 sk hsk) (by decide) hS
end GO
/-- a contract out of a walk from the entry -/
theorem ctr_of {l : Launch} {D : va_G} {cI cB : ClassId} {Z : (Nat → Nat) × (Nat → Nat)} {ad : Nat → Nat} {shs : List Shp} {y : MethodName} {cc : ByteArray} {nL : Nat} {ret : Option FieldType} {rf rl : Nat} {As : List Value} {Ls : List (Nat × Value)} {S : Mem} {rv : Option Value} {S' : Mem} (hy : plainName y.cls = true) (hn : (lg_sl As).length ≤ nL) (hL : lv_args 0 As = Ls)
    (body : ∀ (p : Program) (e : Env) (s : State) (m : MethodId) (args : Array Value) (below : List Frame) (meth : Method) (c : Code) (A : Nat → Prop), Cx p s m args meth c cc nL y.cls ret D cI cB Z A → Go p l e { frames := rf, cells := 0, slots := 0, locals := rl } s m args below meth c nL D cI cB ad shs A (MQ below (cQ D cI cB ad shs rv S' A) args s 0 0 A) 0 Ls [] S) : Ctr l D cI cB Z ad shs y cc nL ret rf rl As S rv S' := by
  intro sz
  subst hL
  refine Met.ofW (cc := cc) (maxL := nL) (ret := ret) hy rfl ?_
  intro p e s m args below meth c s₁ B hml hv
  obtain ⟨rfl, hsz, hP, hK, hD0, hZ⟩ := hv
  subst hsz
  have hts := atoms_spec (ws := .code y cc nL ret :: TT) B.pre
  have X : Cx p s m As.toArray meth c cc nL y.cls ret D cI cB Z (va_A (mkW ad cI cB shs S) s.heap.size) := ⟨B.exec, B.bytes, hml, findClass_of_methodNamed B.named, fun w hw => hts w (List.mem_cons_of_mem _ hw), hK, fun q h => Or.inr h, B.returns, B.notSynchronized, hZ⟩
  rw [lg_entry_eq]
  exact body p e s m As.toArray below meth c _ X s.heap [] _ hP (hD0.self) va_S.rf (lv_entry As hn)
/-! ===== the shapes: the system's cells, the reference's cells ===== -/
abbrev fsA (q : Nat) : List (Option Nat) := [some (q + 1), none, none, none, some (q + 7), some (q + 8), some (q + 9), some (q + 10), some (q + 11), some (q + 12), some (q + 13)]
abbrev fsB (q : Nat) : List (Option Nat) := [none, none, none, some (q + 1), some (q + 2), some (q + 3), some (q + 4), some (q + 5)]
def shsC : List Shp := [.inr (7, [some 1, some 2, some 4, some 5, some 32, some 34, some 18, some 19, some 36, none]), .inr (6, [some 2, none, none, none, none]), .inr (5, [none, some 3]), .inl (true, 500),
  .inr (0, fsA 4), .inr (1, fsB 5), .inl (false, 9), .inl (false, 9), .inl (false, 72), .inl (false, 9), .inl (false, 9), .inl (false, 9), .inl (false, 9), .inl (false, 72), .inl (false, 30), .inl (false, 30), .inl (false, 9), .inl (false, 9),
  .inr (0, fsA 18), .inr (1, fsB 19), .inl (false, 9), .inl (false, 9), .inl (false, 72), .inl (false, 9), .inl (false, 9), .inl (false, 9), .inl (false, 9), .inl (false, 72), .inl (false, 30), .inl (false, 30), .inl (false, 9), .inl (false, 9),
  .inr (3, [none, some 33]), .inl (false, 32), .inr (2, [none, none, some 35]), .inl (false, 1512), .inr (4, [none, none, none])]
def shsM : List Shp := [.inr (8, [none, some 1, some 2, some 3, some 4, none, some 5, some 6, some 7, some 8, some 9, none, none, some 10, some 11, none, some 12, none, some 13, none, none, none, none, none]), .inl (false, 126), .inl (false, 126), .inl (false, 126), .inl (false, 1512), .inl (false, 9), .inl (false, 9), .inl (false, 72), .inl (false, 30), .inl (false, 30), .inl (false, 100), .inl (false, 600), .inl (false, 500), .inl (true, 44)]
def isBk (q : Nat) : Prop := q = 5 ∨ q = 19
def isAu (q : Nat) : Prop := q = 4 ∨ q = 18
def isUn (q : Nat) : Prop := q = 11 ∨ q = 25
def isRw (q : Nat) : Prop := q = 1 ∨ q = 2
theorem bk5 : isBk 5 := Or.inl rfl
theorem bk19 : isBk 19 := Or.inr rfl
theorem au4 : isAu 4 := Or.inl rfl
theorem au18 : isAu 18 := Or.inr rfl
theorem un11 : isUn 11 := Or.inl rfl
theorem un25 : isUn 25 := Or.inr rfl
theorem rw1 : isRw 1 := Or.inl rfl
theorem rw2 : isRw 2 := Or.inr rfl
theorem auBk {q : Nat} (h : isAu q) : isBk (q + 1) := by
  rcases h with rfl | rfl
  · exact Or.inl rfl
  · exact Or.inr rfl
theorem auUn {q : Nat} (h : isAu q) : isUn (q + 7) := by
  rcases h with rfl | rfl
  · exact Or.inl rfl
  · exact Or.inr rfl
theorem sh7 : shsC[0]? = some (.inr (7, [some 1, some 2, some 4, some 5, some 32, some 34, some 18, some 19, some 36, none])) := rfl
theorem sh6 : shsC[1]? = some (.inr (6, [some 2, none, none, none, none])) := rfl
theorem sh5 : shsC[2]? = some (.inr (5, [none, some 3])) := rfl
theorem shBy : shsC[3]? = some (.inl (true, 500)) := rfl
theorem sh3 : shsC[32]? = some (.inr (3, [none, some 33])) := rfl
theorem shLe : shsC[33]? = some (.inl (false, 32)) := rfl
theorem sh2 : shsC[34]? = some (.inr (2, [none, none, some 35])) := rfl
theorem shHi : shsC[35]? = some (.inl (false, 1512)) := rfl
theorem sh4 : shsC[36]? = some (.inr (4, [none, none, none])) := rfl
theorem shA {q : Nat} (h : isAu q) : shsC[q]? = some (.inr (0, fsA q)) := by rcases h with rfl | rfl <;> rfl
theorem shB {q : Nat} (h : isBk q) : shsC[q]? = some (.inr (1, fsB q)) := by rcases h with rfl | rfl <;> rfl
theorem shA7 {q : Nat} (h : isAu q) : shsC[q + 7]? = some (.inl (false, 9)) := by rcases h with rfl | rfl <;> rfl
theorem shA8 {q : Nat} (h : isAu q) : shsC[q + 8]? = some (.inl (false, 9)) := by rcases h with rfl | rfl <;> rfl
theorem shA9 {q : Nat} (h : isAu q) : shsC[q + 9]? = some (.inl (false, 72)) := by rcases h with rfl | rfl <;> rfl
theorem shA10 {q : Nat} (h : isAu q) : shsC[q + 10]? = some (.inl (false, 30)) := by rcases h with rfl | rfl <;> rfl
theorem shA11 {q : Nat} (h : isAu q) : shsC[q + 11]? = some (.inl (false, 30)) := by rcases h with rfl | rfl <;> rfl
theorem shA12 {q : Nat} (h : isAu q) : shsC[q + 12]? = some (.inl (false, 9)) := by rcases h with rfl | rfl <;> rfl
theorem shA13 {q : Nat} (h : isAu q) : shsC[q + 13]? = some (.inl (false, 9)) := by rcases h with rfl | rfl <;> rfl
theorem shB1 {q : Nat} (h : isBk q) : shsC[q + 1]? = some (.inl (false, 9)) := by rcases h with rfl | rfl <;> rfl
theorem shB2 {q : Nat} (h : isBk q) : shsC[q + 2]? = some (.inl (false, 9)) := by rcases h with rfl | rfl <;> rfl
theorem shB3 {q : Nat} (h : isBk q) : shsC[q + 3]? = some (.inl (false, 72)) := by rcases h with rfl | rfl <;> rfl
theorem shB4 {q : Nat} (h : isBk q) : shsC[q + 4]? = some (.inl (false, 9)) := by rcases h with rfl | rfl <;> rfl
theorem shB5 {q : Nat} (h : isBk q) : shsC[q + 5]? = some (.inl (false, 9)) := by rcases h with rfl | rfl <;> rfl
theorem shU {q : Nat} (h : isUn q) : shsC[q]? = some (.inl (false, 9)) := by rcases h with rfl | rfl <;> rfl
theorem sh8 : shsM[0]? = some (.inr (8, [none, some 1, some 2, some 3, some 4, none, some 5, some 6, some 7, some 8, some 9, none, none, some 10, some 11, none, some 12, none, some 13, none, none, none, none, none])) := rfl
theorem shM1 : shsM[1]? = some (.inl (false, 126)) := rfl
theorem shM2 : shsM[2]? = some (.inl (false, 126)) := rfl
theorem shM3 : shsM[3]? = some (.inl (false, 126)) := rfl
theorem shM4 : shsM[4]? = some (.inl (false, 1512)) := rfl
theorem shM5 : shsM[5]? = some (.inl (false, 9)) := rfl
theorem shM6 : shsM[6]? = some (.inl (false, 9)) := rfl
theorem shM7 : shsM[7]? = some (.inl (false, 72)) := rfl
theorem shM8 : shsM[8]? = some (.inl (false, 30)) := rfl
theorem shM9 : shsM[9]? = some (.inl (false, 30)) := rfl
theorem shM10 : shsM[10]? = some (.inl (false, 100)) := rfl
theorem shM11 : shsM[11]? = some (.inl (false, 600)) := rfl
theorem shM12 : shsM[12]? = some (.inl (false, 500)) := rfl
theorem shM13 : shsM[13]? = some (.inl (true, 44)) := rfl
theorem shR {q : Nat} (h : isRw q) : shsM[q]? = some (.inl (false, 126)) := by rcases h with rfl | rfl <;> rfl
