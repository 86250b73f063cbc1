/-! ===== the start: the two hold the same; the program's texts ===== -/
theorem Rel_start {T0 : Mem} (h1 : ∀ k, k ≠ 1 → T0 k = T00 k) (h2 : T0 1 0 = 10) (h3 : ∀ j, 1 ≤ j → j < 126 → T0 1 j = 0) : Rel S0 T0 := by
  have z1 := h3 1 (by decide) (by decide)
  have z2 := h3 2 (by decide) (by decide)
  have t5 : T0 0 5 = 0 := by rw [h1 0 (by decide)]; rfl
  have t17 : T0 0 17 = 0 := by rw [h1 0 (by decide)]; rfl
  refine ⟨WF.fresh h2 h3, ⟨by rw [h2]; rfl, by rw [z1]; rfl, by rw [z2]; rfl, fun b b0 b1 => by omega, fun b b0 b1 => by omega, fun b i b0 b1 => by omega⟩, Or.inr rfl, ?_, ?_, ?_, ?_⟩
  · rw [show S0 32 0 = 0 from rfl]
    exact ⟨(h3 93 (by decide) (by decide)).symm, by decide, by decide, fun k j k0 k1 => by omega⟩
  · unfold RH
    rw [t5, show S0 34 0 = 0 from rfl, show S0 34 1 = 0 from rfl]
    exact ⟨rfl, by decide, by decide, by decide, by decide, fun i i0 i1 => by omega⟩
  · unfold RT
    rw [t17, show S0 2 0 = 0 from rfl]
    exact ⟨rfl, by decide, by decide, fun i i0 i1 => by omega⟩
  · intro i hi
    rw [h1 13 (by decide)]
    unfold T00
    rw [if_pos rfl, if_pos (by omega), show ((i : Int)).toNat = i by omega]
def FL : List Cond := flatC (Jvm.Cond.and given_1 narrow_1)
def sOw (k : Nat) : String := (sTab.getD k ("", 0, "")).1
def sIx (k : Nat) : Nat := (sTab.getD k ("", 0, "")).2.1
def sTx (k : Nat) : String := (sTab.getD k ("", 0, "")).2.2
set_option maxRecDepth 100000 in
theorem str_a : ∀ k : Nat, k < 14 → Cond.exactly (.string (sOw k) (sIx k)) "java/lang/String" ∈ FL ∧ Cond.eq (.field (.string (sOw k) (sIx k)) "java/lang/String" "coder" "B") (.int 0) ∈ FL ∧ Cond.arrayOf (.field (.string (sOw k) (sIx k)) "java/lang/String" "value" "[B") .byte ∈ FL ∧ Cond.eq (.length (.field (.string (sOw k) (sIx k)) "java/lang/String" "value" "[B")) (.int (Int32.ofNat (sLen k))) ∈ FL := by decide +kernel
set_option maxRecDepth 100000 in
theorem str_b : ∀ k : Nat, k < 14 → ∀ j : Nat, j < sLen k → Cond.eq (.elem (.field (.string (sOw k) (sIx k)) "java/lang/String" "value" "[B") (.int (Int32.ofNat j))) (.int ((sByt.getD k []).getD j 0)) ∈ FL := by decide +kernel
set_option maxRecDepth 100000 in
theorem str_c : ∀ k : Nat, k < 14 → Cond.stringRef (sOw k) (sIx k) (sTx k) ∈ tables_1 := by decide +kernel
set_option maxRecDepth 100000 in
theorem str_d : Cond.laysStatic "java/lang/String" "COMPACT_STRINGS" "Z" ∈ tables_1 ∧ Cond.laysStatic "jdk/internal/util/Preconditions" "SIOOBE_FORMATTER" "Ljava/util/function/BiFunction;" ∈ tables_1 ∧ Cond.eq (.static "java/lang/String" "COMPACT_STRINGS" "Z") (.int 1) ∈ FL ∧ Cond.isRef (.static "jdk/internal/util/Preconditions" "SIOOBE_FORMATTER" "Ljava/util/function/BiFunction;") ∈ FL := by decide +kernel
theorem StrW_start {args : Array Value} {s : State} (hts : ∀ w ∈ lw_tbl, w.before args s = true) (hg : (Jvm.Cond.and given_1 narrow_1).before args s = true) : ∃ Z : (Nat → Nat) × (Nat → Nat), StrW Z (fun q => s.heap.size ≤ q) s := by
  have hs := flat_of_before _ hg
  have hA : ∀ a : Nat, a < s.heap.size → ¬ (fun q => s.heap.size ≤ q) a := fun a h g => Nat.not_le.mpr h g
  have ht : ∀ w ∈ tables_1, w.before args s = true := fun w hw => hts w (List.mem_append_right _ hw)
  have h0 : ∀ k : Nat, ∃ q : Nat × Nat, k < 14 → vk_S 1 [sLen k] [sByt.getD k []] (fun _ => q.1) (fun _ => q.2) (fun q => s.heap.size ≤ q) s s.heap ∧ (Term.string (sOw k) (sIx k)).eval args s none [] s = some (.ref q.1) := by
    intro k
    by_cases hk : k < 14
    · obtain ⟨a1, a2, a3, a4⟩ := str_a k hk
      have hz : ∀ i : Nat, i < 1 → i = 0 := fun i hi => by omega
      obtain ⟨adK, adV, h1, h2⟩ := vk_Sof (N := 1) (tm := fun _ => Term.string (sOw k) (sIx k)) (len := [sLen k]) (byt := [sByt.getD k []]) (A := fun q => s.heap.size ≤ q) (args := args) (s := s) (fun i hi => by
          rw [hz i hi]
          have := sL_all k hk
          show sLen k < 2 ^ 31
          omega) (fun i hi => hs _ a1) (fun i hi => hs _ a2) (fun i hi => hs _ a3) (fun i hi => by rw [hz i hi]; exact hs _ a4) (fun i hi j hj => by
          rw [hz i hi] at hj ⊢
          exact hs _ (str_b k hk j hj)) (fun i j hi hj hij => absurd ((hz i hi).trans (hz j hj).symm) hij) hA
      refine ⟨(adK 0, adV 0), fun _ => ⟨⟨fun i hi => ?_, fun i j hi hj _ => (hz i hi).trans (hz j hj).symm⟩, h2 0 (by decide)⟩⟩
      rw [hz i hi]
      exact h1.1 0 (by decide)
    · exact ⟨(0, 0), fun h => absurd h hk⟩
  obtain ⟨f, hf⟩ : ∃ f : Nat → Nat × Nat, ∀ k, k < 14 → vk_S 1 [sLen k] [sByt.getD k []] (fun _ => (f k).1) (fun _ => (f k).2) (fun q => s.heap.size ≤ q) s s.heap ∧ (Term.string (sOw k) (sIx k)).eval args s none [] s = some (.ref (f k).1) := ⟨fun k => Classical.choose (h0 k), fun k => Classical.choose_spec (h0 k)⟩
  refine ⟨(fun k => (f k).1, fun k => (f k).2), fun k hk => (hf k hk).1, fun k q hq => ?_, va_Zof (ht _ str_d.1) (hts _ (TT_tbl in_J0)) (va_eqt (hs _ str_d.2.2.1)) hA, va_Zqof (ht _ str_d.2.1) (hts _ (TT_tbl in_J3)) (hs _ str_d.2.2.2) hA⟩
  have hk : k < 14 := (List.getElem?_eq_some_iff.mp hq).1
  have e : sTab.getD k ("", 0, "") = q := by rw [List.getD_eq_getElem?_getD, hq]; rfl
  have e1 : sOw k = q.1 := by unfold sOw; rw [e]
  have e2 : sIx k = q.2.1 := by unfold sIx; rw [e]
  have e3 : sTx k = q.2.2 := by unfold sTx; rw [e]
  have c := ht _ (str_c k hk)
  have d := (hf k hk).2
  rw [e1, e2, e3] at c
  rw [e1, e2] at d
  exact vk_R.of c d
