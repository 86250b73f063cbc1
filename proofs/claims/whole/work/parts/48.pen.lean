/-! ===== the pens in step ===== -/
def PS (S T : Mem) (w n : Int) : Prop := ∃ l : List Int, S 36 0 = w ∧ S 36 1 = (l.length : Nat) ∧ S 36 2 = (if 0 ≤ w ∧ w < (l.length : Nat) then l.getD w.toNat 0 else -2) ∧ T 0 15 = (l.length : Nat) ∧ (∀ i : Int, 0 ≤ i → i < (l.length : Nat) → T 11 i = l.getD i.toNat 0) ∧ ((l.length : Nat) : Int) ≤ n
def FP (S S' : Mem) : Prop := ∀ k, k ≠ 36 → S' k = S k
def FM (T T' : Mem) : Prop := (∀ k, k ≠ 0 → k ≠ 11 → T' k = T k) ∧ ∀ j, j ≠ 15 → T' 0 j = T 0 j
theorem FP.rf {S : Mem} : FP S S := fun _ _ => rfl
theorem FP.tr {S S1 S2 : Mem} (h : FP S S1) (g : FP S1 S2) : FP S S2 := fun k a => (g k a).trans (h k a)
theorem FM.rf {T : Mem} : FM T T := ⟨fun _ _ _ => rfl, fun _ _ => rfl⟩
theorem FM.tr {T T1 T2 : Mem} (h : FM T T1) (g : FM T1 T2) : FM T T2 := ⟨fun k a b => (g.1 k a b).trans (h.1 k a b), fun j a => (g.2 j a).trans (h.2 j a)⟩
theorem AgC.pen {S S' : Mem} (h : FP S S') : AgC S S' := fun k a => h k (by omega)
theorem AgM.pen {T T' : Mem} (h : FM T T') : AgM T T' := ⟨h.1 1 (by decide) (by decide), h.1 4 (by decide) (by decide), h.1 12 (by decide) (by decide), h.1 13 (by decide) (by decide), h.2 5 (by decide), h.2 17 (by decide)⟩
theorem PS.mono {S T : Mem} {w n m : Int} (h : PS S T w n) (hm : n ≤ m) : PS S T w m := by
  obtain ⟨l, a, b, c, d, e, f⟩ := h
  exact ⟨l, a, b, c, d, e, by omega⟩
theorem P_sign {S T : Mem} {w n x : Int} (h : PS S T w n) (hw : -1 ≤ w ∧ w < 2147483648) (hn : n < 600) : ∃ S' T', f_X4_sign S x = some S' ∧ f_X8_writes T x = some T' ∧ PS S' T' w (n + 1) ∧ FP S S' ∧ FM T T' := by
  obtain ⟨l, a, b, c, d, e, f⟩ := h
  have ge : ∀ i : Int, 0 ≤ i → i < (l.length : Nat) → (l ++ [x]).getD i.toNat 0 = l.getD i.toNat 0 := fun i i0 i1 => getD_l (by omega)
  have gl : (l ++ [x]).getD l.length 0 = x := by
    rw [getD_r (Nat.le_refl _), Nat.sub_self]
    rfl
  have ll : (l ++ [x]).length = l.length + 1 := by rw [List.length_append]; rfl
  have hM : f_X8_writes T x = some (wr (wr T 11 (l.length : Nat) x) 0 15 ((l.length : Nat) + 1)) := by
    unfold f_X8_writes
    rw [d, if_pos (by omega)]
    dsimp only [wrk]
    rw [wr_cell (by decide), d]
  have pm : ∀ i : Int, 0 ≤ i → i < ((l ++ [x]).length : Nat) → wr (wr T 11 (l.length : Nat) x) 0 15 ((l.length : Nat) + 1) 11 i = (l ++ [x]).getD i.toNat 0 := fun i i0 i1 => by
    rw [wr_cell (by decide), wr_at]
    by_cases hi : i = (l.length : Nat)
    · rw [if_pos hi, hi, show (((l.length : Nat) : Int)).toNat = l.length by omega, gl]
    · rw [if_neg hi, ge i i0 (by omega)]
      exact e i i0 (by omega)
  unfold f_X4_sign
  rw [b, a, hM]
  by_cases hq : ((l.length : Nat) : Int) = w
  · rw [if_pos (eqb_t hq)]
    dsimp only [wrk]
    rw [Option.bind_some, wr_idx (show (1 : Int) ≠ 2 by decide), b]
    refine ⟨_, _, rfl, rfl, ⟨l ++ [x], ?_, ?_, ?_, ?_, pm, by omega⟩, fun k hk => by rw [wr_ne hk, wr_ne hk], ⟨fun k k0 k1 => by rw [wr_ne k0, wr_ne k1], fun j hj => by rw [wr_idx hj, wr_cell (by decide)]⟩⟩
    · rw [wr_idx (by decide), wr_idx (by decide)]; exact a
    · rw [wr_eq, ll]; omega
    · rw [wr_idx (by decide), wr_eq, if_pos (by omega), show w.toNat = l.length by omega, gl]
    · rw [wr_eq, ll]; omega
  · rw [if_neg (nq hq (by omega) (by omega) (by omega) (by omega)), Option.bind_some]
    dsimp only [wrk]
    rw [b]
    refine ⟨_, _, rfl, rfl, ⟨l ++ [x], ?_, ?_, ?_, ?_, pm, by omega⟩, fun k hk => wr_ne hk, ⟨fun k k0 k1 => by rw [wr_ne k0, wr_ne k1], fun j hj => by rw [wr_idx hj, wr_cell (by decide)]⟩⟩
    · rw [wr_idx (by decide)]; exact a
    · rw [wr_eq, ll]; omega
    · rw [wr_idx (by decide), c]
      by_cases h5 : 0 ≤ w ∧ w < (l.length : Nat)
      · rw [if_pos h5, if_pos (by omega), ge w h5.1 h5.2]
      · rw [if_neg h5, if_neg (by omega)]
    · rw [wr_eq, ll]; omega
