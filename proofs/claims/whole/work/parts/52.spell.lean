/-! ===== lines; spell ===== -/
def ltr (k : Nat) : List Int := (List.range' 0 (sLen k)).map (fun j : Nat => sChr k (j : Int))
theorem sL_all : ∀ k : Nat, k < 14 → sLen k < 100 := by decide +kernel
theorem RW.fm {T T' : Mem} (h : RW T) (g : FM T T') : RW T' := by
  unfold RW
  rw [g.1 13 (by decide) (by decide)]
  exact h
theorem C_lt {k : Nat} (hk : k < 14) (S : Mem) : f_X4_letters S k = sgs (ltr k) S := C_letters k (sL_all k hk) S
theorem lt4 : ltr 4 = wrd 0 ++ [32] := by decide +kernel
theorem lt5 : ltr 5 = wrd 1 ++ [32] := by decide +kernel
theorem lt6 : ltr 6 = wrd 2 := by decide +kernel
theorem lt7 : ltr 7 = [32] := by decide +kernel
theorem lt8 : ltr 8 = [32] ++ (wrd 3 ++ [32]) := by decide +kernel
theorem lt9 : ltr 9 = [59] := by decide +kernel
theorem lt10 : ltr 10 = wrd 4 ++ [32] := by decide +kernel
theorem lt11 : ltr 11 = [32] ++ (wrd 5 ++ [32]) := by decide +kernel
theorem lt12 : ltr 12 = [32] ++ (wrd 6 ++ [32]) := by decide +kernel
theorem lt13 : ltr 13 = wrd 7 ++ [32] := by decide +kernel
theorem M_word1 {T : Mem} (h : RW T) {i : Nat} (hi : i < 8) : ((f_X8_writesWord T i).bind fun S1 => f_X8_writes S1 32) = wrs (wrd i ++ [32]) T := by
  rw [M_writesWord h hi, wrs_app]
  cases wrs (wrd i) T with
  | none => rfl
  | some U => exact (wrs_one 32 U).symm
theorem P_line {S T : Mem} {w n v : Int} {k i : Nat} (h : PS S T w n) (hr : RW T) (hw : -1 ≤ w ∧ w < 2147483648) (hk : k < 14) (hi : i < 8) (e : ltr k = wrd i ++ [32]) (hl : (ltr k).length ≤ 8) (hn : n + 14 ≤ 600) (h0 : 0 ≤ v) (h1 : v < 100000) : ∃ S' T', f_X4_line S k v = some S' ∧ f_X8_writesOne T i v = some T' ∧ PS S' T' w (n + 14) ∧ FP S S' ∧ FM T T' := by
  obtain ⟨S1, T1, a1, a2, a3, a4, a5⟩ := P_list hw (ltr k) h (by omega)
  obtain ⟨S2, T2, b1, b2, b3, b4, b5⟩ := P_number a3 hw (by omega) h0 h1
  obtain ⟨S3, T3, c1, c2, c3, c4, c5⟩ := P_sign (x := 59) b3 hw (by omega)
  refine ⟨S3, T3, ?_, ?_, c3.mono (by omega), (a4.tr b4).tr c4, (a5.tr b5).tr c5⟩
  · unfold f_X4_line
    rw [C_lt hk, a1, Option.bind_some, b1, Option.bind_some, c1]
    rfl
  · rw [e, ← M_word1 hr hi] at a2
    unfold f_X8_writesOne
    cases hx : f_X8_writesWord T i with
    | none => rw [hx] at a2; cases a2
    | some U =>
      rw [hx, Option.bind_some] at a2
      rw [Option.bind_some, a2, Option.bind_some, b2, Option.bind_some, c2]
      rfl
theorem P_seek {S T : Mem} {w : Int} : ∃ S', f_X4_seek S w = some S' ∧ PS S' (wr T 0 15 0) w 0 ∧ FP S S' := by
  refine ⟨wr (wr (wr S 36 0 w) 36 1 0) 36 2 (-2), rfl, ⟨[], ?_, ?_, ?_, wr_eq _ _ _ _, fun i i0 i1 => ?_, Int.le_refl _⟩, fun k hk => by rw [wr_ne hk, wr_ne hk, wr_ne hk]⟩
  · rw [wr_idx (by decide), wr_idx (by decide), wr_eq]
  · rw [wr_idx (by decide), wr_eq]; rfl
  · rw [wr_eq, if_neg (fun z => by have := z.2; simp at this; omega)]
  · simp at i1; omega
theorem P_answer {S T : Mem} {w n : Int} (h : PS S T w n) (hw : -1 ≤ w ∧ w < 2147483648) (hn : n ≤ 600) : ∃ r, f_X4_answer S = some r ∧ f_X8_toldText T w = some r := by
  obtain ⟨l, a, b, c, d, e, f⟩ := h
  unfold f_X4_answer f_X8_toldText
  rw [a, b, c, d]
  by_cases h1 : w = -1
  · rw [if_pos (eqb_t h1), if_pos (eqb_t h1)]
    exact ⟨_, rfl, rfl⟩
  · have q := nq h1 (by omega) (by omega) (by omega) (by omega)
    rw [if_neg q, if_neg q]
    by_cases h2 : w < (l.length : Nat)
    · rw [if_pos (show 0 ≤ w ∧ w < (l.length : Nat) by omega), if_pos (ltb_t h2 (by omega) (by omega)), if_pos (by omega), e w (by omega) h2]
      exact ⟨_, rfl, rfl⟩
    · rw [if_neg (show ¬ (0 ≤ w ∧ w < (l.length : Nat)) by omega), if_neg (nl (by omega) (by omega) (by omega))]
      exact ⟨_, rfl, rfl⟩
