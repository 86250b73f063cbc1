/-! ===== the reference's words ===== -/
def S13 : Mem := fun _ i => wTab.getD i.toNat 0
theorem wT_bnd : ∀ i : Nat, i < 44 → 0 ≤ wTab.getD i 0 ∧ wTab.getD i 0 ≤ 127 := by decide +kernel
theorem RW.at {T : Mem} (h : RW T) {i : Int} (h0 : 0 ≤ i) (h1 : i < 44) : T 13 i = wTab.getD i.toNat 0 := by
  have := h i.toNat (by omega)
  rw [show ((i.toNat : Nat) : Int) = i by omega] at this
  exact this
theorem wF_step {T : Mem} (h : RW T) : f_X8_wordFrom_l4 T = f_X8_wordFrom_l4 S13 := by
  funext t
  unfold f_X8_wordFrom_l4
  by_cases h1 : ltb 0 t.2 = true
  · rw [if_pos h1, if_pos h1]
    by_cases h2 : (0 : Int) ≤ t.1 ∧ t.1 < 44
    · rw [if_pos h2, if_pos h2, h.at h2.1 h2.2]
      rfl
    · rw [if_neg h2, if_neg h2]
  · rw [if_neg h1, if_neg h1]
def wAt : List Nat := [0, 7, 15, 22, 26, 30, 34, 39]
def wLn : List Nat := [6, 7, 6, 3, 3, 3, 4, 4]
theorem wF_all : ∀ i : Nat, i < 8 → lp (f_X8_wordFrom_l4 S13) 50 (0, (i : Int)) = some ((wAt.getD i 0 : Nat) : Int) := by decide +kernel
theorem lp_more {σ ρ : Type} {step : σ → Option (σ ⊕ ρ)} : ∀ (n m : Nat) (s : σ) (r : ρ), lp step n s = some r → n ≤ m → lp step m s = some r
  | 0, _, _, _, h, _ => by cases h
  | n + 1, m, s, r, h, hm => by
    obtain ⟨m', rfl⟩ : ∃ m', m = m' + 1 := ⟨m - 1, by omega⟩
    unfold lp at h ⊢
    cases hs : step s with
    | none => rw [hs] at h; cases h
    | some x =>
      rw [hs] at h
      cases x with
      | inl s' => exact lp_more n m' s' r h (by omega)
      | inr r' => exact h
theorem M_wordFrom {T : Mem} (h : RW T) {i : Nat} (hi : i < 8) : f_X8_wordFrom T i = some ((wAt.getD i 0 : Nat) : Int) := by
  unfold f_X8_wordFrom
  rw [wF_step h, lp_more 50 FU _ _ (wF_all i hi) (by rw [FU_eq]; omega)]
  rfl
theorem RW.wr {T T' : Mem} {x : Int} (h : RW T) (g : f_X8_writes T x = some T') : RW T' := by
  unfold f_X8_writes at g
  split at g
  · dsimp only [wrk] at g
    cases g
    unfold RW
    rw [wr_ne (by decide), wr_ne (by decide)]
    exact h
  · cases g
theorem M_wordGo : ∀ (m i : Nat) (T : Mem) (n : Nat), RW T → (∀ j, j < m → wTab.getD (i + j) 0 ≠ 0) → wTab.getD (i + m) 0 = 0 → i + m < 44 → m < n → lp (f_X8_writesWord_l6) n ((i : Int), T) = wrs ((List.range' i m).map (fun j : Nat => wTab.getD j 0)) T
  | 0, i, T, n, h, _, hz, hl, hn => by
    obtain ⟨n', rfl⟩ : ∃ n', n = n' + 1 := ⟨n - 1, by omega⟩
    have e : T 13 (i : Int) = 0 := by rw [h i (by omega)]; exact hz
    unfold lp f_X8_writesWord_l6
    dsimp only
    rw [if_pos (by omega), if_pos (show eqb (T 13 (i : Int)) 0 = true by rw [e]; decide)]
    rfl
  | m + 1, i, T, n, h, hne, hz, hl, hn => by
    obtain ⟨n', rfl⟩ : ∃ n', n = n' + 1 := ⟨n - 1, by omega⟩
    have e : T 13 (i : Int) = wTab.getD i 0 := h i (by omega)
    have ne := hne 0 (by omega)
    have wb := wT_bnd i (by omega)
    have st : f_X8_writesWord_l6 ((i : Int), T) = (f_X8_writes T (wTab.getD i 0)).bind fun S5 => some (.inl ((i : Int) + 1, S5)) := by
      unfold f_X8_writesWord_l6
      dsimp only
      rw [if_pos (by omega), if_neg (show ¬ eqb (T 13 (i : Int)) 0 = true by rw [e]; exact nq ne (by omega) (by omega) (by omega) (by omega)), e]
    unfold lp
    rw [st, List.range'_succ, List.map_cons]
    show _ = (f_X8_writes T (wTab.getD i 0)).bind (wrs _)
    cases hg : f_X8_writes T (wTab.getD i 0) with
    | none => rfl
    | some U =>
      show lp f_X8_writesWord_l6 n' ((i : Int) + 1, U) = _
      rw [show (i : Int) + 1 = ((i + 1 : Nat) : Int) by omega]
      exact M_wordGo m (i + 1) U n' (h.wr hg) (fun j hj => by have := hne (j + 1) (by omega); rw [show i + (j + 1) = i + 1 + j by omega] at this; exact this) (by rw [show i + 1 + m = i + (m + 1) by omega]; exact hz) (by omega) (by omega)
def wrd (i : Nat) : List Int := (List.range' (wAt.getD i 0) (wLn.getD i 0)).map (fun j : Nat => wTab.getD j 0)
theorem wrd_ok : ∀ i : Nat, i < 8 → (∀ j, j < wLn.getD i 0 → wTab.getD (wAt.getD i 0 + j) 0 ≠ 0) ∧ wTab.getD (wAt.getD i 0 + wLn.getD i 0) 0 = 0 ∧ wAt.getD i 0 + wLn.getD i 0 < 44 := by decide +kernel
theorem M_writesWord {T : Mem} (h : RW T) {i : Nat} (hi : i < 8) : f_X8_writesWord T i = wrs (wrd i) T := by
  obtain ⟨o1, o2, o3⟩ := wrd_ok i hi
  unfold f_X8_writesWord
  rw [M_wordFrom h hi, Option.bind_some, M_wordGo _ _ T FU h o1 o2 o3 (by rw [FU_eq]; omega)]
  unfold wrd
  cases wrs ((List.range' (wAt.getD i 0) (wLn.getD i 0)).map (fun j : Nat => wTab.getD j 0)) T <;> rfl
