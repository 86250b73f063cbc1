/-! ===== words, written by both ===== -/
def sgs : List Int → Mem → Option Mem
  | [], S => some S
  | x :: l, S => (f_X4_sign S x).bind (sgs l)
def wrs : List Int → Mem → Option Mem
  | [], T => some T
  | x :: l, T => (f_X8_writes T x).bind (wrs l)
theorem P_list {w : Int} (hw : -1 ≤ w ∧ w < 2147483648) : ∀ (l : List Int) {S T : Mem} {n : Int}, PS S T w n → n + (l.length : Nat) ≤ 600 → ∃ S' T', sgs l S = some S' ∧ wrs l T = some T' ∧ PS S' T' w (n + (l.length : Nat)) ∧ FP S S' ∧ FM T T'
  | [], S, T, n, h, _ => ⟨S, T, rfl, rfl, h.mono (by show n ≤ n + ((0 : Nat) : Int); omega), FP.rf, FM.rf⟩
  | x :: l, S, T, n, h, hn => by
    rw [List.length_cons] at hn
    obtain ⟨S1, T1, a1, a2, a3, a4, a5⟩ := P_sign (x := x) h hw (by omega)
    obtain ⟨S2, T2, b1, b2, b3, b4, b5⟩ := P_list hw l a3 (by omega)
    refine ⟨S2, T2, ?_, ?_, b3.mono (by rw [List.length_cons]; omega), a4.tr b4, a5.tr b5⟩
    · show (f_X4_sign S x).bind (sgs l) = _
      rw [a1, Option.bind_some, b1]
    · show (f_X8_writes T x).bind (wrs l) = _
      rw [a2, Option.bind_some, b2]
theorem wrs_app (l l' : List Int) : ∀ T : Mem, wrs (l ++ l') T = (wrs l T).bind (wrs l') := by
  induction l with
  | nil => intro T; rfl
  | cons x l ih =>
    intro T
    show (f_X8_writes T x).bind (wrs (l ++ l')) = ((f_X8_writes T x).bind (wrs l)).bind (wrs l')
    cases f_X8_writes T x with
    | none => rfl
    | some U => exact ih U
theorem wrs_one (x : Int) (T : Mem) : wrs [x] T = f_X8_writes T x := by
  show (f_X8_writes T x).bind (wrs []) = _
  cases f_X8_writes T x <;> rfl
theorem C_lettersGo (k : Nat) (hk : sLen k < 100) : ∀ (m i : Nat) (S : Mem) (n : Nat), m + i = sLen k → m < n → lp (f_X4_letters_l2 k) n ((i : Int), S) = sgs ((List.range' i m).map (fun j : Nat => sChr k (j : Int))) S
  | 0, i, S, n, h, hn => by
    obtain ⟨n', rfl⟩ : ∃ n', n = n' + 1 := ⟨n - 1, by omega⟩
    unfold lp f_X4_letters_l2
    dsimp only
    rw [if_neg (nl (by omega) (by omega) (by omega))]
    rfl
  | m + 1, i, S, n, h, hn => by
    obtain ⟨n', rfl⟩ : ∃ n', n = n' + 1 := ⟨n - 1, by omega⟩
    have st : f_X4_letters_l2 k ((i : Int), S) = (f_X4_sign S (sChr k i)).bind fun S3 => some (.inl ((i : Int) + 1, S3)) := by
      unfold f_X4_letters_l2
      dsimp only
      rw [if_pos (ltb_t (by omega) (by omega) (by omega)), if_pos (by omega)]
    unfold lp
    rw [st, List.range'_succ, List.map_cons]
    show _ = (f_X4_sign S (sChr k i)).bind (sgs _)
    cases f_X4_sign S (sChr k i) with
    | none => rfl
    | some S3 =>
      show lp (f_X4_letters_l2 k) n' ((i : Int) + 1, S3) = _
      rw [show (i : Int) + 1 = ((i + 1 : Nat) : Int) by omega]
      exact C_lettersGo k hk m (i + 1) S3 n' (by omega) (by omega)
theorem C_letters (k : Nat) (hk : sLen k < 100) (S : Mem) : f_X4_letters S k = sgs ((List.range' 0 (sLen k)).map (fun j : Nat => sChr k (j : Int))) S := by
  unfold f_X4_letters
  rw [show ((0 : Int)) = ((0 : Nat) : Int) from rfl, C_lettersGo k hk (sLen k) 0 S FU (by omega) (by rw [FU_eq]; omega)]
  cases sgs ((List.range' 0 (sLen k)).map (fun j : Nat => sChr k (j : Int))) S <;> rfl
