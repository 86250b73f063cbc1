/-! ===== the system and the reference hold the same ===== -/
def R32 (x : Int) : Prop := -2147483648 ≤ x ∧ x < 2147483648
/-- the record's lines: the latest first; the latest last -/
def RLw (L : Int → Int) (ln : Int) (r : Int → Int) : Prop := ln = r 93 ∧ 0 ≤ ln ∧ ln ≤ 8 ∧ ∀ k j, 0 ≤ k → k < ln → 0 ≤ j → j < 4 → L (4 * k + j) = r (94 + 4 * (ln - 1 - k) + j)
def SN (c r : Int → Int) : Prop := WF 8 r ∧ c 0 = r 0 ∧ c 1 = r 1 ∧ c 2 = r 2 ∧ (∀ b, 0 ≤ b → b < r 2 → c (3 + b) = bcnt r b ∧ c (12 + b) = bcap r b) ∧ (∀ b i, 0 ≤ b → b < r 2 → 0 ≤ i → i < bcnt r b → c (21 + (b * 8 + i)) = bval r b i) ∧ RLw (fun j => c (94 + j)) (c 93) r
def slot (nx i : Int) : Int := if i < nx then nx - 1 - i else nx + 11 - i
def RH (S T : Mem) : Prop := S 34 0 = T 0 5 ∧ 0 ≤ T 0 5 ∧ T 0 5 ≤ 12 ∧ 0 ≤ S 34 1 ∧ S 34 1 < 12 ∧ ∀ i, 0 ≤ i → i < T 0 5 → SN (fun j => S 35 (126 * slot (S 34 1) i + j)) (fun j => T 4 (126 * (T 0 5 - 1 - i) + j))
def sgn (x : Int) : Int := if x < 128 then x else x - 256
def RT (S T : Mem) : Prop := S 2 0 = T 0 17 ∧ 0 ≤ T 0 17 ∧ T 0 17 ≤ 500 ∧ ∀ i, 0 ≤ i → i < T 0 17 → 0 ≤ T 12 i ∧ T 12 i ≤ 255 ∧ S 3 i = sgn (T 12 i)
def wTab : List Int := [115, 117, 112, 112, 108, 121, 0, 114, 101, 115, 101, 114, 118, 101, 0, 98, 105, 100, 100, 101, 114, 0, 99, 97, 112, 0, 101, 110, 100, 0, 104, 97, 115, 0, 112, 97, 121, 115, 0, 108, 101, 102, 116, 0]
def RW (T : Mem) : Prop := ∀ i : Nat, i < 44 → T 13 i = wTab.getD i 0
def Rel (S T : Mem) : Prop := WF 8 (T 1) ∧ RB S 5 (T 1) ∧ ((S 0 9 = 0 ∧ DC S 4 (T 1)) ∨ S 0 9 = 1) ∧ RLw (S 33) (S 32 0) (T 1) ∧ RH S T ∧ RT S T ∧ RW T
def AgC (S S' : Mem) : Prop := ∀ k : Nat, (k = 0 ∨ (2 ≤ k ∧ k ≤ 8) ∨ (11 ≤ k ∧ k ≤ 15) ∨ (32 ≤ k ∧ k ≤ 35)) → S' k = S k
def AgM (T T' : Mem) : Prop := T' 1 = T 1 ∧ T' 4 = T 4 ∧ T' 12 = T 12 ∧ T' 13 = T 13 ∧ T' 0 5 = T 0 5 ∧ T' 0 17 = T 0 17
theorem AgC.tr {S S1 S2 : Mem} (h : AgC S S1) (g : AgC S1 S2) : AgC S S2 := fun k a => (g k a).trans (h k a)
theorem AgC.rf {S : Mem} : AgC S S := fun _ _ => rfl
theorem AgM.rf {S : Mem} : AgM S S := ⟨rfl, rfl, rfl, rfl, rfl, rfl⟩
theorem AgM.tr {S S1 S2 : Mem} (h : AgM S S1) (g : AgM S1 S2) : AgM S S2 := ⟨g.1.trans h.1, g.2.1.trans h.2.1, g.2.2.1.trans h.2.2.1, g.2.2.2.1.trans h.2.2.2.1, g.2.2.2.2.1.trans h.2.2.2.2.1, g.2.2.2.2.2.trans h.2.2.2.2.2⟩
theorem AgC.fp {S S' : Mem} {q : Nat} (hq : q = 5 ∨ q = 19) (h : FrP S S' q) : AgC S S' := fun k a => h k (by omega) (by omega)
theorem AgC.fc {S S' : Mem} (h : FrC S S' 18) : AgC S S' := fun k a => h.1 k (by omega) (by omega) (by omega) (by omega) (by omega) (by omega) (by omega)
theorem AgM.fr {T T' : Mem} (h : FrR T T') : AgM T T' := ⟨h.row, h.1 4 (by decide) (by decide) (by decide) (by decide) (by decide) (by decide), h.1 12 (by decide) (by decide) (by decide) (by decide) (by decide) (by decide), h.1 13 (by decide) (by decide) (by decide) (by decide) (by decide) (by decide), h.2 5 (by decide) (by decide), h.2 17 (by decide) (by decide)⟩
theorem AgM.ft {T T' : Mem} (h : FrT T T') : AgM T T' := ⟨h.row, h 4 (by decide), h 12 (by decide), h 13 (by decide), by rw [h 0 (by decide)], by rw [h 0 (by decide)]⟩
theorem DC.ag {S S' : Mem} {B : Int → Int} (h : DC S 4 B) (g : AgC S S') : DC S' 4 B := by
  obtain ⟨a1, a2, a3, a4, a5⟩ := h
  refine ⟨a1.fr (g _ (by omega)) (g _ (by omega)) (g _ (by omega)) (g _ (by omega)), a2.fr (by rw [g 4 (by omega)]) (g _ (by omega)) (g _ (by omega)) (g _ (by omega)) (g _ (by omega)) (g _ (by omega)), by rw [g 4 (by omega)]; exact a3, by rw [g 4 (by omega)]; exact a4, fun b h1 h2 => by rw [g (4 + 8) (by omega)]; exact a5 b h1 h2⟩
theorem Rel.ag {S S' T T' : Mem} (h : Rel S T) (g : AgC S S') (k : AgM T T') : Rel S' T' := by
  obtain ⟨a1, a2, a3, a4, a5, a6, a7⟩ := h
  obtain ⟨k1, k4, k12, k13, k5, k17⟩ := k
  refine ⟨by rw [k1]; exact a1, ?_, ?_, ?_, ?_, ?_, ?_⟩
  · rw [k1]
    exact a2.fr (g _ (by omega)) (g _ (by omega)) (g _ (by omega)) (g _ (by omega))
  · rw [k1, g 0 (by omega)]
    rcases a3 with ⟨x, y⟩ | x
    · exact Or.inl ⟨x, y.ag g⟩
    · exact Or.inr x
  · rw [k1, g 33 (by omega), g 32 (by omega)]; exact a4
  · unfold RH
    rw [k5, k4, g 34 (by omega), g 35 (by omega)]; exact a5
  · unfold RT
    rw [k17, k12, g 2 (by omega), g 3 (by omega)]; exact a6
  · unfold RW
    rw [k13]; exact a7
theorem Q_now {S T : Mem} (h : Rel S T) : ∃ S', f_X7_now S = some S' ∧ Rel S' T ∧ DC S' 4 (T 1) := by
  obtain ⟨a1, a2, a3, a4, a5, a6, a7⟩ := h
  unfold f_X7_now
  rcases a3 with ⟨x, y⟩ | x
  · refine ⟨S, ?_, ⟨a1, a2, Or.inl ⟨x, y⟩, a4, a5, a6, a7⟩, y⟩
    rw [if_pos (eqb_t x)]
    rfl
  · obtain ⟨S', g1, g2, g3⟩ := DC.of (S := S) (α := 4) (by decide) a1 a2
    have hD : DC (wr S' 0 9 0) 4 (T 1) := by
      obtain ⟨b1, b2, b3, b4, b5⟩ := g2
      exact ⟨b1.fr (wr_ne (by decide)) (wr_ne (by decide)) (wr_ne (by decide)) (wr_ne (by decide)), b2.fr (wr_cell (by decide)) (wr_ne (by decide)) (wr_ne (by decide)) (wr_ne (by decide)) (wr_ne (by decide)) (wr_ne (by decide)), by rw [wr_cell (by decide)]; exact b3, by rw [wr_cell (by decide)]; exact b4, fun b h1 h2 => by rw [wr_cell (by decide)]; exact b5 b h1 h2⟩
    have hc : ∀ k : Nat, k = 2 ∨ k = 3 ∨ (32 ≤ k ∧ k ≤ 35) → wr S' 0 9 0 k = S k := fun k hk => by
      rw [wr_ne (by omega)]
      exact g3.1 k (by omega) (by omega) (by omega) (by omega) (by omega) (by omega) (by omega)
    refine ⟨wr S' 0 9 0, ?_, ⟨a1, hD.1, Or.inl ⟨wr_eq _ _ _ _, hD⟩, ?_, ?_, ?_, a7⟩, hD⟩
    · rw [if_neg (show ¬ eqb (S 0 9) 0 = true by rw [x]; decide), g1]
      rfl
    · rw [hc 33 (by omega), hc 32 (by omega)]; exact a4
    · unfold RH
      rw [hc 34 (by omega), hc 35 (by omega)]; exact a5
    · unfold RT
      rw [hc 2 (by omega), hc 3 (by omega)]; exact a6
theorem Q_runs {S T : Mem} (h : Rel S T) : ∃ T', f_X8_runs T = some T' ∧ DM T' (T 1) ∧ Rel S T' := by
  obtain ⟨T', g1, g2, g3⟩ := DM.of (T := T) (by decide) h.1
  exact ⟨T', g1, g2, h.ag AgC.rf (AgM.fr g3)⟩
/-! ===== what is asked first ===== -/
theorem C_has {B : Int → Int} {S : Mem} {q : Nat} {a : Int} (hR : RB S q B) (ha : R32 a) (n0 : 0 ≤ B 2) (n1 : B 2 ≤ 9) : f_X1_has S q a = some (if 0 ≤ a ∧ a < B 2 then 1 else 0) := by
  unfold f_X1_has
  obtain ⟨h1, h2⟩ := ha
  rw [hR.2.2.1]
  by_cases h : a < 0
  · rw [if_pos (ltb_t h h1 (by omega)), if_neg (by omega)]
  · rw [if_neg (by rw [ltb_f (by omega) (by omega) h2]; decide)]
    by_cases g : a < B 2
    · rw [if_pos (ltb_t g h1 (by omega)), if_pos (by omega)]
    · rw [if_neg (by rw [ltb_f (by omega) (by omega) h2]; decide), if_neg (by omega)]
theorem M_isBidder {T : Mem} {a : Int} (ha : R32 a) (n0 : 0 ≤ T 1 2) (n1 : T 1 2 ≤ 9) : f_X8_isBidder T a = some (if 0 ≤ a ∧ a < T 1 2 then 1 else 0) := by
  unfold f_X8_isBidder
  obtain ⟨h1, h2⟩ := ha
  rw [M_many]
  simp only [Option.bind_some]
  rw [M_in h1 h2 (by omega) (by omega) (by omega) (by omega)]
  simp only [Option.bind_some]
  by_cases h : 0 ≤ a ∧ a < T 1 2
  · rw [if_pos (show 0 ≤ a ∧ a ≤ T 1 2 - 1 by omega), if_pos h, if_pos (by omega)]
  · rw [if_neg (show ¬ (0 ≤ a ∧ a ≤ T 1 2 - 1) by omega), if_neg h, if_pos (by omega)]
theorem C_isKind {S : Mem} {a : Int} (ha : R32 a) : f_X7_isKind S a = some (if 0 ≤ a ∧ a ≤ 3 then 1 else 0) := by
  unfold f_X7_isKind
  obtain ⟨h1, h2⟩ := ha
  by_cases h : a < 0
  · rw [if_pos (ltb_t h h1 (by omega)), if_neg (by omega)]
  · rw [if_neg (by rw [ltb_f (by omega) (by omega) h2]; decide)]
    by_cases g : 3 < a
    · rw [if_pos (ltb_t g (by omega) h2), if_neg (by omega)]
    · rw [if_neg (by rw [ltb_f (by omega) (by omega) (by omega)]; decide), if_pos (by omega)]
theorem C_isPrice {S : Mem} {a : Int} (ha : R32 a) : f_X7_isPrice S a = some (if 0 ≤ a ∧ a ≤ 99 then 1 else 0) := by
  unfold f_X7_isPrice
  obtain ⟨h1, h2⟩ := ha
  by_cases h : a < 0
  · rw [if_pos (ltb_t h h1 (by omega)), if_neg (by omega)]
  · rw [if_neg (by rw [ltb_f (by omega) (by omega) h2]; decide)]
    by_cases g : 99 < a
    · rw [if_pos (ltb_t g (by omega) h2), if_neg (by omega)]
    · rw [if_neg (by rw [ltb_f (by omega) (by omega) (by omega)]; decide), if_pos (by omega)]
theorem C_isSupply {S : Mem} {a : Int} (ha : R32 a) : f_X7_isSupply S a = some (if 1 ≤ a ∧ a ≤ 30 then 1 else 0) := by
  unfold f_X7_isSupply
  obtain ⟨h1, h2⟩ := ha
  by_cases h : a < 1
  · rw [if_pos (ltb_t h h1 (by omega)), if_neg (by omega)]
  · rw [if_neg (by rw [ltb_f (by omega) (by omega) h2]; decide)]
    by_cases g : 30 < a
    · rw [if_pos (ltb_t g (by omega) h2), if_neg (by omega)]
    · rw [if_neg (by rw [ltb_f (by omega) (by omega) (by omega)]; decide), if_pos (by omega)]
theorem M_is {T : Mem} {a lo hi : Int} (ha : R32 a) (hl : R32 lo) (hh : R32 hi) : ((f_X8_in T a lo hi).bind fun r1 => if r1 = 0 ∨ r1 = 1 then some r1 else none) = some (if lo ≤ a ∧ a ≤ hi then 1 else 0) := by
  rw [M_in ha.1 ha.2 hl.1 hl.2 hh.1 hh.2]
  simp only [Option.bind_some]
  rw [if_pos (by split <;> omega)]
theorem M_isKind {T : Mem} {a : Int} (ha : R32 a) : f_X8_isKind T a = some (if 0 ≤ a ∧ a ≤ 3 then 1 else 0) := M_is ha ⟨by decide, by decide⟩ ⟨by decide, by decide⟩
theorem M_isPrice {T : Mem} {a : Int} (ha : R32 a) : f_X8_isPrice T a = some (if 0 ≤ a ∧ a ≤ 99 then 1 else 0) := M_is ha ⟨by decide, by decide⟩ ⟨by decide, by decide⟩
theorem M_isResult {T : Mem} {a : Int} (ha : R32 a) : f_X8_isResult T a = some (if 0 ≤ a ∧ a ≤ 9 then 1 else 0) := M_is ha ⟨by decide, by decide⟩ ⟨by decide, by decide⟩
theorem M_inL {T : Mem} {a lo hi : Int} (ha : R32 a) (hl : -1000000 ≤ lo ∧ lo ≤ 1000000) (hh : -1000000 ≤ hi ∧ hi ≤ 1000000) : f_X8_in T a lo hi = some (if lo ≤ a ∧ a ≤ hi then 1 else 0) := M_in ha.1 ha.2 (by omega) (by omega) (by omega) (by omega)
theorem e10 : ¬ eqb 1 0 = true := by decide
theorem e00 : eqb 0 0 = true := by decide
/-- which bidder, on both sides -/
theorem Q_has {S T : Mem} {a : Int} (h : Rel S T) (ha : R32 a) : f_X1_has S 5 a = some (if 0 ≤ a ∧ a < T 1 2 then 1 else 0) ∧ f_X8_isBidder T a = some (if 0 ≤ a ∧ a < T 1 2 then 1 else 0) := by
  have n0 := h.1.2.2.2.2.1
  have n1 := h.1.2.2.2.2.2.1
  exact ⟨C_has h.2.1 ha n0 (by omega), M_isBidder ha n0 (by omega)⟩
theorem Q_valueOf {S T : Mem} {a i : Int} (h : Rel S T) (ha : R32 a) (hi : R32 i) : ∃ r, f_X7_valueOf S a i = some r ∧ f_X8_valueOf T a i = some r := by
  have hb := Q_has h ha
  have n1 := h.1.2.2.2.2.2.1
  unfold f_X7_valueOf f_X8_valueOf f_X1_hasValue f_X8_isValue
  rw [hb.1, hb.2]
  simp only [Option.bind_some]
  by_cases hh : 0 ≤ a ∧ a < T 1 2
  · rw [if_pos hh, if_neg e10, if_neg e10, M_valuesOf hh.1 (by omega)]
    simp only [Option.bind_some]
    have c := h.1.2.2.2.2.2.2.1 a hh.1 hh.2
    rw [M_in hi.1 hi.2 (by omega) (by omega) (by omega) (by omega)]
    simp only [Option.bind_some]
    by_cases h3 : i < 0
    · refine ⟨-1, ?_, ?_⟩
      · rw [if_pos (ltb_t h3 hi.1 (by omega))]; rfl
      · rw [if_neg (show ¬ (0 ≤ i ∧ i ≤ bcnt (T 1) a - 1) by omega)]; rfl
    · rw [if_neg (by rw [ltb_f (by omega) (by omega) hi.2]; decide), if_pos (by omega), h.2.1.2.2.2.2.1 a hh.1 hh.2]
      by_cases h4 : i < bcnt (T 1) a
      · refine ⟨bval (T 1) a i, ?_, ?_⟩
        · rw [if_pos (ltb_t h4 (by omega) (by omega))]
          simp only [Option.bind_some]
          rw [if_neg e10, C_valueAt (by decide) h.1 h.2.1 hh.1 hh.2 (by omega) h4]
          rfl
        · rw [if_pos (show 0 ≤ i ∧ i ≤ bcnt (T 1) a - 1 by omega), if_neg e10]
          simp only [Option.bind_some]
          rw [if_neg e10, M_valueAt hh.1 (by omega) (by omega) (by omega)]
          rfl
      · refine ⟨-1, ?_, ?_⟩
        · rw [if_neg (by rw [ltb_f (by omega) (by omega) hi.2]; decide)]; rfl
        · rw [if_neg (show ¬ (0 ≤ i ∧ i ≤ bcnt (T 1) a - 1) by omega)]; rfl
  · refine ⟨-1, ?_, ?_⟩
    · rw [if_neg hh]; rfl
    · rw [if_neg hh]; rfl
/-- the prices of one bidder, on both sides -/
theorem DC.price {N : Int} {S : Mem} {α : Nat} {B : Int → Int} {b i : Int} (hw : WF N B) (h : DC S α B) (h1 : 0 ≤ b) (h2 : b < B 2) (h3 : 0 ≤ i) (h4 : i < hs (oc B) b) (hN : N ≤ 9) : f_X0_unitPrice S α b i = some (prc (oc B) b i) := by
  have n1 := hw.2.2.2.2.2.1
  have a := oc_used hw h1 h2
  have c := bused_bnd hw h1 h2
  have e2 := h.2.1.2.2.1 b i h1 (by rw [h.1.2.2.1]; exact h2) h3 h4
  unfold f_X0_unitPrice
  rw [if_pos (by omega), show b * 8 + i = 8 * b + i by omega, e2]
theorem DC.units {S : Mem} {α : Nat} {B : Int → Int} {b : Int} (h : DC S α B) (h1 : 0 ≤ b) (h2 : b < B 2) : S (α + 7) b = hs (oc B) b := h.2.1.2.1 b h1 (by rw [h.1.2.2.1]; exact h2)
theorem DM.units {T : Mem} {B : Int → Int} {b : Int} (h : DM T B) (h1 : 0 ≤ b) (h2 : b < B 2) : T 5 b = hs (oc B) b := h.2.1.2.1 b h1 (by rw [h.1]; exact h2)
theorem DM.price {T : Mem} {B : Int → Int} {b i : Int} (h : DM T B) (h1 : 0 ≤ b) (h2 : b < B 2) (h3 : 0 ≤ i) (h4 : i < hs (oc B) b) : T 7 (8 * b + i) = prc (oc B) b i := h.2.1.2.2.1 b i h1 (by rw [h.1]; exact h2) h3 h4
theorem Q_unit {S T : Mem} {a i : Int} (h : Rel S T) (ha : R32 a) (hi : R32 i) : ∃ r S' T', f_X7_unit S a i = some (r, S') ∧ f_X8_unit T a i = some (r, T') ∧ Rel S' T' := by
  have hb := Q_has h ha
  have n1 := h.1.2.2.2.2.2.1
  unfold f_X7_unit f_X8_unit
  rw [hb.1, hb.2]
  simp only [Option.bind_some]
  by_cases hh : 0 ≤ a ∧ a < T 1 2
  · rw [if_pos hh, if_neg e10, if_neg e10]
    by_cases h3 : i < 0
    · rw [if_pos (ltb_t h3 hi.1 (by omega)), if_pos (ltb_t h3 hi.1 (by omega))]
      exact ⟨_, _, _, rfl, rfl, h⟩
    · rw [if_neg (by rw [ltb_f (by omega) (by omega) hi.2]; decide), if_neg (by rw [ltb_f (by omega) (by omega) hi.2]; decide)]
      obtain ⟨S', s1, s2, s3⟩ := Q_now h
      obtain ⟨T', t1, t2, t3⟩ := Q_runs s2
      rw [s1, t1]
      simp only [Option.bind_some]
      have o := oc_used h.1 hh.1 hh.2
      have c := bused_bnd h.1 hh.1 hh.2
      have h9 : 0 ≤ a ∧ a < 9 := by omega
      have su : S' 11 a = hs (oc (T 1)) a := s3.units hh.1 hh.2
      have tu : T' 5 a = hs (oc (T 1)) a := t2.units hh.1 hh.2
      rw [if_pos h9, if_pos h9, su, tu]
      by_cases h4 : i < hs (oc (T 1)) a
      · rw [if_pos (ltb_t h4 (by omega) (by omega)), if_pos (ltb_t h4 (by omega) (by omega)), s3.price h.1 hh.1 hh.2 (by omega) h4 (by decide), if_pos (by omega), t2.price hh.1 hh.2 (by omega) h4]
        exact ⟨_, _, _, rfl, rfl, t3⟩
      · rw [if_neg (show ¬ ltb i (hs (oc (T 1)) a) = true by rw [ltb_f (by omega) (by omega) hi.2]; decide), if_neg (show ¬ ltb i (hs (oc (T 1)) a) = true by rw [ltb_f (by omega) (by omega) hi.2]; decide)]
        exact ⟨_, _, _, rfl, rfl, t3⟩
  · rw [if_neg hh]
    exact ⟨_, _, _, rfl, rfl, h⟩
theorem Q_pays {S T : Mem} {a k : Int} (h : Rel S T) (ha : R32 a) (hk : R32 k) : ∃ r S' T', f_X7_pays S a k = some (r, S') ∧ f_X8_pays T a k = some (r, T') ∧ Rel S' T' := by
  have hb := Q_has h ha
  unfold f_X7_pays f_X8_pays
  rw [hb.1, hb.2]
  simp only [Option.bind_some]
  by_cases hh : 0 ≤ a ∧ a < T 1 2
  · rw [if_pos hh, if_neg e10, if_neg e10, C_isKind hk, M_isKind hk]
    simp only [Option.bind_some]
    by_cases h3 : 0 ≤ k ∧ k ≤ 3
    · rw [if_pos h3, if_neg e10, if_neg e10]
      obtain ⟨S', s1, s2, s3⟩ := Q_now h
      obtain ⟨T', t1, t2, t3⟩ := Q_runs s2
      obtain ⟨S2, u1, u2⟩ := C_payment (by decide) h.1 s3 hh.1 hh.2 h3.1 h3.2
      obtain ⟨T2, v1, v2⟩ := M_paysOf (by decide) h.1 t2 hh.1 hh.2 h3.1 h3.2
      rw [s1, t1]
      simp only [Option.bind_some]
      rw [u1, v1]
      exact ⟨_, _, _, rfl, rfl, t3.ag (AgC.fp (Or.inl rfl) u2) (AgM.ft v2)⟩
    · rw [if_neg h3]
      exact ⟨_, _, _, rfl, rfl, h⟩
  · rw [if_neg hh]
    exact ⟨_, _, _, rfl, rfl, h⟩
theorem Q_gain {S T : Mem} {a k : Int} (h : Rel S T) (ha : R32 a) (hk : R32 k) : ∃ r S' T', f_X7_gain S a k = some (r, S') ∧ f_X8_gain T a k = some (r, T') ∧ Rel S' T' := by
  have hb := Q_has h ha
  unfold f_X7_gain f_X8_gain
  rw [hb.1, hb.2]
  simp only [Option.bind_some]
  by_cases hh : 0 ≤ a ∧ a < T 1 2
  · rw [if_pos hh, if_neg e10, if_neg e10, C_isKind hk, M_isKind hk]
    simp only [Option.bind_some]
    by_cases h3 : 0 ≤ k ∧ k ≤ 3
    · rw [if_pos h3, if_neg e10, if_neg e10]
      obtain ⟨S', s1, s2, s3⟩ := Q_now h
      obtain ⟨T', t1, t2, t3⟩ := Q_runs s2
      obtain ⟨S2, u1, u2⟩ := C_gainOf (by decide) h.1 s3 hh.1 hh.2 h3.1 h3.2
      obtain ⟨T2, v1, v2⟩ := M_gainOf (by decide) h.1 t2 hh.1 hh.2 h3.1 h3.2
      rw [s1, t1]
      simp only [Option.bind_some]
      rw [u1, v1]
      exact ⟨_, _, _, rfl, rfl, t3.ag (AgC.fp (Or.inl rfl) u2) (AgM.ft v2)⟩
    · rw [if_neg h3]
      exact ⟨_, _, _, rfl, rfl, h⟩
  · rw [if_neg hh]
    exact ⟨_, _, _, rfl, rfl, h⟩
theorem Q_paid {S T : Mem} {k : Int} (h : Rel S T) (hk : R32 k) : ∃ r S' T', f_X7_paid S k = some (r, S') ∧ f_X8_paid T k = some (r, T') ∧ Rel S' T' := by
  unfold f_X7_paid f_X8_paid
  rw [C_isKind hk, M_isKind hk]
  simp only [Option.bind_some]
  by_cases h3 : 0 ≤ k ∧ k ≤ 3
  · rw [if_pos h3, if_neg e10, if_neg e10]
    obtain ⟨S', s1, s2, s3⟩ := Q_now h
    obtain ⟨T', t1, t2, t3⟩ := Q_runs s2
    obtain ⟨S2, u1, u2⟩ := C_paidByAll (by decide) h.1 s3 h3.1 h3.2
    obtain ⟨T2, v1, v2⟩ := M_paidAll (by decide) h.1 t2 h3.1 h3.2
    rw [s1, t1]
    simp only [Option.bind_some]
    rw [u1, v1]
    exact ⟨_, _, _, rfl, rfl, t3.ag (AgC.fp (Or.inl rfl) u2) (AgM.ft v2)⟩
  · rw [if_neg h3]
    exact ⟨_, _, _, rfl, rfl, h⟩
theorem Q_wanted {S T : Mem} {p : Int} (h : Rel S T) (hp : R32 p) : ∃ r, f_X7_wanted S p = some r ∧ f_X8_wanted T p = some r := by
  unfold f_X7_wanted f_X8_wanted
  rw [C_isPrice hp, M_isPrice hp]
  simp only [Option.bind_some]
  by_cases h3 : 0 ≤ p ∧ p ≤ 99
  · rw [if_pos h3, if_neg e10, if_neg e10, C_wantsOfAll (by decide) h.1 h.2.1 (by omega) h3.2, M_wantedAt (by decide) h.1 (by omega) h3.2]
    exact ⟨_, rfl, rfl⟩
  · rw [if_neg h3]
    exact ⟨_, rfl, rfl⟩
