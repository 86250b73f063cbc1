/-! ===== what is told of a run ===== -/
theorem prc_oc1 {B : Int → Int} {b i : Int} (h0 : 0 ≤ i) (h : i < hs (oc1 B) b) : prc (oc B) b i = prc (oc1 B) b i := by
  obtain ⟨t, h1, _⟩ := oc_pre B
  rw [h1, prc_l h0 h]
theorem atp_oc1 {B : Int → Int} {k : Int} (h0 : 0 ≤ k) (h : k < ((oc1 B).length : Nat)) : atp (oc B) k = atp (oc1 B) k := by
  obtain ⟨t, h1, _⟩ := oc_pre B
  rw [h1]
  exact (ow_l h0 h).2
theorem len_oc1 (B : Int → Int) : (oc1 B).length ≤ (oc B).length := by
  obtain ⟨t, h1, _⟩ := oc_pre B
  rw [h1, List.length_append]
  omega
theorem sumN_s (g : Int → Int) (n : Nat) : sumN g (n + 1) = sumN g n + g n := rfl
def hasP (o : Out) (p : Int) : Bool := o.any (fun x => decide (x.2 = p))
theorem hasP_iff {o : Out} {p : Int} : hasP o p = true ↔ ∃ x ∈ o, x.2 = p := by
  unfold hasP
  rw [List.any_eq_true]
  simp only [decide_eq_true_eq]
theorem hasP_of {n : Nat} {o : Out} {p : Int} (ho : Owd n o) : hasP o p = true ↔ ∃ c : Nat, c < n ∧ ∃ j : Nat, (j : Int) < hs o c ∧ prc o c j = p := by
  rw [hasP_iff]
  constructor
  · intro ⟨x, hx, hp⟩
    have hb := ho x hx
    have hm : x ∈ fil o x.1 := List.mem_filter.mpr ⟨hx, by simp⟩
    obtain ⟨j, hj, e⟩ := List.getElem_of_mem hm
    have ec : ((x.1.toNat : Nat) : Int) = x.1 := by omega
    refine ⟨x.1.toNat, by omega, j, ?_, ?_⟩
    · rw [ec]; unfold hs; omega
    · rw [ec]
      unfold prc
      rw [List.getD_eq_getElem?_getD, show (j : Int).toNat = j by omega, List.getElem?_eq_getElem hj, e]
      exact hp
  · intro ⟨c, hc, j, hj, hp⟩
    obtain ⟨x, hx, _, h2⟩ := prc_mem (o := o) (b := c) (i := j) (by omega) hj
    exact ⟨x, hx, by rw [h2, hp]⟩
theorem hasP_at {o : Out} {p : Int} : hasP o p = true ↔ ∃ j : Nat, j < o.length ∧ atp o j = p := by
  rw [hasP_iff]
  constructor
  · intro ⟨x, hx, hp⟩
    obtain ⟨j, hj, e⟩ := List.getElem_of_mem hx
    refine ⟨j, hj, ?_⟩
    unfold atp
    rw [List.getD_eq_getElem?_getD, show (j : Int).toNat = j by omega, List.getElem?_eq_getElem hj, e]
    exact hp
  · intro ⟨j, hj, hp⟩
    refine ⟨o[j], List.getElem_mem hj, ?_⟩
    unfold atp at hp
    rw [List.getD_eq_getElem?_getD, show (j : Int).toNat = j by omega, List.getElem?_eq_getElem hj] at hp
    exact hp
/-- runs of a sorted row against the values that occur -/
theorem runs_count (a : Int → Int) (e : Nat) : ∀ n : Nat, (∀ i j : Nat, i ≤ j → j < n → a i ≤ a j) → (∀ i : Nat, i < n → 0 ≤ a i ∧ a i < e) → ∀ g : Int → Int, (∀ p : Int, g p = 0 ∨ g p = 1) → (∀ p : Int, g p = 1 ↔ ∃ i : Nat, i < n ∧ a i = p) → sumN (fun i => if i = 0 ∨ a i ≠ a (i - 1) then 1 else 0) n = sumN g e
  | 0, _, _, g, g0, g1 => by
    rw [show sumN _ 0 = 0 from rfl]
    symm
    rw [sumN_congr (h := fun _ => 0) e (fun i _ => by
      rcases g0 i with h | h
      · exact h
      · obtain ⟨j, hj, _⟩ := (g1 i).mp h
        omega)]
    exact sumN_zero e
  | n + 1, hm, hb, g, g0, g1 => by
    let g' : Int → Int := fun p => if p = a n ∧ ¬ (0 < n ∧ a ((n : Int) - 1) = a n) then 0 else g p
    have hin : ∀ i : Nat, i < n → a i = a n → a ((n : Int) - 1) = a n := by
      intro i hi he
      have h1 := hm i (n - 1) (by omega) (by omega)
      have h2 := hm (n - 1) n (by omega) (by omega)
      rw [show ((n - 1 : Nat) : Int) = (n : Int) - 1 by omega] at h1 h2
      omega
    have ih := runs_count a e n (fun i j h1 h2 => hm i j h1 (by omega)) (fun i h => hb i (by omega)) g' (fun p => by
      show (if p = a n ∧ ¬ (0 < n ∧ a ((n : Int) - 1) = a n) then 0 else g p) = 0 ∨ (if p = a n ∧ ¬ (0 < n ∧ a ((n : Int) - 1) = a n) then 0 else g p) = 1
      by_cases hc : p = a n ∧ ¬ (0 < n ∧ a ((n : Int) - 1) = a n)
      · rw [if_pos hc]; exact Or.inl rfl
      · rw [if_neg hc]; exact g0 p) (fun p => by
      show (if p = a n ∧ ¬ (0 < n ∧ a ((n : Int) - 1) = a n) then 0 else g p) = 1 ↔ _
      by_cases hc : p = a n ∧ ¬ (0 < n ∧ a ((n : Int) - 1) = a n)
      · rw [if_pos hc]
        constructor
        · intro h; omega
        · intro ⟨i, hi, he⟩
          exact absurd ⟨by omega, hin i hi (by rw [he, hc.1])⟩ hc.2
      · rw [if_neg hc, g1]
        constructor
        · intro ⟨i, hi, he⟩
          by_cases hin' : i = n
          · rw [hin'] at he
            have h3 : 0 < n ∧ a ((n : Int) - 1) = a n := Classical.byContradiction (fun hx => hc ⟨he.symm, hx⟩)
            refine ⟨n - 1, by omega, ?_⟩
            rw [show ((n - 1 : Nat) : Int) = (n : Int) - 1 by omega, h3.2, he]
          · exact ⟨i, by omega, he⟩
        · intro ⟨i, hi, he⟩
          exact ⟨i, by omega, he⟩)
    have bn := hb n (by omega)
    have hu := sumN_upd (g := g') (g' := g) (c := (a n).toNat) e (by omega) (fun i hi hne => by
      show g i = if (i : Int) = a n ∧ ¬ (0 < n ∧ a ((n : Int) - 1) = a n) then 0 else g i
      rw [if_neg (by omega)])
    have ec : (((a n).toNat : Nat) : Int) = a n := by omega
    rw [ec] at hu
    have hg : g (a n) = 1 := (g1 (a n)).mpr ⟨n, by omega, rfl⟩
    rw [sumN_s, ih, hu, hg]
    show _ + (if ((n : Nat) : Int) = 0 ∨ a n ≠ a ((n : Int) - 1) then 1 else 0) = _ + (1 - (if a n = a n ∧ ¬ (0 < n ∧ a ((n : Int) - 1) = a n) then 0 else g (a n)))
    rw [hg]
    by_cases hc : 0 < n ∧ a ((n : Int) - 1) = a n
    · rw [if_neg (by omega), if_neg (fun z => z.2 hc)]
      omega
    · rw [if_pos (by omega), if_pos ⟨rfl, hc⟩]
      omega
def nP (B : Int → Int) : Int := sumN (fun p => if hasP (oc1 B) p = true then 1 else 0) (en B + 1).toNat
def nH (B : Int → Int) : Int := sumN (fun b => if 0 < hs (oc B) b then 1 else 0) (B 2).toNat
def tl (B : Int → Int) (w : Int) : Int := if w = 0 then en B else if w = 1 then ((oc B).length : Nat) else if w = 2 then bun B else if w = 3 then ((oc1 B).length : Nat) else if w = 4 then nH B else if w = 5 then bhad B else if w = 6 then bworth B (bset B) (B 0) else if w = 7 then nP B else if w = 8 then (if (oc B).length = 0 then -2 else atp (oc B) (((oc B).length : Nat) - 1)) else if w = 9 then (if (oc B).length = 0 then -2 else atp (oc B) 0) else -1
theorem C_clinchPrices {N : Int} {B : Int → Int} {S : Mem} {α : Nat} (hN : N ≤ 9) (hw : WF N B) (hD : DC S α B) : f_X0_clinchPrices S α = some (nP B) := by
  have l0 := len_oc1 B
  have l1 := oc_len hw
  have l2 := hw.2.1
  have eb := en_bnd hw
  have b1 := hw.2.2.1
  have hat : ∀ k : Int, 0 ≤ k → k < ((oc1 B).length : Nat) → S (α + 11) k = atp (oc1 B) k := fun k h1 h2 => by
    rw [← atp_oc1 h1 h2]
    exact (hD.2.1.2.2.2 k h1 (by omega)).2
  have hbn : ∀ k : Nat, k < (oc1 B).length → 0 ≤ atp (oc1 B) k ∧ atp (oc1 B) k ≤ en B := fun k hk => by
    have := Prd_outK (B := B) (ek B)
    obtain ⟨x, hx, hp⟩ := hasP_iff.mp ((hasP_at (p := atp (oc1 B) k)).mpr ⟨k, hk, rfl⟩)
    have h3 := this x hx
    unfold en
    omega
  unfold f_X0_clinchPrices
  rw [lp_sum (fun i => if i = 0 ∨ atp (oc1 B) i ≠ atp (oc1 B) (i - 1) then 1 else 0) (oc1 B).length (fun x i hi => by
    unfold f_X0_clinchPrices_l4
    dsimp only
    rw [hD.2.2.2.1, if_pos (ltb_t (by omega) (by omega) (by omega))]
    by_cases h0 : i = 0
    · subst h0
      rw [if_pos (show eqb ((0 : Nat) : Int) 0 = true from rfl), if_pos (show ((0 : Nat) : Int) = 0 ∨ _ from Or.inl rfl)]
      rfl
    · have b0 := hbn i hi
      have b2 := hbn (i - 1) (by omega)
      rw [show ((i - 1 : Nat) : Int) = (i : Int) - 1 by omega] at b2
      rw [if_neg (show ¬ eqb (i : Int) 0 = true by rw [eqb_f (by omega) (by omega) (by omega) (by omega) (by omega)]; decide), if_pos (by omega), if_pos (by omega), hat i (by omega) (by omega), hat (i - 1) (by omega) (by omega)]
      by_cases he : atp (oc1 B) i = atp (oc1 B) ((i : Int) - 1)
      · rw [if_pos (eqb_t he), if_neg (by omega), Int.add_zero]
        rfl
      · rw [if_neg (show ¬ eqb (atp (oc1 B) i) (atp (oc1 B) ((i : Int) - 1)) = true by rw [eqb_f he (by omega) (by omega) (by omega) (by omega)]; decide), if_pos (Or.inr he)]
        rfl) (fun x => by
    unfold f_X0_clinchPrices_l4
    dsimp only
    rw [hD.2.2.2.1, if_neg (by rw [ltb_f (by omega) (by omega) (by omega)]; decide)]) (by omega)]
  rw [runs_count (atp (oc1 B)) (en B + 1).toNat (oc1 B).length (fun i j h1 h2 => atp_mono (Srt_outK B _) (by omega) (by omega) (by omega)) (fun i hi => by have := hbn i hi; omega) (fun p => if hasP (oc1 B) p = true then 1 else 0) (fun p => by by_cases h : hasP (oc1 B) p = true <;> simp [h]) (fun p => by
    rw [← hasP_at]
    by_cases h : hasP (oc1 B) p = true <;> simp [h])]
  rfl
theorem C_biddersWithUnits {N : Int} {B : Int → Int} {S : Mem} {α : Nat} (hN : N ≤ 9) (hw : WF N B) (hD : DC S α B) : f_X0_biddersWithUnits S α = some (nH B) := by
  have n0 := hw.2.2.2.2.1
  have n1 := hw.2.2.2.2.2.1
  unfold f_X0_biddersWithUnits
  rw [lp_sum (fun b => if 0 < hs (oc B) b then 1 else 0) (B 2).toNat (fun x i hi => by
    have o := oc_used hw (b := i) (by omega) (by omega)
    have c := bused_bnd hw (b := i) (by omega) (by omega)
    unfold f_X0_biddersWithUnits_l4
    dsimp only
    rw [hD.1.2.2.1, if_pos (ltb_t (by omega) (by omega) (by omega)), if_pos (by omega), hD.units (b := i) (by omega) (by omega)]
    by_cases h : 0 < hs (oc B) i
    · rw [if_pos (ltb_t h (by omega) (by omega)), if_pos h]
      rfl
    · rw [if_neg (show ¬ ltb 0 (hs (oc B) i) = true by rw [ltb_f (by omega) (by omega) (by omega)]; decide), if_neg h, Int.add_zero]
      rfl) (fun x => by
    unfold f_X0_biddersWithUnits_l4
    dsimp only
    rw [hD.1.2.2.1, if_neg (by rw [ltb_f (by omega) (by omega) (by omega)]; decide)]) (by omega)]
  rfl
theorem C_tell {N : Int} {B : Int → Int} {S : Mem} {α : Nat} {w : Int} (hN : N ≤ 9) (hw : WF N B) (hD : DC S α B) (hr : R32 w) : ∃ S', f_X0_tell S α w = some (tl B w, S') ∧ FrP S S' (α + 1) := by
  have l1 := oc_len hw
  have l2 := hw.2.1
  have l3 := hw.1
  have eb := en_bnd hw
  obtain ⟨w1, w2⟩ := hr
  have ne : ∀ v : Int, -1000 ≤ v → v ≤ 1000 → w ≠ v → ¬ eqb w v = true := fun v x1 x2 x3 => by rw [eqb_f x3 w1 w2 (by omega) (by omega)]; decide
  have hF : FrP S S (α + 1) := fun _ _ _ => rfl
  have h11 : S α 2 = ((oc B).length : Nat) := hD.2.1.1
  unfold f_X0_tell
  by_cases h9 : 0 ≤ w ∧ w ≤ 9
  · rcases (show w = 0 ∨ w = 1 ∨ w = 2 ∨ w = 3 ∨ w = 4 ∨ w = 5 ∨ w = 6 ∨ w = 7 ∨ w = 8 ∨ w = 9 by omega) with e | e | e | e | e | e | e | e | e | e <;> subst e
    · rw [if_pos e00, hD.2.2.1]
      exact ⟨S, rfl, hF⟩
    · rw [if_neg n10, if_pos n11, h11]
      exact ⟨S, rfl, hF⟩
    · rw [if_neg n20, if_neg n21, if_pos n22]
      unfold f_X0_unsold
      rw [h11, hD.1.1]
      exact ⟨S, rfl, hF⟩
    · rw [if_neg n30, if_neg n31, if_neg n32, if_pos n33, hD.2.2.2.1]
      exact ⟨S, rfl, hF⟩
    · rw [if_neg n40, if_neg n41, if_neg n42, if_neg n43, if_pos n44, C_biddersWithUnits hN hw hD]
      exact ⟨S, rfl, hF⟩
    · rw [if_neg n50, if_neg n51, if_neg n52, if_neg n53, if_neg n54, if_pos n55, C_valueOfAllUnits hN hw hD]
      exact ⟨S, rfl, hF⟩
    · rw [if_neg n60, if_neg n61, if_neg n62, if_neg n63, if_neg n64, if_neg n65, if_pos n66]
      unfold f_X1_everyone
      rw [hD.1.2.2.1, hD.1.1]
      simp only [Option.bind_some]
      obtain ⟨S', g1, g2⟩ := C_worthTo (set := shlb 1 (B 2) - 1) (units := B 0) hN hw hD.1 (by omega) (by omega)
      rw [g1]
      exact ⟨S', rfl, g2⟩
    · rw [if_neg n70, if_neg n71, if_neg n72, if_neg n73, if_neg n74, if_neg n75, if_neg n76, if_pos n77, C_clinchPrices hN hw hD]
      exact ⟨S, rfl, hF⟩
    · rw [if_neg n80, if_neg n81, if_neg n82, if_neg n83, if_neg n84, if_neg n85, if_neg n86, if_neg n87, if_pos n88, h11]
      show ∃ S', _ = some ((if (oc B).length = 0 then -2 else atp (oc B) (((oc B).length : Nat) - 1)), S') ∧ _
      by_cases h0 : (oc B).length = 0
      · rw [if_pos (eqb_t (by omega)), if_pos h0]
        exact ⟨S, rfl, hF⟩
      · rw [if_neg (show ¬ eqb (((oc B).length : Nat) : Int) 0 = true by rw [eqb_f (by omega) (by omega) (by omega) (by omega) (by omega)]; decide), if_neg h0, if_pos (by omega), (hD.2.1.2.2.2 _ (by omega) (by omega)).2]
        exact ⟨S, rfl, hF⟩
    · rw [if_neg n90, if_neg n91, if_neg n92, if_neg n93, if_neg n94, if_neg n95, if_neg n96, if_neg n97, if_neg n98, if_pos n99, h11]
      show ∃ S', _ = some ((if (oc B).length = 0 then -2 else atp (oc B) 0), S') ∧ _
      by_cases h0 : (oc B).length = 0
      · rw [if_pos (eqb_t (by omega)), if_pos h0]
        exact ⟨S, rfl, hF⟩
      · rw [if_neg (show ¬ eqb (((oc B).length : Nat) : Int) 0 = true by rw [eqb_f (by omega) (by omega) (by omega) (by omega) (by omega)]; decide), if_neg h0, if_pos (by omega), (hD.2.1.2.2.2 0 (by omega) (by omega)).2]
        exact ⟨S, rfl, hF⟩
  · rw [if_neg (ne 0 (by decide) (by decide) (by omega)), if_neg (ne 1 (by decide) (by decide) (by omega)), if_neg (ne 2 (by decide) (by decide) (by omega)), if_neg (ne 3 (by decide) (by decide) (by omega)), if_neg (ne 4 (by decide) (by decide) (by omega)), if_neg (ne 5 (by decide) (by decide) (by omega)), if_neg (ne 6 (by decide) (by decide) (by omega)), if_neg (ne 7 (by decide) (by decide) (by omega)), if_neg (ne 8 (by decide) (by decide) (by omega)), if_neg (ne 9 (by decide) (by decide) (by omega))]
    refine ⟨S, ?_, hF⟩
    unfold tl
    rw [if_neg (by omega), if_neg (by omega), if_neg (by omega), if_neg (by omega), if_neg (by omega), if_neg (by omega), if_neg (by omega), if_neg (by omega), if_neg (by omega), if_neg (by omega)]
/-- a flag raised along a loop -/
def flg (r : Int) (P : Prop) : Prop := (r = 0 ∨ r = 1) ∧ (r = 1 ↔ P)
theorem M_clinchedPrices {N : Int} {T : Mem} {B : Int → Int} (hN : N ≤ 9) (hw : WF N B) (hD : DM T B) : f_X8_clinchedPrices T = some (nP B) := by
  have n0 := hw.2.2.2.2.1
  have n1 := hw.2.2.2.2.2.1
  have eb := en_bnd hw
  have b1 := hw.2.2.1
  have hlt : ∀ i : Nat, i < (B 2).toNat → ltb (i : Int) (T 1 2) = true := fun i hi => by
    rw [hD.1]
    exact ltb_t (by omega) (by omega) (by omega)
  have hnl : ¬ ltb (((B 2).toNat : Nat) : Int) (T 1 2) = true := by
    rw [hD.1, ltb_f (by omega) (by omega) (by omega)]; decide
  have inner : ∀ (y1 : Int) (p : Int) (b : Nat) (f : Int), (b : Int) < B 2 → 0 ≤ p → p ≤ 99 → (f = 0 ∨ f = 1) → ∃ r, lp (f_X8_clinchedPrices_l29 T y1 p b) FU (f, 0) = some r ∧ flg r (f = 1 ∨ ∃ j : Nat, (j : Int) < hs (oc1 B) b ∧ prc (oc1 B) b j = p) := by
    intro y1 p b f hb hp1 hp2 hf
    have o := oc_used hw (b := b) (by omega) hb
    have c := bused_bnd hw (b := b) (by omega) hb
    have o1 := hs_nn (oc1 B) b
    have tc := hD.2.2.2 b (by omega) hb
    have := lp_rel (step := f_X8_clinchedPrices_l29 T y1 p b) (fun i (t : Int × Int) => t.2 = i ∧ flg t.1 (f = 1 ∨ ∃ j : Nat, j < i ∧ prc (oc1 B) b j = p)) (fun r => flg r (f = 1 ∨ ∃ j : Nat, (j : Int) < hs (oc1 B) b ∧ prc (oc1 B) b j = p)) (hs (oc1 B) b).toNat (by
      intro i t hi ⟨e1, e2, e3⟩
      obtain ⟨t1, t2⟩ := t
      dsimp only at e1 e2 e3 ⊢
      subst e1
      have pb := prc_bnd (b := b) (i := i) hw (by omega) (by omega)
      have pr := hD.price (b := b) (i := i) (by omega) hb (by omega) (by omega)
      rw [prc_oc1 (by omega) (by omega)] at pr pb
      unfold f_X8_clinchedPrices_l29
      dsimp only
      rw [if_pos (by omega), tc, if_pos (ltb_t (by omega) (by omega) (by omega))]
      rcases e2 with z | z
      · subst z
        rw [if_pos e00, if_pos (by omega)]
        by_cases hq : prc (oc1 B) b i = p
        · rw [if_pos (show eqb (T 7 (8 * (b : Int) + (i : Int))) p = true by rw [pr]; exact eqb_t hq)]
          exact ⟨(1, (i : Int) + 1), rfl, by dsimp only; omega, Or.inr rfl, fun _ => Or.inr ⟨i, by omega, hq⟩, fun _ => rfl⟩
        · rw [if_neg (show ¬ eqb (T 7 (8 * (b : Int) + (i : Int))) p = true by rw [pr, eqb_f hq (by omega) (by omega) (by omega) (by omega)]; decide)]
          refine ⟨(0, (i : Int) + 1), rfl, by dsimp only; omega, Or.inl rfl, fun h => by dsimp only at h; omega, fun h => ?_⟩
          rcases h with h | ⟨j, hj, h⟩
          · exact e3.mpr (Or.inl h)
          · by_cases hji : j = i
            · subst hji; exact absurd h hq
            · exact e3.mpr (Or.inr ⟨j, by omega, h⟩)
      · subst z
        rw [if_neg e10]
        refine ⟨(1, (i : Int) + 1), rfl, by dsimp only; omega, Or.inr rfl, fun _ => ?_, fun _ => rfl⟩
        rcases e3.mp rfl with h | ⟨j, hj, h⟩
        · exact Or.inl h
        · exact Or.inr ⟨j, by omega, h⟩) (by
      intro t ⟨e1, e2, e3⟩
      obtain ⟨t1, t2⟩ := t
      dsimp only at e1 e2 e3 ⊢
      subst e1
      refine ⟨t1, ?_, e2, e3.trans ⟨fun h => ?_, fun h => ?_⟩⟩
      · unfold f_X8_clinchedPrices_l29
        dsimp only
        rw [if_pos (by omega), tc, if_neg (by rw [ltb_f (by omega) (by omega) (by omega)]; decide)]
      · rcases h with h | ⟨j, hj, h⟩
        · exact Or.inl h
        · exact Or.inr ⟨j, by omega, h⟩
      · rcases h with h | ⟨j, hj, h⟩
        · exact Or.inl h
        · exact Or.inr ⟨j, by omega, h⟩) (n := FU) (by rw [FU_eq]; omega) (s := (f, 0)) ⟨rfl, hf, ⟨fun h => Or.inl h, fun h => by
          rcases h with h | ⟨j, hj, h⟩
          · exact h
          · omega⟩⟩
    exact this
  have middle : ∀ (y1 : Int) (p : Int), 0 ≤ p → p ≤ 99 → ∃ r, lp (f_X8_clinchedPrices_l17 T y1 p) FU (0, 0) = some r ∧ flg r (hasP (oc1 B) p = true) := by
    intro y1 p hp1 hp2
    have ho : Owd (((B 2).toNat : Nat) : Int) (oc1 B) := by
      rw [show (((B 2).toNat : Nat) : Int) = B 2 by omega]
      exact Owd_outK n0 _
    have := lp_rel (step := f_X8_clinchedPrices_l17 T y1 p) (fun i (t : Int × Int) => t.2 = i ∧ flg t.1 (∃ c : Nat, c < i ∧ ∃ j : Nat, (j : Int) < hs (oc1 B) c ∧ prc (oc1 B) c j = p)) (fun r => flg r (hasP (oc1 B) p = true)) (B 2).toNat (by
      intro i t hi ⟨e1, e2, e3⟩
      obtain ⟨t1, t2⟩ := t
      dsimp only at e1 e2 e3 ⊢
      subst e1
      obtain ⟨r, g1, g2, g3⟩ := inner y1 p i t1 (by omega) hp1 hp2 e2
      unfold f_X8_clinchedPrices_l17
      dsimp only
      rw [M_many]
      simp only [Option.bind_some]
      rw [if_pos (hlt i hi), g1]
      refine ⟨(r, (i : Int) + 1), rfl, rfl, g2, g3.trans ⟨fun h => ?_, fun h => ?_⟩⟩
      · rcases h with h | h
        · obtain ⟨c, hc, h⟩ := e3.mp h
          exact ⟨c, Nat.lt_succ_of_lt hc, h⟩
        · exact ⟨i, Nat.lt_succ_self i, h⟩
      · obtain ⟨c, hc, h⟩ := h
        by_cases hci : c = i
        · subst hci; exact Or.inr h
        · exact Or.inl (e3.mpr ⟨c, Nat.lt_of_le_of_ne (Nat.le_of_lt_succ hc) hci, h⟩)) (by
      intro t ⟨e1, e2, e3⟩
      obtain ⟨t1, t2⟩ := t
      dsimp only at e1 e2 e3 ⊢
      subst e1
      refine ⟨t1, ?_, e2, e3.trans (hasP_of ho).symm⟩
      unfold f_X8_clinchedPrices_l17
      dsimp only
      rw [M_many]
      simp only [Option.bind_some]
      rw [if_neg hnl]) (n := FU) (by rw [FU_eq]; omega) (s := (0, 0)) ⟨rfl, Or.inl rfl, ⟨fun h => by dsimp only at h; omega, fun ⟨c, hc, _⟩ => absurd hc (Nat.not_lt_zero c)⟩⟩
    exact this
  unfold f_X8_clinchedPrices
  rw [lp_sum (fun p => if hasP (oc1 B) p = true then 1 else 0) (en B + 1).toNat (fun x i hi => by
    obtain ⟨r, g1, g2, g3⟩ := middle x i (by omega) (by omega)
    unfold f_X8_clinchedPrices_l4
    dsimp only
    rw [hD.2.2.1, if_neg (by rw [ltb_f (by omega) (by omega) (by omega)]; decide), g1]
    simp only [Option.bind_some]
    rcases g2 with z | z
    · subst z
      rw [if_pos e00, if_neg (fun h => by have := g3.mpr h; omega), Int.add_zero]
      rfl
    · subst z
      rw [if_neg e10, if_pos (g3.mp rfl)]
      rfl) (fun x => by
    unfold f_X8_clinchedPrices_l4
    dsimp only
    rw [hD.2.2.1, if_pos (ltb_t (by omega) (by omega) (by omega))]) (by omega)]
  rfl
theorem M_told {N : Int} {T : Mem} {w : Int} (hN : N ≤ 9) (hw : WF N (T 1)) (h9 : 0 ≤ w ∧ w ≤ 9) : ∃ T' T1, f_X8_told T w = some (tl (T 1) w, T') ∧ FrR T T1 ∧ FrT T1 T' := by
  obtain ⟨T1, t1, t2, t3⟩ := DM.of hN hw
  have n0 := hw.2.2.2.2.1
  have n1 := hw.2.2.2.2.2.1
  have l1 := oc_len hw
  have l2 := hw.2.1
  have l3 := hw.1
  have hF : FrT T1 T1 := fun _ _ => rfl
  have h11 : T1 0 11 = ((oc (T 1)).length : Nat) := t2.2.1.1
  have hcnt : lp (f_X8_told_l11 T1 w) FU (0, 0, 0) = some ((((oc1 (T 1)).length : Nat) : Int), nH (T 1)) := by
    have := lp_rel (step := f_X8_told_l11 T1 w) (fun i (t : Int × Int × Int) => t = (sumN (fun b => hs (oc1 (T 1)) b) i, sumN (fun b => if 0 < hs (oc (T 1)) b then 1 else 0) i, (i : Int))) (fun r => r = (sumN (fun b => hs (oc1 (T 1)) b) (T 1 2).toNat, nH (T 1))) (T 1 2).toNat (by
      intro i t hi e
      subst e
      have o := oc_used hw (b := i) (by omega) (by omega)
      have c := bused_bnd hw (b := i) (by omega) (by omega)
      unfold f_X8_told_l11
      dsimp only
      rw [M_many]
      simp only [Option.bind_some]
      rw [if_pos (show ltb (i : Int) (T1 1 2) = true by rw [t2.1]; exact ltb_t (by omega) (by omega) (by omega)), if_pos (by omega), t2.units (b := i) (by omega) (by omega), t2.2.2.2 i (by omega) (by omega)]
      by_cases h : 0 < hs (oc (T 1)) i
      · rw [if_pos (ltb_t h (by omega) (by omega))]
        refine ⟨_, rfl, ?_⟩
        rw [sumN_s, sumN_s, if_pos h]
        rfl
      · rw [if_neg (show ¬ ltb 0 (hs (oc (T 1)) i) = true by rw [ltb_f (by omega) (by omega) (by omega)]; decide)]
        refine ⟨_, rfl, ?_⟩
        rw [sumN_s, sumN_s, if_neg h, Int.add_zero]
        rfl) (by
      intro t e
      subst e
      unfold f_X8_told_l11
      dsimp only
      rw [M_many]
      simp only [Option.bind_some]
      rw [if_neg (show ¬ ltb (((T 1 2).toNat : Nat) : Int) (T1 1 2) = true by rw [t2.1, ltb_f (by omega) (by omega) (by omega)]; decide)]
      exact ⟨_, rfl, rfl⟩) (n := FU) (by rw [FU_eq]; omega) (s := (0, 0, 0)) rfl
    obtain ⟨r, g1, g2⟩ := this
    rw [g1, g2, len_sum (n := (T 1 2).toNat) (oc1 (T 1)) (by
      rw [show (((T 1 2).toNat : Nat) : Int) = T 1 2 by omega]
      exact Owd_outK n0 _)]
  unfold f_X8_told
  rw [t1]
  simp only [Option.bind_some]
  rw [hcnt]
  simp only [Option.bind_some]
  rcases (show w = 0 ∨ w = 1 ∨ w = 2 ∨ w = 3 ∨ w = 4 ∨ w = 5 ∨ w = 6 ∨ w = 7 ∨ w = 8 ∨ w = 9 by omega) with e | e | e | e | e | e | e | e | e | e <;> subst e
  · rw [if_pos e00, t2.2.2.1]
    exact ⟨T1, T1, rfl, t3, hF⟩
  · rw [if_neg n10, if_pos n11, h11]
    exact ⟨T1, T1, rfl, t3, hF⟩
  · rw [if_neg n20, if_neg n21, if_pos n22]
    unfold f_X8_unsold
    rw [if_pos (by decide), h11, t2.1]
    exact ⟨T1, T1, rfl, t3, hF⟩
  · rw [if_neg n30, if_neg n31, if_neg n32, if_pos n33]
    exact ⟨T1, T1, rfl, t3, hF⟩
  · rw [if_neg n40, if_neg n41, if_neg n42, if_neg n43, if_pos n44]
    exact ⟨T1, T1, rfl, t3, hF⟩
  · rw [if_neg n50, if_neg n51, if_neg n52, if_neg n53, if_neg n54, if_pos n55, M_hadBut hN hw t2 (by decide) (by decide), hadBut_all]
    exact ⟨T1, T1, rfl, t3, hF⟩
  · rw [if_neg n60, if_neg n61, if_neg n62, if_neg n63, if_neg n64, if_neg n65, if_pos n66]
    unfold f_X8_everybody
    rw [M_many]
    simp only [Option.bind_some]
    obtain ⟨T', g1, g2⟩ := M_worthTo (T := T1) (set := shlb 1 (T1 1 2) - 1) (units := T1 1 0) hN (by rw [t2.1]; exact hw) (by rw [t2.1]; omega) (by rw [t2.1]; omega)
    rw [if_pos (by decide), g1, t2.1]
    exact ⟨T', T1, rfl, t3, g2⟩
  · rw [if_neg n70, if_neg n71, if_neg n72, if_neg n73, if_neg n74, if_neg n75, if_neg n76, if_pos n77, M_clinchedPrices hN hw t2]
    exact ⟨T1, T1, rfl, t3, hF⟩
  · rw [if_neg n80, if_neg n81, if_neg n82, if_neg n83, if_neg n84, if_neg n85, if_neg n86, if_neg n87, if_pos n88, h11]
    show ∃ T' T2, _ = some ((if (oc (T 1)).length = 0 then -2 else atp (oc (T 1)) (((oc (T 1)).length : Nat) - 1)), T') ∧ _
    by_cases h0 : (oc (T 1)).length = 0
    · rw [if_pos (eqb_t (by omega)), if_pos h0]
      exact ⟨T1, T1, rfl, t3, hF⟩
    · rw [if_neg (show ¬ eqb (((oc (T 1)).length : Nat) : Int) 0 = true by rw [eqb_f (by omega) (by omega) (by omega) (by omega) (by omega)]; decide), if_neg h0, if_pos (by omega), (t2.2.1.2.2.2 _ (by omega) (by omega)).2]
      exact ⟨T1, T1, rfl, t3, hF⟩
  · rw [if_neg n90, if_neg n91, if_neg n92, if_neg n93, if_neg n94, if_neg n95, if_neg n96, if_neg n97, if_neg n98, h11]
    show ∃ T' T2, _ = some ((if (oc (T 1)).length = 0 then -2 else atp (oc (T 1)) 0), T') ∧ _
    by_cases h0 : (oc (T 1)).length = 0
    · rw [if_pos (eqb_t (by omega)), if_pos h0]
      exact ⟨T1, T1, rfl, t3, hF⟩
    · rw [if_neg (show ¬ eqb (((oc (T 1)).length : Nat) : Int) 0 = true by rw [eqb_f (by omega) (by omega) (by omega) (by omega) (by omega)]; decide), if_neg h0, if_pos (by omega), (t2.2.1.2.2.2 0 (by omega) (by omega)).2]
      exact ⟨T1, T1, rfl, t3, hF⟩
theorem Q_result {S T : Mem} {w : Int} (h : Rel S T) (hr : R32 w) : ∃ r S' T', f_X7_result S w = some (r, S') ∧ f_X8_result T w = some (r, T') ∧ Rel S' T' := by
  obtain ⟨S1, s1, s2, s3⟩ := Q_now h
  obtain ⟨S', u1, u2⟩ := C_tell (by decide) h.1 s3 hr
  have hR : Rel S' T := s2.ag (AgC.fp (Or.inl rfl) u2) AgM.rf
  have hc : f_X7_result S w = some (tl (T 1) w, S') := by
    unfold f_X7_result
    rw [s1]
    simp only [Option.bind_some]
    rw [u1]
    rfl
  rw [hc]
  unfold f_X8_result
  rw [M_isResult hr]
  simp only [Option.bind_some]
  by_cases h9 : 0 ≤ w ∧ w ≤ 9
  · obtain ⟨T', T1, t1, t2, t3⟩ := M_told (by decide) h.1 h9
    rw [if_pos h9, if_neg e10, t1]
    exact ⟨_, _, _, rfl, rfl, hR.ag AgC.rf ((AgM.fr t2).tr (AgM.ft t3))⟩
  · rw [if_neg h9, if_pos e00]
    refine ⟨_, _, _, rfl, ?_, hR⟩
    unfold tl
    rw [if_neg (by omega), if_neg (by omega), if_neg (by omega), if_neg (by omega), if_neg (by omega), if_neg (by omega), if_neg (by omega), if_neg (by omega), if_neg (by omega), if_neg (by omega)]
