/-! tampered. -/
def tc (A : Nat → Int) : Nat → Int
  | 0 => 0
  | i + 1 => if A i = 0 then tc A i else tc A i + 1
def tl (A : Nat → Int) : Nat → Int
  | 0 => -1
  | i + 1 => if A i = 0 then tl A i else (i : Int)
def tv (A : Nat → Int) : Nat → Int
  | 0 => 0
  | i + 1 => if A i = 0 then tv A i else A i
theorem tc_s (A : Nat → Int) (i : Nat) : tc A (i + 1) = if A i = 0 then tc A i else tc A i + 1 := rfl
theorem tl_s (A : Nat → Int) (i : Nat) : tl A (i + 1) = if A i = 0 then tl A i else (i : Int) := rfl
theorem tv_s (A : Nat → Int) (i : Nat) : tv A (i + 1) = if A i = 0 then tv A i else A i := rfl
theorem tc_i (A : Nat → Int) : ∀ i, (0 ≤ tc A i ∧ tc A i ≤ (i : Int)) ∧ ((tc A i = 0 ∧ tl A i = -1 ∧ tv A i = 0) ∨ (0 < tc A i ∧ ∃ b : Nat, b < i ∧ tl A i = (b : Int) ∧ tv A i = A b))
  | 0 => ⟨⟨Int.le_refl _, Int.le_refl _⟩, Or.inl ⟨rfl, rfl, rfl⟩⟩
  | i + 1 => by
    obtain ⟨h1, h2⟩ := tc_i A i
    rw [tc_s, tl_s, tv_s]
    by_cases h : A i = 0
    · rw [if_pos h, if_pos h, if_pos h]
      refine ⟨⟨h1.1, by omega⟩, ?_⟩
      rcases h2 with g | ⟨g, b, g1, g2, g3⟩
      · exact Or.inl g
      · exact Or.inr ⟨g, b, by omega, g2, g3⟩
    · rw [if_neg h, if_neg h, if_neg h]
      exact ⟨⟨by omega, by omega⟩, Or.inr ⟨by omega, i, by omega, rfl, rfl⟩⟩
def tw (M : aM) (i : Nat) : Int := 256 * M 3 i + M 3 (i + 1)
def tA (T : Nat → Int) (M : aM) (b : Nat) : Int := tw M (4 * b) - aOwes T b
def tB (T : Nat → Int) (M : aM) (b : Nat) : Int := tw M (4 * b + 2) - aGets T b
section TMP
variable {T : Nat → Int} {M : aM}
theorem tw_b {m : Nat} (hm : TP M m) {i : Nat} (hi : i + 1 < m) : 0 ≤ tw M i ∧ tw M i ≤ 65535 := by
  have h1 := hm.2.2.2 i (by omega)
  have h2 := hm.2.2.2 (i + 1) hi
  unfold tw
  omega
theorem s96 {m : Nat} (hm : TP M m) {i : Nat} (hi : i + 1 < m) : fnA 96 [.inr (some 2), .inl (i : Int)] M = some (some (.inl (tw M i)), M) := by
  have h1 := hm.2.2.2 i (by omega)
  have h2 := hm.2.2.2 (i + 1) hi
  have hm3 := hm.2.2.1
  have e1 : wr ((i : Int) + 1) = ((i + 1 : Nat) : Int) := by rw [wr_s (by omega) (by omega)]; rfl
  have e2 : wr (M 3 i * 256) = M 3 i * 256 := wr_s (by omega) (by omega)
  rw [E_96, tape_at hm (by omega), bI_s, e1, tape_at hm hi, bI_s, e2, wr_s (by omega) (by omega), show M 3 i * 256 + M 3 (i + 1) = tw M i by unfold tw; omega]
theorem s265 {m : Nat} {M' : aM} (h57 : M' 57 = M 57) (hm : TP M m) {i : Nat} (hi : i + 1 < m) : fnA 265 [.inr (some 53), .inl (i : Int)] M' = some (some (.inl (tw M i)), M') := by
  have h1 := hm.2.2.2 i (by omega)
  have h2 := hm.2.2.2 (i + 1) hi
  have hm3 := hm.2.2.1
  have e1 : wr ((i : Int) + 1) = ((i + 1 : Nat) : Int) := by rw [wr_s (by omega) (by omega)]; rfl
  have e2 : wr (256 * M 3 i) = 256 * M 3 i := wr_s (by omega) (by omega)
  rw [E_265, oct_at (by omega), bI_s, e1, oct_at (by omega), bI_s, h57, ← h1.1, ← h2.1, e2, wr_s (by omega) (by omega)]
  rfl
/-- what the class answers behind its loop -/
noncomputable def tmA (T : Nat → Int) (M : aM) (x : Int) : Int :=
  @ite _ (tc (tA T M) 8 = 0 ∧ tc (tB T M) 8 = 0) (Classical.propDecidable _) (-2)
  (@ite _ (tc (tA T M) 8 = 1 ∧ tc (tB T M) 8 = 1 ∧ tv (tA T M) 8 = tv (tB T M) 8 ∧ tl (tA T M) 8 ≠ tl (tB T M) 8 ∧ tb (ok T) (tl (tA T M) 8) ∧ tb (ok T) (tl (tB T M) 8) ∧ 0 ≤ T (8 + (8 * (tl (tA T M) 8).toNat + (tl (tB T M) 8).toNat)) + tv (tA T M) 8 ∧ T (8 + (8 * (tl (tA T M) 8).toNat + (tl (tB T M) 8).toNat)) + tv (tA T M) 8 ≤ 999) (Classical.propDecidable _)
    (if x = 0 then tl (tA T M) 8 else if x = 1 then tl (tB T M) 8 else T (8 + (8 * (tl (tA T M) 8).toNat + (tl (tB T M) 8).toNat)) + tv (tA T M) 8) (-3))
theorem s158 (hC : TC M 4 T) (hT : TI T) {m : Nat} (hm : TP M m) (h32 : 32 ≤ m) (x : Int) : fnA 158 [.inr (some 1), .inl x] M = some (some (.inl (tmA T M x)), M) := by
  rw [E_158]
  obtain ⟨s', hs, he⟩ := upR (fun i (s : (Int × Int × Int × Int × Int × Int) × aV × aV) => run 3 158 19 [.inr (some 1), .inl x, .inl s.1.1, .inl s.1.2.1, .inl s.1.2.2.1, .inl s.1.2.2.2.1, .inl s.1.2.2.2.2.1, .inl s.1.2.2.2.2.2, .inl i, s.2.1, s.2.2] [] M) (fun i s => s.1 = (tc (tA T M) i, tc (tB T M) i, tl (tA T M) i, tl (tB T M) i, tv (tA T M) i, tv (tB T M) i)) 8 (by decide) (fun i s hi hs => by
    obtain ⟨s, v9, v10⟩ := s
    dsimp only at hs ⊢
    subst hs
    have i0 : ¬ (8 : Int) ≤ (i : Int) := by omega
    have w4 : wr (4 * (i : Int)) = ((4 * i : Nat) : Int) := by rw [wr_s (by omega) (by omega)]; omega
    have w42 : wr (((4 * i : Nat) : Int) + 2) = ((4 * i + 2 : Nat) : Int) := by rw [wr_s (by omega) (by omega)]; rfl
    have bA := tw_b hm (i := 4 * i) (by omega)
    have bB := tw_b hm (i := 4 * i + 2) (by omega)
    have oA := aOwes_b hT hi
    have oB := aGets_b hT hi
    have cA := tc_i (tA T M) i
    have cB := tc_i (tB T M) i
    have wA : wr (tw M (4 * i) - aOwes T i) = tA T M i := wr_s (by omega) (by omega)
    have wB : wr (tw M (4 * i + 2) - aGets T i) = tB T M i := wr_s (by omega) (by omega)
    have w1 : wr (tc (tA T M) i + 1) = tc (tA T M) i + 1 := wr_s (by omega) (by omega)
    have w2 : wr (tc (tB T M) i + 1) = tc (tB T M) i + 1 := wr_s (by omega) (by omega)
    refine ⟨((tc (tA T M) (i + 1), tc (tB T M) (i + 1), tl (tA T M) (i + 1), tl (tB T M) (i + 1), tv (tA T M) (i + 1), tv (tB T M) (i + 1)), .inl (tA T M i), .inl (tB T M i)), ?_, rfl⟩
    dsimp only
    rw [B_158_19, if_neg i0, w4, s96 hm (by omega), bI_s, s121 (Or.inl rfl) hC hT hi, bI_s, wA, w1, tc_s, tl_s, tv_s]
    by_cases gA : tA T M i = 0
    · rw [if_pos gA, if_pos gA, if_pos gA, if_pos gA, B_158_65, w4, w42, s96 hm (by omega), bI_s, s122 (Or.inl rfl) hC hT hi, bI_s, wB, w2, tc_s, tl_s, tv_s]
      by_cases gB : tB T M i = 0
      · rw [if_pos gB, if_pos gB, if_pos gB, if_pos gB]
      · rw [if_neg gB, if_neg gB, if_neg gB, if_neg gB]
    · rw [if_neg gA, if_neg gA, if_neg gA, if_neg gA, B_158_65, w4, w42, s96 hm (by omega), bI_s, s122 (Or.inl rfl) hC hT hi, bI_s, wB, w2, tc_s, tl_s, tv_s]
      by_cases gB : tB T M i = 0
      · rw [if_pos gB, if_pos gB, if_pos gB, if_pos gB]
      · rw [if_neg gB, if_neg gB, if_neg gB, if_neg gB]) 8 0 ((0, 0, -1, -1, 0, 0), .inr none, .inr none) (by omega) rfl
  obtain ⟨s, v9, v10⟩ := s'
  dsimp only at hs
  subst hs
  refine Eq.trans he ?_
  dsimp only
  have key : run 3 158 123 [.inr (some 1), .inl x, .inl (tc (tA T M) 8), .inl (tc (tB T M) 8), .inl (tl (tA T M) 8), .inl (tl (tB T M) 8), .inl (tv (tA T M) 8), .inl (tv (tB T M) 8), .inl ((8 : Nat) : Int), v9, v10] [] M = some (some (.inl (@ite _ (tc (tA T M) 8 = 1 ∧ tc (tB T M) 8 = 1 ∧ tv (tA T M) 8 = tv (tB T M) 8 ∧ tl (tA T M) 8 ≠ tl (tB T M) 8 ∧ tb (ok T) (tl (tA T M) 8) ∧ tb (ok T) (tl (tB T M) 8) ∧ 0 ≤ T (8 + (8 * (tl (tA T M) 8).toNat + (tl (tB T M) 8).toNat)) + tv (tA T M) 8 ∧ T (8 + (8 * (tl (tA T M) 8).toNat + (tl (tB T M) 8).toNat)) + tv (tA T M) 8 ≤ 999) (Classical.propDecidable _) (if x = 0 then tl (tA T M) 8 else if x = 1 then tl (tB T M) 8 else T (8 + (8 * (tl (tA T M) 8).toNat + (tl (tB T M) 8).toNat)) + tv (tA T M) 8) (-3))), M) := by
    sorry
  sorry
end TMP
