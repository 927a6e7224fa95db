/-! tampered. -/
def tc (A : Nat → Int) : Nat → Int
  | 0 => 0
  | i + 1 => if A i = 0 then tc A i else tc A i + 1
def tl (A : Nat → Int) : Nat → Int
  | 0 => -1
  | i + 1 => if A i = 0 then tl A i else (i : Int)
def tv (A : Nat → Int) : Nat → Int
  | 0 => 0
  | i + 1 => if A i = 0 then tv A i else A i
theorem tc_s (A : Nat → Int) (i : Nat) : tc A (i + 1) = if A i = 0 then tc A i else tc A i + 1 := rfl
theorem tl_s (A : Nat → Int) (i : Nat) : tl A (i + 1) = if A i = 0 then tl A i else (i : Int) := rfl
theorem tv_s (A : Nat → Int) (i : Nat) : tv A (i + 1) = if A i = 0 then tv A i else A i := rfl
theorem tc_i (A : Nat → Int) : ∀ i, (0 ≤ tc A i ∧ tc A i ≤ (i : Int)) ∧ ((tc A i = 0 ∧ tl A i = -1 ∧ tv A i = 0) ∨ (0 < tc A i ∧ ∃ b : Nat, b < i ∧ tl A i = (b : Int) ∧ tv A i = A b))
  | 0 => ⟨⟨Int.le_refl _, Int.le_refl _⟩, Or.inl ⟨rfl, rfl, rfl⟩⟩
  | i + 1 => by
    obtain ⟨h1, h2⟩ := tc_i A i
    rw [tc_s, tl_s, tv_s]
    by_cases h : A i = 0
    · rw [if_pos h, if_pos h, if_pos h]
      refine ⟨⟨h1.1, by omega⟩, ?_⟩
      rcases h2 with g | ⟨g, b, g1, g2, g3⟩
      · exact Or.inl g
      · exact Or.inr ⟨g, b, by omega, g2, g3⟩
    · rw [if_neg h, if_neg h, if_neg h]
      exact ⟨⟨by omega, by omega⟩, Or.inr ⟨by omega, i, by omega, rfl, rfl⟩⟩
def tw (M : aM) (i : Nat) : Int := 256 * M 3 i + M 3 (i + 1)
def tA (T : Nat → Int) (M : aM) (b : Nat) : Int := tw M (4 * b) - aOwes T b
def tB (T : Nat → Int) (M : aM) (b : Nat) : Int := tw M (4 * b + 2) - aGets T b
section TMP
variable {T : Nat → Int} {M : aM}
theorem tw_b {m : Nat} (hm : TP M m) {i : Nat} (hi : i + 1 < m) : 0 ≤ tw M i ∧ tw M i ≤ 65535 := by
  have h1 := hm.2.2.2 i (by omega)
  have h2 := hm.2.2.2 (i + 1) hi
  unfold tw
  omega
theorem s96 {m : Nat} (hm : TP M m) {i : Nat} (hi : i + 1 < m) : fnA 96 [.inr (some 2), .inl (i : Int)] M = some (some (.inl (tw M i)), M) := by
  have h1 := hm.2.2.2 i (by omega)
  have h2 := hm.2.2.2 (i + 1) hi
  have hm3 := hm.2.2.1
  have e1 : wr ((i : Int) + 1) = ((i + 1 : Nat) : Int) := by rw [wr_s (by omega) (by omega)]; rfl
  have e2 : wr (M 3 i * 256) = M 3 i * 256 := wr_s (by omega) (by omega)
  rw [E_96, tape_at hm (by omega), bI_s, e1, tape_at hm hi, bI_s, e2, wr_s (by omega) (by omega), show M 3 i * 256 + M 3 (i + 1) = tw M i by unfold tw; omega]
theorem s265 {m : Nat} {M' : aM} (h57 : M' 57 = M 57) (hm : TP M m) {i : Nat} (hi : i + 1 < m) : fnA 265 [.inr (some 53), .inl (i : Int)] M' = some (some (.inl (tw M i)), M') := by
  have h1 := hm.2.2.2 i (by omega)
  have h2 := hm.2.2.2 (i + 1) hi
  have hm3 := hm.2.2.1
  have e1 : wr ((i : Int) + 1) = ((i + 1 : Nat) : Int) := by rw [wr_s (by omega) (by omega)]; rfl
  have e2 : wr (256 * M 3 i) = 256 * M 3 i := wr_s (by omega) (by omega)
  rw [E_265, oct_at (by omega), bI_s, e1, oct_at (by omega), bI_s, h57, ← h1.1, ← h2.1, e2, wr_s (by omega) (by omega)]
  rfl
/-- what the class answers behind its loop -/
noncomputable def tmA (T : Nat → Int) (M : aM) (x : Int) : Int :=
  @ite _ (tc (tA T M) 8 = 0 ∧ tc (tB T M) 8 = 0) (Classical.propDecidable _) (-2)
  (@ite _ (tc (tA T M) 8 = 1 ∧ tc (tB T M) 8 = 1 ∧ tv (tA T M) 8 = tv (tB T M) 8 ∧ tl (tA T M) 8 ≠ tl (tB T M) 8 ∧ tb (ok T) (tl (tA T M) 8) ∧ tb (ok T) (tl (tB T M) 8) ∧ 0 ≤ T (8 + (8 * (tl (tA T M) 8).toNat + (tl (tB T M) 8).toNat)) + tv (tA T M) 8 ∧ T (8 + (8 * (tl (tA T M) 8).toNat + (tl (tB T M) 8).toNat)) + tv (tA T M) 8 ≤ 999) (Classical.propDecidable _)
    (if x = 0 then tl (tA T M) 8 else if x = 1 then tl (tB T M) 8 else T (8 + (8 * (tl (tA T M) 8).toNat + (tl (tB T M) 8).toNat)) + tv (tA T M) 8) (-3))
theorem s158 (hC : TC M 4 T) (hT : TI T) {m : Nat} (hm : TP M m) (h32 : 32 ≤ m) (x : Int) : fnA 158 [.inr (some 1), .inl x] M = some (some (.inl (tmA T M x)), M) := by
  rw [E_158]
  obtain ⟨s', hs, he⟩ := upR (fun i (s : (Int × Int × Int × Int × Int × Int) × aV × aV) => run 3 158 19 [.inr (some 1), .inl x, .inl s.1.1, .inl s.1.2.1, .inl s.1.2.2.1, .inl s.1.2.2.2.1, .inl s.1.2.2.2.2.1, .inl s.1.2.2.2.2.2, .inl i, s.2.1, s.2.2] [] M) (fun i s => s.1 = (tc (tA T M) i, tc (tB T M) i, tl (tA T M) i, tl (tB T M) i, tv (tA T M) i, tv (tB T M) i)) 8 (by decide) (fun i s hi hs => by
    obtain ⟨s, v9, v10⟩ := s
    dsimp only at hs ⊢
    subst hs
    have i0 : ¬ (8 : Int) ≤ (i : Int) := by omega
    have w4 : wr (4 * (i : Int)) = ((4 * i : Nat) : Int) := by rw [wr_s (by omega) (by omega)]; omega
    have w42 : wr (((4 * i : Nat) : Int) + 2) = ((4 * i + 2 : Nat) : Int) := by rw [wr_s (by omega) (by omega)]; rfl
    have bA := tw_b hm (i := 4 * i) (by omega)
    have bB := tw_b hm (i := 4 * i + 2) (by omega)
    have oA := aOwes_b hT hi
    have oB := aGets_b hT hi
    have cA := tc_i (tA T M) i
    have cB := tc_i (tB T M) i
    have wA : wr (tw M (4 * i) - aOwes T i) = tA T M i := wr_s (by omega) (by omega)
    have wB : wr (tw M (4 * i + 2) - aGets T i) = tB T M i := wr_s (by omega) (by omega)
    have w1 : wr (tc (tA T M) i + 1) = tc (tA T M) i + 1 := wr_s (by omega) (by omega)
    have w2 : wr (tc (tB T M) i + 1) = tc (tB T M) i + 1 := wr_s (by omega) (by omega)
    refine ⟨((tc (tA T M) (i + 1), tc (tB T M) (i + 1), tl (tA T M) (i + 1), tl (tB T M) (i + 1), tv (tA T M) (i + 1), tv (tB T M) (i + 1)), .inl (tA T M i), .inl (tB T M i)), ?_, rfl⟩
    dsimp only
    rw [B_158_19, if_neg i0, w4, s96 hm (by omega), bI_s, s121 (Or.inl rfl) hC hT hi, bI_s, wA, w1, tc_s, tl_s, tv_s]
    by_cases gA : tA T M i = 0
    · rw [if_pos gA, if_pos gA, if_pos gA, if_pos gA, B_158_65, w4, w42, s96 hm (by omega), bI_s, s122 (Or.inl rfl) hC hT hi, bI_s, wB, w2, tc_s, tl_s, tv_s]
      by_cases gB : tB T M i = 0
      · rw [if_pos gB, if_pos gB, if_pos gB, if_pos gB]
      · rw [if_neg gB, if_neg gB, if_neg gB, if_neg gB]
    · rw [if_neg gA, if_neg gA, if_neg gA, if_neg gA, B_158_65, w4, w42, s96 hm (by omega), bI_s, s122 (Or.inl rfl) hC hT hi, bI_s, wB, w2, tc_s, tl_s, tv_s]
      by_cases gB : tB T M i = 0
      · rw [if_pos gB, if_pos gB, if_pos gB, if_pos gB]
      · rw [if_neg gB, if_neg gB, if_neg gB, if_neg gB]) 8 0 ((0, 0, -1, -1, 0, 0), .inr none, .inr none) (by omega) rfl
  obtain ⟨s, v9, v10⟩ := s'
  dsimp only at hs
  subst hs
  refine Eq.trans he ?_
  dsimp only
  have key : run 3 158 123 [.inr (some 1), .inl x, .inl (tc (tA T M) 8), .inl (tc (tB T M) 8), .inl (tl (tA T M) 8), .inl (tl (tB T M) 8), .inl (tv (tA T M) 8), .inl (tv (tB T M) 8), .inl ((8 : Nat) : Int), v9, v10] [] M = some (some (.inl (@ite _ (tc (tA T M) 8 = 1 ∧ tc (tB T M) 8 = 1 ∧ tv (tA T M) 8 = tv (tB T M) 8 ∧ tl (tA T M) 8 ≠ tl (tB T M) 8 ∧ tb (ok T) (tl (tA T M) 8) ∧ tb (ok T) (tl (tB T M) 8) ∧ 0 ≤ T (8 + (8 * (tl (tA T M) 8).toNat + (tl (tB T M) 8).toNat)) + tv (tA T M) 8 ∧ T (8 + (8 * (tl (tA T M) 8).toNat + (tl (tB T M) 8).toNat)) + tv (tA T M) 8 ≤ 999) (Classical.propDecidable _) (if x = 0 then tl (tA T M) 8 else if x = 1 then tl (tB T M) 8 else T (8 + (8 * (tl (tA T M) 8).toNat + (tl (tB T M) 8).toNat)) + tv (tA T M) 8) (-3))), M) := by
    have hva : -10000 ≤ tv (tA T M) 8 ∧ tv (tA T M) 8 ≤ 70000 := by
      rcases (tc_i (tA T M) 8).2 with ⟨_, _, g⟩ | ⟨_, b, g1, _, g⟩
      · rw [g]; decide
      · have bA := tw_b hm (i := 4 * b) (by omega)
        have oA := aOwes_b hT g1
        rw [g]
        unfold tA
        omega
    generalize tc (tA T M) 8 = ca
    generalize tc (tB T M) 8 = cb
    generalize tl (tA T M) 8 = la
    generalize tl (tB T M) 8 = lb
    generalize tv (tA T M) 8 = va at hva ⊢
    generalize tv (tB T M) 8 = vb
    rw [B_158_123]
    by_cases c1 : ca = 1
    · rw [if_pos c1]
      by_cases c2 : cb = 1
      · rw [if_pos c2]
        by_cases c3 : va = vb
        · rw [if_pos c3, s112 (Or.inl rfl) hC hT, bI_s]
          by_cases c4 : la ≠ lb ∧ tb (ok T) la ∧ tb (ok T) lb
          · obtain ⟨a, ha, rfl⟩ := tbx c4.2.1
            obtain ⟨b, hb, rfl⟩ := tbx c4.2.2
            have d := dI hT ha hb
            have w : wr (T (8 + (8 * a + b)) + va) = T (8 + (8 * a + b)) + va := wr_s (by omega) (by omega)
            rw [bI1_t c4, if_neg (by decide), s116 (Or.inl rfl) ha hb, bI_s, hC.2.1 _ (by omega), w, Int.toNat_natCast, Int.toNat_natCast]
            by_cases c5 : 0 ≤ T (8 + (8 * a + b)) + va
            · rw [if_neg (Int.not_lt.mpr c5)]
              by_cases c6 : T (8 + (8 * a + b)) + va ≤ 999
              · rw [if_pos c6, @if_pos _ (Classical.propDecidable _) ⟨c1, c2, c3, c4.1, c4.2.1, c4.2.2, c5, c6⟩]
                by_cases x0 : x = 0
                · rw [if_pos x0, if_pos x0]
                · rw [if_neg x0, if_neg x0]
                  by_cases x1 : x = 1
                  · rw [if_pos x1, if_pos x1]
                  · rw [if_neg x1, if_neg x1]
              · rw [if_neg c6, @if_neg _ (Classical.propDecidable _) (fun z => c6 z.2.2.2.2.2.2.2)]
            · rw [if_pos (Int.not_le.mp c5), @if_neg _ (Classical.propDecidable _) (fun z => c5 z.2.2.2.2.2.2.1)]
          · rw [bI1_f c4, if_pos rfl, @if_neg _ (Classical.propDecidable _) (fun z => c4 ⟨z.2.2.2.1, z.2.2.2.2.1, z.2.2.2.2.2.1⟩)]
        · rw [if_neg c3, @if_neg _ (Classical.propDecidable _) (fun z => c3 z.2.2.1)]
      · rw [if_neg c2, @if_neg _ (Classical.propDecidable _) (fun z => c2 z.2.1)]
    · rw [if_neg c1, @if_neg _ (Classical.propDecidable _) (fun z => c1 z.1)]
  rw [B_158_19, if_pos (by decide)]
  unfold tmA
  by_cases g1 : tc (tA T M) 8 = 0
  · rw [if_pos g1]
    by_cases g2 : tc (tB T M) 8 = 0
    · rw [if_pos g2, @if_pos _ (Classical.propDecidable _) ⟨g1, g2⟩]
    · rw [if_neg g2, @if_neg _ (Classical.propDecidable _) (fun z => g2 z.2)]
      exact key
  · rw [if_neg g1, @if_neg _ (Classical.propDecidable _) (fun z => g1 z.1)]
    exact key
theorem c_tampered {W : aM → Prop} (hW : WM W) (x : Int) : OK2 W 157 266 [.inl x] := fun M hI _ => by
  obtain ⟨T, hC, hR, hT, hZ⟩ := hI.1
  obtain ⟨m, hm⟩ := hI.2.2.1
  have hm0 := hm
  obtain ⟨m1, m2, m3, m4⟩ := hm0
  by_cases hx : 0 ≤ x ∧ x ≤ 2
  · by_cases h32 : 32 ≤ m
    · let M1 := upM M 2 1 0
      let M2 := upM M1 53 4 0
      have hinv : INV W M2 := (SG.rf.cl.rl).zap hW hI
      have h57 : M2 57 = M 57 := by show upM _ _ _ _ 57 = _; rw [up_ne (by decide)]; exact up_ne (by decide)
      have hR2 : TR M2 54 T := hR.mv (by show upM _ _ _ _ 54 = _; rw [up_ne (by decide)]; exact up_ne (by decide))
      have e1 : fnA 266 [.inr (some 53), .inl x] M1 = run 4 266 35 [.inr (some 53), .inl x, .inl (-1), .inl (-1), .inl 0, .inl 0, .inr none] [] M2 := by
        rw [E_266, s181, bI_s, bI1_t hx, if_neg (by decide)]
        rw [show M1 53 4 = M 53 4 from up_o (by decide), if_pos (by omega)]
      obtain ⟨s', hs, he⟩ := upR (fun i (s : Int × Int × Int) => run 4 266 35 [.inr (some 53), .inl x, .inl s.1, .inl s.2.1, .inl s.2.2, .inl i, .inr none] [] M2) (fun i s => s = (tl (tA T M) i, tl (tB T M) i, tc (tA T M) i + tc (tB T M) i)) 8 (by decide) (fun i s hi hs => by
        subst hs
        have i0 : ¬ (8 : Int) ≤ (i : Int) := by omega
        have w4 : wr (4 * (i : Int)) = ((4 * i : Nat) : Int) := by rw [wr_s (by omega) (by omega)]; omega
        have w42 : wr (((4 * i : Nat) : Int) + 2) = ((4 * i + 2 : Nat) : Int) := by rw [wr_s (by omega) (by omega)]; rfl
        have cA := tc_i (tA T M) i
        have cB := tc_i (tB T M) i
        have w1 : wr (tc (tA T M) i + tc (tB T M) i + 1) = tc (tA T M) i + tc (tB T M) i + 1 := wr_s (by omega) (by omega)
        have w2 : wr (tc (tA T M) i + tc (tB T M) i + 1 + 1) = tc (tA T M) i + tc (tB T M) i + 1 + 1 := wr_s (by omega) (by omega)
        have hA : tw M (4 * i) = aOwes T i ↔ tA T M i = 0 := by unfold tA; omega
        have hB : tw M (4 * i + 2) = aGets T i ↔ tB T M i = 0 := by unfold tB; omega
        refine ⟨(tl (tA T M) (i + 1), tl (tB T M) (i + 1), tc (tA T M) (i + 1) + tc (tB T M) (i + 1)), ?_, rfl⟩
        dsimp only
        rw [B_266_35, if_neg i0, w4, s265 h57 hm (by omega), bI_s, s192 hR2 hT hi, bI_s, w1, tc_s, tl_s]
        by_cases gA : tA T M i = 0
        · rw [if_pos (hA.mpr gA), if_pos gA, if_pos gA, B_266_68, w4, w42, s265 h57 hm (by omega), bI_s, s193 hR2 hT hi, bI_s, w1, tc_s, tl_s]
          by_cases gB : tB T M i = 0
          · rw [if_pos (hB.mpr gB), if_pos gB, if_pos gB]
          · rw [if_neg (fun z => gB (hB.mp z)), if_neg gB, if_neg gB, Int.add_assoc]
        · rw [if_neg (fun z => gA (hA.mp z)), if_neg gA, if_neg gA, B_266_68, w4, w42, s265 h57 hm (by omega), bI_s, s193 hR2 hT hi, bI_s, w2, tc_s, tl_s]
          by_cases gB : tB T M i = 0
          · rw [if_pos (hB.mpr gB), if_pos gB, if_pos gB, show tc (tA T M) i + tc (tB T M) i + 1 = tc (tA T M) i + 1 + tc (tB T M) i by omega]
          · rw [if_neg (fun z => gB (hB.mp z)), if_neg gB, if_neg gB, show tc (tA T M) i + tc (tB T M) i + 1 + 1 = tc (tA T M) i + 1 + (tc (tB T M) i + 1) by omega]) 8 0 (-1, -1, 0) (by omega) rfl
      subst hs
      refine ⟨tmA T M x, M1, M2, ?_, ?_, hinv, ?_⟩
      · rw [E_157, if_neg (by omega), if_neg (by omega), if_pos (by omega), s158 hC hT hm h32, bI_s, E_94, bV_s]
      · rw [e1]
        refine Eq.trans he ?_
        dsimp only
        rw [B_266_35, if_pos (by decide)]
        have cA := tc_i (tA T M) 8
        have cB := tc_i (tB T M) 8
        unfold tmA
        by_cases g0 : tc (tA T M) 8 = 0 ∧ tc (tB T M) 8 = 0
        · rw [if_pos (by omega), @if_pos _ (Classical.propDecidable _) g0]
        rw [if_neg (by omega), @if_neg _ (Classical.propDecidable _) g0]
        by_cases g2 : tc (tA T M) 8 + tc (tB T M) 8 = 2
        · rw [if_pos g2, s189 hR2 hT, bI_s]
          by_cases c4 : tl (tA T M) 8 ≠ tl (tB T M) 8 ∧ tb (ok T) (tl (tA T M) 8) ∧ tb (ok T) (tl (tB T M) 8)
          · rw [bI1_t c4, if_neg (by decide)]
            have p1 := c4.2.1.1
            have p2 := c4.2.2.1
            rcases cA.2 with ⟨_, z, _⟩ | ⟨q1, a, ha, ea, va⟩
            · omega
            rcases cB.2 with ⟨_, z, _⟩ | ⟨q2, b, hb, eb, vb⟩
            · omega
            have c1 : tc (tA T M) 8 = 1 := by omega
            have c2 : tc (tB T M) 8 = 1 := by omega
            have w4 : wr (4 * (a : Int)) = ((4 * a : Nat) : Int) := by rw [wr_s (by omega) (by omega)]; omega
            have w4b : wr (4 * (b : Int)) = ((4 * b : Nat) : Int) := by rw [wr_s (by omega) (by omega)]; omega
            have w42 : wr (((4 * b : Nat) : Int) + 2) = ((4 * b + 2 : Nat) : Int) := by rw [wr_s (by omega) (by omega)]; rfl
            have bA := tw_b hm (i := 4 * a) (by omega)
            have bB := tw_b hm (i := 4 * b + 2) (by omega)
            have oA := aOwes_b hT ha
            have oB := aGets_b hT hb
            have d := dI hT ha hb
            have wA : wr (tw M (4 * a) - aOwes T a) = tA T M a := wr_s (by omega) (by omega)
            have wB : wr (tw M (4 * b + 2) - aGets T b) = tB T M b := wr_s (by omega) (by omega)
            have rA : -10000 ≤ tA T M a ∧ tA T M a ≤ 70000 := by unfold tA; omega
            have w : wr (T (8 + (8 * a + b)) + tA T M a) = T (8 + (8 * a + b)) + tA T M a := wr_s (by omega) (by omega)
            have c4' := c4
            rw [ea, eb] at c4'
            rw [ea, eb, va, vb]
            rw [w4, s265 h57 hm (by omega), bI_s, s192 hR2 hT ha, bI_s, s190 ha hb, bI_s, if_pos (by omega), w4b, w42, s265 h57 hm (by omega), bI_s, s193 hR2 hT hb, bI_s, wA, wB, Int.toNat_natCast, hR2 _ (by omega), w, Int.toNat_natCast, Int.toNat_natCast]
            by_cases c3 : tB T M b = tA T M a
            · rw [if_pos c3, s181, bI_s]
              by_cases c5 : 0 ≤ T (8 + (8 * a + b)) + tA T M a ∧ T (8 + (8 * a + b)) + tA T M a ≤ 999
              · rw [bI1_t c5, if_neg (by decide), @if_pos _ (Classical.propDecidable _) ⟨c1, c2, c3.symm, c4'.1, c4'.2.1, c4'.2.2, c5.1, c5.2⟩]
                by_cases x0 : x = 0
                · rw [if_pos x0, if_pos x0]
                · rw [if_neg x0, if_neg x0]
                  by_cases x1 : x = 1
                  · rw [if_pos x1, if_pos x1]
                  · rw [if_neg x1, if_neg x1]
              · rw [bI1_f c5, if_pos rfl, @if_neg _ (Classical.propDecidable _) (fun z => c5 z.2.2.2.2.2.2)]
            · rw [if_neg c3, @if_neg _ (Classical.propDecidable _) (fun z => c3 z.2.2.1.symm)]
          · rw [bI1_f c4, if_pos rfl, @if_neg _ (Classical.propDecidable _) (fun z => c4 ⟨z.2.2.2.1, z.2.2.2.2.1, z.2.2.2.2.2.1⟩)]
        · rw [if_neg g2, @if_neg _ (Classical.propDecidable _) (fun z => g2 (by rw [z.1, z.2.1]; rfl))]
      · show upM _ _ _ _ 0 = _
        rw [up_ne (by decide)]; exact up_ne (by decide)
    · refine ⟨-1, M, M, ?_, ?_, hI, rfl⟩
      · rw [E_157, if_neg (by omega), if_neg (by omega), if_neg (by omega)]
      · rw [E_266, s181, bI_s, bI1_t hx, if_neg (by decide), if_neg (by omega)]
  · refine ⟨-1, M, M, ?_, ?_, hI, rfl⟩
    · rw [E_157]
      by_cases g : x < 0
      · rw [if_pos g]
      · rw [if_neg g, if_pos (by omega)]
    · rw [E_266, s181, bI_s, bI1_f hx, if_pos rfl]
end TMP
