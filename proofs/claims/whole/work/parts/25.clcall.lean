/-! Calls that clear: cleared, falls, keystone, blow; how many bits. -/
def bcE (x0 : Int) : Int := iAnd (wr ((wr ((iAnd (wr ((wr ((iAnd (wr (x0 - (iAnd (iUshr x0 1) 1431655765))) 858993459) + (iAnd (iUshr (wr (x0 - (iAnd (iUshr x0 1) 1431655765))) 2) 858993459))) + (iUshr (wr ((iAnd (wr (x0 - (iAnd (iUshr x0 1) 1431655765))) 858993459) + (iAnd (iUshr (wr (x0 - (iAnd (iUshr x0 1) 1431655765))) 2) 858993459))) 4))) 252645135) + (iUshr (iAnd (wr ((wr ((iAnd (wr (x0 - (iAnd (iUshr x0 1) 1431655765))) 858993459) + (iAnd (iUshr (wr (x0 - (iAnd (iUshr x0 1) 1431655765))) 2) 858993459))) + (iUshr (wr ((iAnd (wr (x0 - (iAnd (iUshr x0 1) 1431655765))) 858993459) + (iAnd (iUshr (wr (x0 - (iAnd (iUshr x0 1) 1431655765))) 2) 858993459))) 4))) 252645135) 8))) + (iUshr (wr ((iAnd (wr ((wr ((iAnd (wr (x0 - (iAnd (iUshr x0 1) 1431655765))) 858993459) + (iAnd (iUshr (wr (x0 - (iAnd (iUshr x0 1) 1431655765))) 2) 858993459))) + (iUshr (wr ((iAnd (wr (x0 - (iAnd (iUshr x0 1) 1431655765))) 858993459) + (iAnd (iUshr (wr (x0 - (iAnd (iUshr x0 1) 1431655765))) 2) 858993459))) 4))) 252645135) + (iUshr (iAnd (wr ((wr ((iAnd (wr (x0 - (iAnd (iUshr x0 1) 1431655765))) 858993459) + (iAnd (iUshr (wr (x0 - (iAnd (iUshr x0 1) 1431655765))) 2) 858993459))) + (iUshr (wr ((iAnd (wr (x0 - (iAnd (iUshr x0 1) 1431655765))) 858993459) + (iAnd (iUshr (wr (x0 - (iAnd (iUshr x0 1) 1431655765))) 2) 858993459))) 4))) 252645135) 8))) 16))) 63
theorem bc_all : ∀ a, a < 64 → ∀ b, b < 64 → bcE ((64 * a + b : Nat) : Int) = (pct (64 * a + b) 12 : Int) := by decide +kernel
theorem s287 {s : Nat} (hs : s < 4096) (M : aM) : fnA 287 [.inl (s : Int)] M = some (some (.inl (pct s 12 : Int)), M) := by
  have h := bc_all (s / 64) (by omega) (s % 64) (by omega)
  rw [show 64 * (s / 64) + s % 64 = s by omega] at h
  rw [E_287, ← h]
  rfl
section CLC
variable {T c : Nat → Int} {M : aM} {W : aM → Prop}
noncomputable def cK (T c : Nat → Int) : Nat := @dite _ (∃ K, CE T c K) (Classical.propDecidable _) (fun h => Classical.choose h) (fun _ => 0)
theorem cK_e (hT : TI T) (hc : CB c) : CE T c (cK T c) := by
  have h := CE_ex hT hc
  unfold cK
  rw [dif_pos h]
  exact Classical.choose_spec h
theorem SM.clr {M M' : aM} (h : ∀ q, clrQ q = false → M' q = M q) : SM M M' := by
  have h2 : ∀ q, keepQ q = true → clrQ q = false := fun q hq => by
    unfold keepQ at hq
    unfold clrQ
    simp only [Bool.or_eq_true, Bool.and_eq_true, decide_eq_true_eq, beq_iff_eq] at hq
    simp only [Bool.or_eq_false_iff, beq_eq_false_iff_ne]
    omega
  exact ⟨fun q hq => h q (h2 q hq), by rw [h 1 rfl], by rw [h 2 rfl], by rw [h 53 rfl], by rw [h 53 rfl], by rw [h 53 rfl]⟩
theorem SM.rcl {M M' : aM} (h : ∀ q, rclQ q = false → M' q = M q) (h5 : ∀ j, j ≠ 36 → M' 53 j = M 53 j) : SM M M' := by
  have h2 : ∀ q, keepQ q = true → rclQ q = false := fun q hq => by
    unfold keepQ at hq
    unfold rclQ
    simp only [Bool.or_eq_true, Bool.and_eq_true, decide_eq_true_eq, beq_iff_eq] at hq
    simp only [Bool.or_eq_false_iff, beq_eq_false_iff_ne]
    omega
  exact ⟨fun q hq => h q (h2 q hq), by rw [h 1 rfl], by rw [h 2 rfl], h5 4 (by decide), h5 13 (by decide), h5 49 (by decide)⟩
theorem cV_0 (hT : TI T) {b : Nat} (hb : b < 8) : cV T (-1) 0 b = T b := by
  have := hT.2.2.1 b hb
  unfold cV
  rw [if_neg (by omega)]
  omega
/-- the class's clearing, nobody struck -/
theorem cls0 (hC : TC M 4 T) (hT : TI T) : ∃ M1 M', fnA 13 [.inr (some 27), .inr (some 4)] M = some (none, M1) ∧ fnA 15 [.inr (some 27)] M1 = some (none, M') ∧ CCl T (cV T (-1) 0) (itP T (cV T (-1) 0) (cK T (cV T (-1) 0))) (itF T (cV T (-1) 0) (cK T (cV T (-1) 0))) M' ∧ (∀ b, b < 8 → M' 32 b = gP T (itP T (cV T (-1) 0) (cK T (cV T (-1) 0))) b) ∧ M' 27 6 = (cK T (cV T (-1) 0) : Int) ∧ ∀ q, clrQ q = false → M' q = M q := by
  have hcb : CB (cV T (-1) 0) := cV_b hT (by decide) (by decide)
  obtain ⟨M1, a1, a2, a3, a4, a5⟩ := s13 (Or.inl rfl) hC hT
  obtain ⟨M2, b1, b2, b3, b4, b5⟩ := s15 hT hcb (cK_e hT hcb) a2 (fun b hb => (a3 b hb).trans (cV_0 hT hb).symm) a4
  refine ⟨M1, M2, a1, b1, b2, b3, b4, fun q hq => ?_⟩
  rw [b5 q hq]
  unfold clrQ at hq
  simp only [Bool.or_eq_false_iff, beq_eq_false_iff_ne] at hq
  exact a5 q (by omega) (by omega) (by omega)
theorem s148 (hC : TC M 4 T) (hT : TI T) {b : Nat} (hb : b < 8) {x : Int} (hx1 : 0 ≤ x) (hx2 : x ≤ 9999) : ∃ M', fnA 148 [.inr (some 1), .inl (b : Int), .inl x] M = some (some (.inl (fM T (cV T b (-x)) (cK T (cV T b (-x))) : Int)), M') ∧ ∀ q, clrQ q = false → M' q = M q := by
  have hcb : CB (cV T b (-x)) := cV_b hT (by omega) (by omega)
  have tb := hT.2.2.1 b hb
  obtain ⟨M1, a1, a2, a3, a4, a5⟩ := s13 (Or.inl rfl) hC hT
  have w : wr (T b - x) = T b - x := wr_s (by omega) (by omega)
  let M2 := upM M1 29 b (max 0 (T b - x))
  have e14 : fnA 14 [.inr (some 27), .inl (b : Int), .inl x] M1 = some (none, M2) := by
    have i1 : 0 ≤ (b : Int) ∧ (b : Int) < 8 := by omega
    rw [E_14, s177n hb, bI_s, if_neg (by decide), if_pos i1, if_pos i1, Int.toNat_natCast, a3 b hb, w]
  obtain ⟨M3, b1, b2, b3, b4, b5⟩ := s15 (M := M2) hT hcb (cK_e hT hcb) (fun j hj => by show upM _ _ _ _ _ _ = _; rw [up_o (by decide)]; exact a2 j hj) (fun d hd => by
    have td := hT.2.2.1 d hd
    show upM _ _ _ _ _ _ = _
    rw [up_r]
    unfold cV
    by_cases e : d = b
    · rw [if_pos ⟨rfl, e⟩, if_pos (by omega), e]; rfl
    · rw [if_neg (fun z => e z.2), if_neg (by omega), a3 d hd]; omega) (fun j hj => by show upM _ _ _ _ _ _ = _; rw [up_o (by decide)]; exact a4 j hj)
  refine ⟨M3, ?_, fun q hq => ?_⟩
  · rw [E_148, a1, bV_s, e14, bV_s, b1, bV_s, s21, bI_s]
    unfold fM
    rw [cdB_c b2.2.2.2.2]
  · rw [b5 q hq]
    unfold clrQ at hq
    simp only [Bool.or_eq_false_iff, beq_eq_false_iff_ne] at hq
    show upM _ _ _ _ q = _
    rw [up_ne (by omega)]
    exact a5 q (by omega) (by omega) (by omega)
theorem c_blow (hW : WM W) (x y : Int) : OK2 W 147 253 [.inl x, .inl y] := fun M hI _ => by
  obtain ⟨T, hC, hR, hT, hZ⟩ := hI.1
  by_cases h : tb (ok T) x
  · obtain ⟨b, hb, rfl⟩ := tbx h
    by_cases hy : 0 ≤ y ∧ y ≤ 9999
    · obtain ⟨M1, a1, a2⟩ := s148 hC hT hb hy.1 hy.2
      have hcb : CB (cV T b (-y)) := cV_b hT (by omega) (by omega)
      obtain ⟨M2, b1, b2, b3, b4, b5, b6, b7⟩ := s249 (M := M1) (hR.mv (a2 54 rfl)) hT (b0 := b) (more := -y) (by omega) (by omega) (cK_e hT hcb)
      have s1 := SM.clr a2
      have s2 := SM.rcl b6 b7
      refine ⟨(fM T (cV T b (-y)) (cK T (cV T b (-y))) : Int), M1, M2, ?_, ?_, (s1.tr s2).inv hW hI, ?_⟩
      · rw [E_147, s110 (Or.inl rfl) hC hT, bI_s, bI1_t h, if_neg (by decide), if_neg (by omega), if_pos (by omega), a1, bI_s]
      · rw [E_253, s188 (hR.mv (a2 54 rfl)) hT, bI_s, bI1_t h, if_neg (by decide), s181, bI_s, bI1_t hy, if_neg (by decide), wr_s (by omega) (by omega), b1, bI_s]
      · rw [b6 0 rfl, a2 0 rfl]
    · refine ⟨-1, M, M, ?_, ?_, hI, rfl⟩
      · rw [E_147, s110 (Or.inl rfl) hC hT, bI_s, bI1_t h, if_neg (by decide)]
        by_cases h1 : y < 0
        · rw [if_pos h1]
        · rw [if_neg h1, if_neg (by omega)]
      · rw [E_253, s188 hR hT, bI_s, bI1_t h, if_neg (by decide), s181, bI_s, bI1_f hy, if_pos rfl]
  · refine ⟨-1, M, M, ?_, ?_, hI, rfl⟩
    · rw [E_147, s110 (Or.inl rfl) hC hT, bI_s, bI1_f h, if_pos rfl]
    · rw [E_253, s188 hR hT, bI_s, bI1_f h, if_pos rfl]
theorem c_falls (hW : WM W) (x : Int) : OK2 W 145 251 [.inl x] := fun M hI _ => by
  obtain ⟨T, hC, hR, hT, hZ⟩ := hI.1
  by_cases h : tb (tk T) x
  · obtain ⟨b, hb, rfl⟩ := tbx h
    have i1 : 0 ≤ (b : Int) ∧ (b : Int) < 8 := by omega
    have hcb : CB (cV T (-1) 0) := cV_b hT (by decide) (by decide)
    obtain ⟨M0, M1, a0, a1, a2, a3, a4, a5⟩ := cls0 hC hT
    obtain ⟨M2, b1, b2, b3, b4, b5, b6, b7⟩ := s249 (M := M1) (hR.mv (a5 54 rfl)) hT (b0 := -1) (more := 0) (by decide) (by decide) (cK_e hT hcb)
    have hf := F_b (T := T) (c := cV T (-1) 0) (cK T (cV T (-1) 0)) b
    refine ⟨if itF T (cV T (-1) 0) (cK T (cV T (-1) 0)) b = 0 then -2 else itF T (cV T (-1) 0) (cK T (cV T (-1) 0)) b, M1, M2, ?_, ?_, ((SM.clr a5).tr (SM.rcl b6 b7)).inv hW hI, ?_⟩
    rotate_left
    · rw [E_251, s187 (hR.mv (a5 54 rfl)) hT, bI_s, bI1_t h, if_neg (by decide), b1, bI_s, if_pos i1, Int.toNat_natCast, b4 b hb]
    · rw [b6 0 rfl, a5 0 rfl]
    · rw [E_145, s109 (Or.inl rfl) hC hT, bI_s, bI1_t h, if_neg (by decide), a0, bV_s, a1, bV_s, E_20, s177n hb, bI_s, if_neg (by decide), if_pos i1, bI_s, Int.toNat_natCast, a2.2.2.2.2 b hb]
      generalize itF T (cV T (-1) 0) (cK T (cV T (-1) 0)) b = f at hf ⊢
      by_cases e : f ≤ 0
      · rw [if_pos e, if_pos (by omega)]
      · rw [if_neg e, if_neg (by omega)]
  · refine ⟨-1, M, M, ?_, ?_, hI, rfl⟩
    · rw [E_145, s109 (Or.inl rfl) hC hT, bI_s, bI1_f h, if_pos rfl]
    · rw [E_251, s187 hR hT, bI_s, bI1_f h, if_pos rfl]
theorem tb_w {m : Nat} {x k : Int} (hx : inR x) (hk : k = 10 ∨ k = 20) : tb m (wr (x - k)) ↔ tb m (x - k) := by
  obtain ⟨h1, h2⟩ := hx
  by_cases h : -2147483648 ≤ x - k
  · rw [wr_s h (by omega)]
  · have : 8 ≤ wr (x - k) := by unfold wr; omega
    constructor
    · intro z; exact absurd z.2.1 (by omega)
    · intro z; exact absurd z.1 (by omega)
theorem c_cleared (hW : WM W) (x : Int) (hx : inR x) : OK2 W 144 250 [.inl x] := fun M hI _ => by
  obtain ⟨T, hC, hR, hT, hZ⟩ := hI.1
  have hcb : CB (cV T (-1) 0) := cV_b hT (by decide) (by decide)
  have hP : fnA 109 [.inr (some 4), .inl (wr (x - 10))] M = some (some (.inl (bI1 (tb (tk T) (x - 10)))), M) := by rw [s109 (Or.inl rfl) hC hT, bI1_c (tb_w hx (Or.inl rfl))]
  have hG : fnA 109 [.inr (some 4), .inl (wr (x - 20))] M = some (some (.inl (bI1 (tb (tk T) (x - 20)))), M) := by rw [s109 (Or.inl rfl) hC hT, bI1_c (tb_w hx (Or.inr rfl))]
  -- what the reference answers
  have ref : ∀ M1, TR M1 54 T → ∃ M2, SM M1 M2 ∧ M2 0 = M1 0 ∧ fnA 250 [.inr (some 53), .inl x] M1 = some (some (.inl (@ite _ (tb (tk T) (x - 10)) (Classical.propDecidable _) (itP T (cV T (-1) 0) (cK T (cV T (-1) 0)) (x - 10).toNat) (@ite _ (tb (tk T) (x - 20)) (Classical.propDecidable _) (gP T (itP T (cV T (-1) 0) (cK T (cV T (-1) 0))) (x - 20).toNat) (if x = 0 then (fM T (cV T (-1) 0) (cK T (cV T (-1) 0)) : Int) else if x = 1 then (cK T (cV T (-1) 0) : Int) else -1)))), M2) := fun M1 hR1 => by
    obtain ⟨M2, b1, b2, b3, b4, b5, b6, b7⟩ := s249 (M := M1) hR1 hT (b0 := -1) (more := 0) (by decide) (by decide) (cK_e hT hcb)
    have hR2 : TR M2 54 T := hR1.mv (b6 54 rfl)
    refine ⟨M2, SM.rcl b6 b7, b6 0 rfl, ?_⟩
    rw [E_250, b1, bI_s, s181, bI_s]
    by_cases h10 : tb (tk T) (x - 10)
    · obtain ⟨b, hb, e⟩ := tbx h10
      have hz : (x - 10).toNat = b := by omega
      have hw : wr (x - 10) = (b : Int) := by rw [wr_s (by omega) (by omega)]; exact e
      have i1 : 0 ≤ (b : Int) ∧ (b : Int) < 8 := by omega
      have ht : tb (tk T) (b : Int) := by rw [← e]; exact h10
      rw [@if_pos _ (Classical.propDecidable _) h10, hz, hw, bI1_f (show ¬ (0 ≤ x ∧ x ≤ 1) by omega), if_pos rfl, s181, bI_s, bI1_t (show 10 ≤ x ∧ x ≤ 17 by omega), if_neg (by decide), s187 hR2 hT, bI_s, bI1_t ht, if_neg (by decide), if_pos i1, Int.toNat_natCast, b2 b hb]
    · rw [@if_neg _ (Classical.propDecidable _) h10]
      have hno : ∀ M2', M2' = M2 → (bI (fnA 181 [.inl x, .inl 10, .inl 17] M2') fun w3 M3 => if w3 = 0 then run 4 250 61 [.inr (some 53), .inl x, .inl (fM T (cV T (-1) 0) (cK T (cV T (-1) 0)) : Int)] [] M3 else bI (fnA 187 [.inr (some 53), .inl (wr (x - 10))] M3) fun w4 M4 => if w4 = 0 then run 4 250 61 [.inr (some 53), .inl x, .inl (fM T (cV T (-1) 0) (cK T (cV T (-1) 0)) : Int)] [] M4 else if 0 ≤ wr (x - 10) ∧ wr (x - 10) < 8 then some (some (.inl (M4 72 (Int.toNat (wr (x - 10))))), M4) else none) = run 4 250 61 [.inr (some 53), .inl x, .inl (fM T (cV T (-1) 0) (cK T (cV T (-1) 0)) : Int)] [] M2 := fun M2' e => by
        subst e
        rw [s181, bI_s]
        by_cases h1 : 10 ≤ x ∧ x ≤ 17
        · rw [bI1_t h1, if_neg (by decide), s187 hR2 hT, bI_s, bI1_f (by rw [tb_w hx (Or.inl rfl)]; exact h10), if_pos rfl]
        · rw [bI1_f h1, if_pos rfl]
      rw [hno M2 rfl]
      by_cases h20 : tb (tk T) (x - 20)
      · obtain ⟨b, hb, e⟩ := tbx h20
        have hz : (x - 20).toNat = b := by omega
        have hw : wr (x - 20) = (b : Int) := by rw [wr_s (by omega) (by omega)]; exact e
        have i1 : 0 ≤ (b : Int) ∧ (b : Int) < 8 := by omega
        have ht : tb (tk T) (b : Int) := by rw [← e]; exact h20
        rw [@if_pos _ (Classical.propDecidable _) h20, hz, bI1_f (show ¬ (0 ≤ x ∧ x ≤ 1) by omega), if_pos rfl, B_250_61, s181, bI_s, bI1_t (show 20 ≤ x ∧ x ≤ 27 by omega), if_neg (by decide), hw, s187 hR2 hT, bI_s, bI1_t ht, if_neg (by decide), if_pos i1, Int.toNat_natCast, b3 b hb]
      · rw [@if_neg _ (Classical.propDecidable _) h20]
        by_cases h0 : x = 0
        · rw [bI1_t (by omega), if_neg (by decide), if_pos h0, if_pos h0]
        simp only [if_neg h0]
        by_cases h1 : x = 1
        · rw [bI1_t (by omega), if_neg (by decide), if_pos h1, b5]
        simp only [if_neg h1]
        rw [bI1_f (by omega), if_pos rfl, B_250_61, s181, bI_s]
        by_cases h2 : 20 ≤ x ∧ x ≤ 27
        · rw [bI1_t h2, if_neg (by decide), s187 hR2 hT, bI_s, bI1_f (by rw [tb_w hx (Or.inr rfl)]; exact h20), if_pos rfl]
        · rw [bI1_f h2, if_pos rfl]
  obtain ⟨M0, M1, a0, a1, a2, a3, a4, a5⟩ := cls0 hC hT
  obtain ⟨M2, r1, r2, r3⟩ := ref M1 (hR.mv (a5 54 rfl))
  by_cases h10 : tb (tk T) (x - 10)
  · obtain ⟨b, hb, e⟩ := tbx h10
    rw [@if_pos _ (Classical.propDecidable _) h10] at r3
    refine ⟨_, M1, M2, ?_, r3, ((SM.clr a5).tr r1).inv hW hI, r2.trans (by rw [a5 0 rfl])⟩
    rw [E_144, hP, bI_s, hG, bI_s, bI1_t h10, if_neg (by decide), B_144_43, a0, bV_s, a1, bV_s, if_neg (by decide), E_18, e, wr_s (by omega) (by omega), s177n hb, bI_s, if_neg (by decide), if_pos (by omega), bI_s, Int.toNat_natCast, a2.2.2.2.1 b hb]
  · rw [@if_neg _ (Classical.propDecidable _) h10] at r3
    by_cases h20 : tb (tk T) (x - 20)
    · obtain ⟨b, hb, e⟩ := tbx h20
      rw [@if_pos _ (Classical.propDecidable _) h20] at r3
      refine ⟨_, M1, M2, ?_, r3, ((SM.clr a5).tr r1).inv hW hI, r2.trans (by rw [a5 0 rfl])⟩
      rw [E_144, hP, bI_s, hG, bI_s, bI1_f h10, if_pos rfl, bI1_t h20, if_neg (by decide), B_144_43, a0, bV_s, a1, bV_s, if_pos rfl, if_neg (by decide), E_19, e, wr_s (by omega) (by omega), s177n hb, bI_s, if_neg (by decide), if_pos (by omega), bI_s, Int.toNat_natCast, a3 b hb]
    · rw [@if_neg _ (Classical.propDecidable _) h20] at r3
      by_cases h0 : x = 0
      · rw [if_pos h0] at r3
        refine ⟨_, M1, M2, ?_, r3, ((SM.clr a5).tr r1).inv hW hI, r2.trans (by rw [a5 0 rfl])⟩
        rw [E_144, hP, bI_s, hG, bI_s, bI1_f h10, if_pos rfl, bI1_f h20, if_pos rfl, if_pos h0, B_144_43, a0, bV_s, a1, bV_s, if_pos rfl, if_pos rfl, if_pos h0, s21, bI_s]
        unfold fM
        rw [cdB_c a2.2.2.2.2]
      rw [if_neg h0] at r3
      by_cases h1 : x = 1
      · rw [if_pos h1] at r3
        refine ⟨_, M1, M2, ?_, r3, ((SM.clr a5).tr r1).inv hW hI, r2.trans (by rw [a5 0 rfl])⟩
        rw [E_144, hP, bI_s, hG, bI_s, bI1_f h10, if_pos rfl, bI1_f h20, if_pos rfl, if_neg h0, if_pos h1, B_144_43, a0, bV_s, a1, bV_s, if_pos rfl, if_pos rfl, if_neg h0, a4]
      rw [if_neg h1] at r3
      obtain ⟨M2', r1', r2', r3'⟩ := ref M hR
      rw [@if_neg _ (Classical.propDecidable _) h10, @if_neg _ (Classical.propDecidable _) h20, if_neg h0, if_neg h1] at r3'
      refine ⟨-1, M, M2', ?_, r3', r1'.inv hW hI, r2'⟩
      rw [E_144, hP, bI_s, hG, bI_s, bI1_f h10, if_pos rfl, bI1_f h20, if_pos rfl, if_neg h0, if_neg h1]
end CLC
