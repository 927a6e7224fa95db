/-! months and tried, in both. -/
section MOC
set_option maxHeartbeats 400000 in
theorem c_months (x : Int) : OK2 Wl 139 240 [.inl x] := fun M hI _ => by
  by_cases hx : 1 ≤ x ∧ x ≤ 60
  case neg =>
    refine ⟨-1, M, M, ?_, ?_, hI, rfl⟩
    · rw [E_139]
      by_cases h1 : x < 1
      · rw [if_pos h1]
      · rw [if_neg h1, if_neg (by omega)]
    · rw [E_240, s181, bI_s, bI1_f hx, if_pos rfl]
  obtain ⟨m, hm, rfl⟩ : ∃ m : Nat, m ≤ 60 ∧ x = (m : Int) := ⟨x.toNat, by omega, by omega⟩
  obtain ⟨T, hC, hR, hT, hZ⟩ := hI.1
  obtain ⟨h0, L, D, l1, l2, l3, l4, l5⟩ := hI.2.2.2.2
  have hB : LBx (M 52) (M 64) L D := ⟨l1, l5⟩
  have hl1 : LCx (M 52) L D M := ⟨l2, rfl⟩
  have hl2 : LRx (M 64) L D M := ⟨l4, l3, rfl⟩
  have t4 : isT 4 := Or.inl rfl
  obtain ⟨Ta, M1, Ra, a1, a2, a3, a4, a5⟩ := mrun t4 hB hm hC hR hT hZ hl1 hl2
  have hq1 : ∀ q, 27 ≤ q → M1 q = M q := fun q hq => a4 q (by omega) (by omega) (by omega) (by omega)
  obtain ⟨T', M2, R', b1, b2, b3, b4, b5⟩ := mrun t4 hB hm hC (R := M1) (hR.mv (hq1 54 (by decide))) hT hZ hl1 (hl2.mv (by rw [hq1 53 (by decide)]) (fun q _ _ => hq1 q (by omega)))
  have e : M2 = M1 := by rw [a1] at b1; injection b1 with b1; injection b1 with _ b1; exact b1.symm
  subst e
  have hq2 : ∀ q, q ≠ 24 → q ≠ 25 → q ≠ 26 → ¬ (4 ≤ q ∧ q ≤ 7) → q ≠ 53 → q ≠ 54 → q ≠ 69 → q ≠ 70 → R' q = M q := fun q c1 c2 c3 c4 c5 c6 c7 c8 => (b5.1 q c5 c6 c7 c8).trans (a4 q c1 c2 c3 (by omega))
  have h53 : ∀ j, j ≠ 29 → j ≠ 30 → R' 53 j = M 53 j := fun j c1 c2 => by rw [b5.2 j c1 c2, hq1 53 (by decide)]
  have hk : ∀ q, keepQ q = true → q ≠ 24 ∧ q ≠ 25 ∧ q ≠ 26 ∧ q ≠ 53 ∧ q ≠ 69 ∧ q ≠ 70 := fun q hq => by
    refine ⟨?_, ?_, ?_, ?_, ?_, ?_⟩ <;> (intro e; subst e; exact absurd hq (by decide))
  refine ⟨M2 26 0, M2, R', ?_, ?_, ?_, hq2 0 (by decide) (by decide) (by decide) (by decide) (by decide) (by decide) (by decide) (by decide)⟩
  · rw [E_139, if_neg (by omega), if_pos (by omega), a1, bV_s]
  · rw [E_240, s181, bI_s, bI1_t hx, if_neg (by decide), b2, bV_s, b3.2.2.2.2.2.2.1]
  · have hw : ∀ q, 4 ≤ q → q ≤ 7 → R' q = M2 q := fun q c1 c2 => b5.1 q (by omega) (by omega) (by omega) (by omega)
    refine INV.town WM_l hI ⟨T', b3.1.mv (hw 4 (by decide) (by decide)) (hw 5 (by decide) (by decide)) (hw 6 (by decide) (by decide)) (hw 7 (by decide) (by decide)), b3.2.1, b3.2.2.1, b3.2.2.2.1⟩ (fun q c1 c2 c3 => ?_) (by rw [hq2 1 (by decide) (by decide) (by decide) (by decide) (by decide) (by decide) (by decide) (by decide)]) (h53 49 (by decide) (by decide)) (h53 13 (by decide) (by decide)) (Or.inl ⟨by rw [hq2 2 (by decide) (by decide) (by decide) (by decide) (by decide) (by decide) (by decide) (by decide)], h53 4 (by decide) (by decide)⟩)
    obtain ⟨k1, k2, k3, k4, k5, k6⟩ := hk q c1
    exact hq2 q k1 k2 k3 c2 k4 c3 k5 k6
set_option maxHeartbeats 400000 in
theorem tenth {y : Int} (h1 : 10 ≤ y) (h2 : y ≤ 17) : ∃ b : Nat, b < 8 ∧ y = ((b + 10 : Nat) : Int) := ⟨(y - 10).toNat, by omega, by omega⟩
set_option maxHeartbeats 400000 in
theorem tenth_w {b : Nat} (hb : b < 8) : EqI (wr (((b + 10 : Nat) : Int) - 10)) (b : Int) ∧ EqI (wr (0 + ((b + 10 : Nat) : Int))) ((b + 10 : Nat) : Int) ∧ ¬ ((b + 10 : Nat) : Int) = 0 ∧ ¬ ((b + 10 : Nat) : Int) = 1 ∧ ¬ ((b + 10 : Nat) : Int) = 2 ∧ ¬ ((b + 10 : Nat) : Int) = 3 ∧ 0 ≤ (b : Int) ∧ (b : Int) < 141 := by
  refine ⟨EqI.of ((wr_s (by omega) (by omega)).trans (by omega)), EqI.of ((wr_s (by omega) (by omega)).trans (by omega)), by omega, by omega, by omega, by omega, by omega, by omega⟩
set_option maxHeartbeats 400000 in
theorem trun {M : aM} (hI : INV Wl M) {m : Nat} (hm : m ≤ 60) {y : Int} (hy : (0 ≤ y ∧ y ≤ 3) ∨ (10 ≤ y ∧ y ≤ 17)) (w : Int) : ∃ v M1 M2, run 7 140 38 [.inr (some 1), .inl (m : Int), .inl y, .inl w] [] M = some (some (.inl v), M1) ∧ run 6 242 43 [.inr (some 53), .inl (m : Int), .inl y, .inr none] [] M1 = some (some (.inl v), M2) ∧ INV Wl M2 ∧ M2 0 = M 0 ∧ M1 54 = M 54 := by
  obtain ⟨T, hC, hR, hT, hZ⟩ := hI.1
  obtain ⟨h0, L, D, l1, l2, l3, l4, l5⟩ := hI.2.2.2.2
  have hB : LBx (M 52) (M 64) L D := ⟨l1, l5⟩
  have hl2 : LRx (M 64) L D M := ⟨l4, l3, rfl⟩
  have t4 : isT 4 := Or.inl rfl
  obtain ⟨M1, d1, d2, d3⟩ := s108 (k := 12) (t := 4) t12 t4 (by decide) M
  have hd : ∀ q, ¬ (12 ≤ q ∧ q ≤ 15) → M1 q = M q := fun q hq => d3 q (by omega) (by omega) (by omega) (by omega)
  have hC1 := d2 T hC
  have hl1 : LCx (M 52) L D M1 := LCx.mv ⟨l2, rfl⟩ (fun q _ _ => hd q (by omega))
  obtain ⟨Ta, M2, Ra, a1, a2, a3, a4, a5⟩ := mrun t12 hB hm hC1 hR hT hZ hl1 hl2
  have hq1 : ∀ q, ¬ (12 ≤ q ∧ q ≤ 15) → q ≠ 24 → q ≠ 25 → q ≠ 26 → M2 q = M q := fun q c0 c1 c2 c3 => (a4 q c1 c2 c3 (by omega)).trans (hd q c0)
  obtain ⟨R1, r1, r2, r3⟩ := s186 (a := 54) (b := 55) (Or.inl rfl) (Or.inr (Or.inl rfl)) (by decide) M2
  have hq2 : ∀ q, ¬ (12 ≤ q ∧ q ≤ 15) → q ≠ 24 → q ≠ 25 → q ≠ 26 → q ≠ 55 → R1 q = M q := fun q c0 c1 c2 c3 c4 => (r3 q c4).trans (hq1 q c0 c1 c2 c3)
  obtain ⟨T', M3, R2, b1, b2, b3, b4, b5⟩ := mrun t12 hB hm hC1 (R := R1) (hR.mv (hq2 54 (by decide) (by decide) (by decide) (by decide) (by decide))) hT hZ hl1 (hl2.mv (by rw [hq2 53 (by decide) (by decide) (by decide) (by decide) (by decide)]) (fun q _ _ => hq2 q (by omega) (by omega) (by omega) (by omega) (by omega)))
  have e : M3 = M2 := by rw [a1] at b1; injection b1 with b1; injection b1 with _ b1; exact b1.symm
  subst e
  obtain ⟨R3, u1, u2, u3⟩ := s186 (a := 55) (b := 54) (Or.inr (Or.inl rfl)) (Or.inl rfl) (by decide) R2
  obtain ⟨bC, bR, bT, bZ, b6, b7, b8, b9⟩ := b3
  have hq3 : ∀ q, ¬ (12 ≤ q ∧ q ≤ 15) → q ≠ 24 → q ≠ 25 → q ≠ 26 → q ≠ 53 → q ≠ 54 → q ≠ 55 → q ≠ 69 → q ≠ 70 → R3 q = M q := fun q c0 c1 c2 c3 c4 c5 c6 c7 c8 => by
    rw [u3 q c5, b5.1 q c4 c5 c7 c8]; exact hq2 q c0 c1 c2 c3 c6
  have h53 : ∀ j, j ≠ 29 → j ≠ 30 → R3 53 j = M 53 j := fun j c1 c2 => by rw [u3 53 (by decide), b5.2 j c1 c2, hq2 53 (by decide) (by decide) (by decide) (by decide) (by decide)]
  have hTR3 : TR R3 54 T := fun j hj => by
    rw [u2 j hj, b5.1 55 (by decide) (by decide) (by decide) (by decide), r2 j hj, hq1 54 (by decide) (by decide) (by decide) (by decide)]; exact hR j hj
  have hk : ∀ q, keepQ q = true → ¬ (12 ≤ q ∧ q ≤ 15) ∧ q ≠ 24 ∧ q ≠ 25 ∧ q ≠ 26 ∧ q ≠ 53 ∧ q ≠ 55 ∧ q ≠ 69 ∧ q ≠ 70 := fun q hq => by
    unfold keepQ at hq
    simp only [Bool.or_eq_true, Bool.and_eq_true, decide_eq_true_eq, beq_iff_eq] at hq
    omega
  have hw : ∀ q, 4 ≤ q → q ≤ 7 → R3 q = M q := fun q c1 c2 => hq3 q (by omega) (by omega) (by omega) (by omega) (by omega) (by omega) (by omega) (by omega) (by omega)
  have hI3 : INV Wl R3 := INV.town WM_l hI ⟨T, hC.mv (hw 4 (by decide) (by decide)) (hw 5 (by decide) (by decide)) (hw 6 (by decide) (by decide)) (hw 7 (by decide) (by decide)), hTR3, hT, hZ⟩ (fun q c1 c2 c3 => by
    obtain ⟨k1, k2, k3, k4, k5, k6, k7, k8⟩ := hk q c1
    exact hq3 q k1 k2 k3 k4 k5 c3 k6 k7 k8) (by rw [hq3 1 (by decide) (by decide) (by decide) (by decide) (by decide) (by decide) (by decide) (by decide) (by decide)]) (h53 49 (by decide) (by decide)) (h53 13 (by decide) (by decide)) (Or.inl ⟨by rw [hq3 2 (by decide) (by decide) (by decide) (by decide) (by decide) (by decide) (by decide) (by decide) (by decide)], h53 4 (by decide) (by decide)⟩)
  have h54 : M3 54 = M 54 := hq1 54 (by decide) (by decide) (by decide) (by decide)
  have h00 : R3 0 = M 0 := hq3 0 (by decide) (by decide) (by decide) (by decide) (by decide) (by decide) (by decide) (by decide) (by decide)
  have fin : ∀ v : Int, run 6 242 117 [.inr (some 53), .inl (m : Int), .inl y, .inr none] [.inl v] R2 = some (some (.inl v), R3) := fun v => by rw [B_242_117, u1, bV_s]
  have y0 : y = 0 ∨ y = 1 ∨ y = 2 ∨ y = 3 ∨ 10 ≤ y := by omega
  rcases y0 with rfl | rfl | rfl | rfl | y10
  · refine ⟨M3 26 0, M3, R3, ?_, ?_, hI3, h00, h54⟩
    · rw [B_140_38, d1, bV_s, a1, bV_s, if_pos rfl]
    · rw [B_242_43, r1, bV_s, b2, bV_s, if_pos rfl, fin, b8]
  · refine ⟨M3 26 1, M3, R3, ?_, ?_, hI3, h00, h54⟩
    · rw [B_140_38, d1, bV_s, a1, bV_s, if_neg (by decide), if_pos rfl]
    · rw [B_242_43, r1, bV_s, b2, bV_s, if_neg (by decide), if_pos rfl, fin, b9]
  · refine ⟨sg T' 8, M3, R3, ?_, ?_, hI3, h00, h54⟩
    · rw [B_140_38, d1, bV_s, a1, bV_s, if_neg (by decide), if_neg (by decide), if_pos rfl, s124 t12 bC bT, bI_s]
    · rw [B_242_43, r1, bV_s, b2, bV_s, if_neg (by decide), if_neg (by decide), if_pos rfl, s241 bR bT bZ, bI_s, fin]
  · refine ⟨aAll T', M3, R3, ?_, ?_, hI3, h00, h54⟩
    · rw [B_140_38, d1, bV_s, a1, bV_s, if_neg (by decide), if_neg (by decide), if_neg (by decide), if_pos rfl, s125 t12 bC bT, bI_s]
    · rw [B_242_43, r1, bV_s, b2, bV_s, if_neg (by decide), if_neg (by decide), if_neg (by decide), if_pos rfl, s194 bR bT, bI_s, fin]
  · have y17 : y ≤ 17 := by omega
    obtain ⟨b, hb, rfl⟩ := tenth y10 y17
    obtain ⟨w1, w2, n0, n1, n2, n3, n4⟩ := tenth_w hb
    have f1 := B_140_38 (m : Int) ((b + 10 : Nat) : Int) w M
    have f2 := B_242_43 (m : Int) ((b + 10 : Nat) : Int) M3
    have b141 : b < 141 := Nat.lt_of_lt_of_le hb (by decide)
    rw [d1, bV_s, a1, bV_s, if_neg n0, if_neg n1, if_neg n2, if_neg n3, w1.e, s114 t12 hb, bI_s, bC.1 b hb] at f1
    rw [r1, bV_s, b2, bV_s, if_neg n0, if_neg n1, if_neg n2, if_neg n3, w2.e, w1.e, if_pos n4, Int.toNat_natCast, bR b b141, fin] at f2
    exact ⟨T' b, M3, R3, f1, f2, hI3, h00, h54⟩
set_option maxHeartbeats 400000 in
theorem c_tried (x y : Int) (hy : inR y) : OK2 Wl 140 242 [.inl x, .inl y] := fun M hI _ => by
  obtain ⟨T, hC, hR, hT, hZ⟩ := hI.1
  have t4 : isT 4 := Or.inl rfl
  have e109 := s109 t4 hC hT (wr (y - 10))
  by_cases hx : 1 ≤ x ∧ x ≤ 60
  case neg =>
    refine ⟨-1, M, M, ?_, ?_, hI, rfl⟩
    · rw [E_140, e109, bI_s]
      by_cases h1 : x < 1
      · rw [if_pos h1]
      · rw [if_neg h1, if_pos (by omega)]
    · rw [E_242, s181, bI_s, bI1_f hx, if_pos rfl]
  obtain ⟨m, hm, rfl⟩ : ∃ m : Nat, m ≤ 60 ∧ x = (m : Int) := ⟨x.toNat, by omega, by omega⟩
  by_cases hy3 : 0 ≤ y ∧ y ≤ 3
  · have w1 : wr (y - 10) = y - 10 := wr_s (by omega) (by omega)
    have n0 : ¬ tb (tk T) (wr (y - 10)) := fun z => by have := z.1; omega
    obtain ⟨v, M1, M2, p1, p2, p3, p4, p5⟩ := trun hI hm (Or.inl hy3) 0
    refine ⟨v, M1, M2, ?_, ?_, p3, p4⟩
    · rw [E_140, e109, bI_s, bI1_f n0, if_neg (by omega), if_neg (by omega), if_pos rfl, if_neg (by omega), if_pos (by omega)]; exact p1
    · rw [E_242, s181, bI_s, bI1_t hx, if_neg (by decide), s181, bI_s, bI1_t hy3, if_neg (by decide)]; exact p2
  by_cases ht : tb (tk T) (wr (y - 10))
  · have h17 : 10 ≤ y ∧ y ≤ 17 := Decidable.byContradiction fun z => wr10 hy z ⟨ht.1, ht.2.1⟩
    obtain ⟨v, M1, M2, p1, p2, p3, p4, p5⟩ := trun hI hm (Or.inr h17) 1
    refine ⟨v, M1, M2, ?_, ?_, p3, p4⟩
    · rw [E_140, e109, bI_s, bI1_t ht, if_neg (by omega), if_neg (by omega), if_neg (by decide)]; exact p1
    · rw [E_242, s181, bI_s, bI1_t hx, if_neg (by decide), s181, bI_s, bI1_f hy3, if_pos rfl, s181, bI_s, bI1_t h17, if_neg (by decide), s187 (hR.mv p5) hT, bI_s, bI1_t ht, if_neg (by decide)]; exact p2
  · refine ⟨-1, M, M, ?_, ?_, hI, rfl⟩
    · rw [E_140, e109, bI_s, bI1_f ht, if_neg (by omega), if_neg (by omega), if_pos rfl]
      by_cases h1 : y < 0
      · rw [if_pos h1]
      · rw [if_neg h1, if_neg (by omega)]
    · rw [E_242, s181, bI_s, bI1_t hx, if_neg (by decide), s181, bI_s, bI1_f hy3, if_pos rfl, s181, bI_s]
      by_cases h17 : 10 ≤ y ∧ y ≤ 17
      · rw [bI1_t h17, if_neg (by decide), s187 hR hT, bI_s, bI1_f ht, if_pos rfl]
      · rw [bI1_f h17, if_pos rfl]
end MOC
