/-! All pay at once: the reference. -/
section RCL
variable {T c : Nat → Int} {M : aM}
theorem d_le (hT : TI T) {a b : Nat} (ha : a < 8) (hb : b < 8) : T (8 + (8 * a + b)) ≤ aOwes T a := by
  unfold aOwes
  have h1 := sg_ex (f := fun e => T (8 + (8 * a + e))) (b := b) (n := 8) hb
  have h2 := sg_nn (f := fun e => if e = b then 0 else T (8 + (8 * a + e))) (n := 8) (fun i hi => by
    have := dI hT ha hi
    split <;> omega)
  omega
theorem gQ_r (hT : TI T) {p : Nat → Int} {a b : Nat} (ha : a < 8) (hb : b < 8) : gQ T p b a = if T (8 + (8 * a + b)) ≤ 0 then 0 else (T (8 + (8 * a + b)) * p a).tdiv (aOwes T a) := by
  have h1 := d_le hT ha hb
  have h2 := dI hT ha hb
  unfold gQ
  by_cases h : T (8 + (8 * a + b)) ≤ 0
  · rw [if_pos h, show T (8 + (8 * a + b)) = 0 by omega, Int.zero_mul, Int.zero_tdiv]
    split <;> rfl
  · rw [if_neg h, if_pos (by omega)]
def RCl (T c : Nat → Int) (p f : Nat → Int) (M : aM) : Prop := TR M 54 T ∧ (∀ b, b < 8 → M 76 b = c b) ∧ (∀ b, b < 8 → M 74 b = aOwes T b) ∧ (∀ b, b < 8 → M 72 b = p b) ∧ ∀ b, b < 8 → M 75 b = if f b = 0 then -2 else f b
theorem s247 {p f : Nat → Int} (hT : TI T) (hp : PB T p) (h : RCl T c p f M) : ∃ M', fnA 247 [.inr (some 53)] M = some (none, M') ∧ (∀ b, b < 8 → M' 73 b = gP T p b) ∧ ∀ q, q ≠ 73 → M' q = M q := by
  obtain ⟨h1, h2, h3, h4, h5⟩ := h
  rw [E_247]
  obtain ⟨s', hs, he⟩ := upR (fun i (s : aM × aV) => run 1 247 2 [.inr (some 53), .inl i, s.2] [] s.1) (fun i s => (∀ b, b < i → s.1 73 b = gP T p b) ∧ ∀ q, q ≠ 73 → s.1 q = M q) 8 (by decide) (fun i s hi hs => by
    obtain ⟨M2, v⟩ := s
    dsimp only at hs ⊢
    obtain ⟨g1, g2⟩ := hs
    obtain ⟨M3, ⟨k1, k2, k3⟩, ke⟩ := upM8 (fun j M' => run 1 247 17 [.inr (some 53), .inl (i : Int), .inl j] [] M') (fun j M' => (∀ b, b < i → M' 73 b = gP T p b) ∧ M' 73 i = sg (gQ T p i) j ∧ ∀ q, q ≠ 73 → M' q = M q) (fun j M' hj hI => by
      obtain ⟨k1, k2, k3⟩ := hI
      have i0 : ¬ (8 : Int) ≤ (j : Int) := by omega
      have i1 : 0 ≤ (j : Int) ∧ (j : Int) < 8 := by omega
      have i2 : 0 ≤ (i : Int) ∧ (i : Int) < 8 := by omega
      have i3 : 0 ≤ ((8 + (8 * j + i) : Nat) : Int) ∧ ((8 + (8 * j + i) : Nat) : Int) < 141 := by omega
      have rT : M' 54 (8 + (8 * j + i)) = T (8 + (8 * j + i)) := by rw [k3 54 (by decide)]; exact h1 _ (by omega)
      have r74 : M' 74 j = aOwes T j := by rw [k3 74 (by decide)]; exact h3 j hj
      have r72 : M' 72 j = p j := by rw [k3 72 (by decide)]; exact h4 j hj
      by_cases hz : T (8 + (8 * j + i)) ≤ 0
      · refine ⟨M', ?_, k1, ?_, k3⟩
        · rw [B_247_17, if_neg i0, s190 hj hi, bI_s, if_pos i3, Int.toNat_natCast, rT, if_pos hz]
        · rw [k2, sg_s, gQ_r hT hj hi, if_pos hz, Int.add_zero]
      · have d := dI hT hj hi
        have hpp := hp j hj
        have ho := aOwes_b hT hj
        have dl := d_le hT hj hi
        have b1 := gQ_b hT hp hj hi
        have b2 : 0 ≤ sg (gQ T p i) j := sg_nn (fun x hx => (gQ_b hT hp (by omega) hi).1)
        have b3 : sg (gQ T p i) j ≤ 999 * (j : Nat) := (sg_b (c := 999) (fun x hx => by have := gQ_b hT hp (a := x) (b := i) (by omega) hi; have := dI hT (a := x) (b := i) (by omega) hi; omega)).2
        have hD : (T (8 + (8 * j + i)) * p j) ≤ 999 * 7992 := Int.le_trans (Int.mul_le_mul_of_nonneg_right d.2 hpp.1) (Int.mul_le_mul_of_nonneg_left (by omega) (by decide))
        have hD0 : 0 ≤ T (8 + (8 * j + i)) * p j := Int.mul_nonneg d.1 hpp.1
        have hq : gQ T p i j = (T (8 + (8 * j + i)) * p j).tdiv (aOwes T j) := by rw [gQ_r hT hj hi, if_neg hz]
        have o0 : ¬ aOwes T j = 0 := by omega
        have w1 : wr (T (8 + (8 * j + i)) * p j) = T (8 + (8 * j + i)) * p j := wr_s (by omega) (by omega)
        have w2 : wr (gQ T p i j) = gQ T p i j := wr_s (by omega) (by omega)
        have w3 : wr (sg (gQ T p i) j + gQ T p i j) = sg (gQ T p i) (j + 1) := wr_s (by omega) (by omega)
        refine ⟨upM M' 73 i (sg (gQ T p i) (j + 1)), ?_, fun b hb => ?_, up_s, fun q hq => by rw [up_ne hq]; exact k3 q hq⟩
        · rw [B_247_17, if_neg i0, s190 hj hi, bI_s, if_pos i3, Int.toNat_natCast, rT, if_neg hz, if_pos i2, s190 hj hi, bI_s, if_pos i3, if_pos i1, if_pos i1, Int.toNat_natCast, Int.toNat_natCast, Int.toNat_natCast, r74, if_neg o0, if_pos i2, rT, r72, w1, ← hq, w2, k2, w3]
        · rw [up_j (by omega)]; exact k1 b hb) (M := upM M2 73 i 0) ⟨fun b hb => by rw [up_j (by omega)]; exact g1 b hb, up_s, fun q hq => by rw [up_ne hq]; exact g2 q hq⟩
    refine ⟨(M3, .inl 8), ?_, fun b hb => ?_, k3⟩
    · rw [B_247_2, if_neg (by omega), if_pos (by omega), Int.toNat_natCast]
      refine Eq.trans ke ?_
      rw [B_247_17, if_pos (by decide)]
    · show M3 73 b = _
      by_cases e : b = i
      · rw [e, k2]; rfl
      · exact k1 b (by omega)) 8 0 (M, .inr none) (by omega) ⟨fun b hb => absurd hb (by omega), fun _ _ => rfl⟩
  obtain ⟨M', v⟩ := s'
  obtain ⟨k1, k2⟩ := hs
  refine ⟨M', ?_, k1, k2⟩
  refine Eq.trans he ?_
  dsimp only
  rw [B_247_2, if_pos (by decide)]
theorem s248 {p f : Nat → Int} {r : Nat} (hr : r ≤ 70000) (hT : TI T) (hc : CB c) (hp : PB T p) (hf0 : ∀ b, 0 ≤ f b) (h : RCl T c p f M) (h36 : M 53 36 = (r : Int)) : ∃ M', fnA 248 [.inr (some 53)] M = some (some (.inl (bI1 (lessP T c p))), M') ∧ RCl T c (nP T c p) (nF T c p f ((r + 1 : Nat) : Int)) M' ∧ (∀ b, b < 8 → M' 73 b = gP T p b) ∧ ∀ q, q ≠ 72 → q ≠ 73 → q ≠ 75 → M' q = M q := by
  obtain ⟨M1, e1, e2, e3⟩ := s247 hT hp h
  obtain ⟨h1, h2, h3, h4, h5⟩ := h
  rw [E_248, e1, bV_s]
  obtain ⟨s', hs, he⟩ := upR (fun i (s : aM × aV) => run 2 248 8 [.inr (some 53), .inl (bI1 (lessN T c p i.toNat)), .inl i, s.2] [] s.1) (fun i s => (∀ b, b < 8 → s.1 72 b = if b < i then nP T c p b else p b) ∧ (∀ b, b < 8 → s.1 75 b = if (if b < i then nF T c p f ((r + 1 : Nat) : Int) b else f b) = 0 then -2 else (if b < i then nF T c p f ((r + 1 : Nat) : Int) b else f b)) ∧ ∀ q, q ≠ 72 → q ≠ 75 → s.1 q = M1 q) 8 (by decide) (fun i s hi hs => by
    obtain ⟨M2, v⟩ := s
    dsimp only at hs ⊢
    obtain ⟨g1, g2, g3⟩ := hs
    have i0 : ¬ (8 : Int) ≤ (i : Int) := by omega
    have i1 : 0 ≤ (i : Int) ∧ (i : Int) < 8 := by omega
    have i2 : ¬ i < i := Nat.lt_irrefl i
    have i3 : i < i + 1 := Nat.lt_succ_self i
    have i4 : ∀ b, b ≠ i → (b < i + 1 ↔ b < i) := fun b hb => by omega
    have wr1 : wr ((r : Int) + 1) = ((r + 1 : Nat) : Int) := by rw [wr_s (by omega) (by omega)]; rfl
    have ew : wr ((i : Int) + 1) = ((i + 1 : Nat) : Int) := by rw [wr_s (by omega) (by omega)]; rfl
    have b1 := gP_b hT hp hi
    have b2 := hc i hi
    have wc : wr (c i + gP T p i) = c i + gP T p i := wr_s (by omega) (by omega)
    have r74 : M2 74 i = aOwes T i := by rw [g3 74 (by decide) (by decide), e3 74 (by decide)]; exact h3 i hi
    have r76 : M2 76 i = c i := by rw [g3 76 (by decide) (by decide), e3 76 (by decide)]; exact h2 i hi
    have r73 : M2 73 i = gP T p i := by rw [g3 73 (by decide) (by decide)]; exact e2 i hi
    have r72 : M2 72 i = p i := by rw [g1 i hi, if_neg i2]
    have r75 : M2 75 i = if f i = 0 then -2 else f i := by rw [g2 i hi, if_neg i2]
    have r36 : M2 53 36 = (r : Int) := by rw [g3 53 (by decide) (by decide), e3 53 (by decide)]; exact h36
    have hcan : min (M2 74 i) (wr (M2 76 i + M2 73 i)) = canP T c p i := by rw [r74, r76, r73, wc]; rfl
    have hfi := hf0 i
    rw [ew, Int.toNat_natCast, Int.toNat_natCast]
    by_cases hl : canP T c p i < p i
    · have hb : bI1 (lessN T c p (i + 1)) = 1 := bI1_t (lessN_s.mpr (Or.inr hl))
      rw [hb]
      have hn : nP T c p i = canP T c p i := by unfold nP; rw [if_pos hl]
      by_cases hf : f i = 0
      · have hff : nF T c p f ((r + 1 : Nat) : Int) i = ((r + 1 : Nat) : Int) := by unfold nF; rw [if_pos ⟨hl, hf⟩]
        have hx : M2 75 i = -2 := by rw [r75, if_pos hf]
        have r0 : ¬ ((r + 1 : Nat) : Int) = 0 := by clear hb hn hl b1 b2 hfi hff; omega
        refine ⟨(upM (upM M2 72 i (canP T c p i)) 75 i ((r + 1 : Nat) : Int), .inl (canP T c p i)), ?_, fun b hb => ?_, fun b hb => ?_, fun q a1 a2 => by dsimp only; rw [up_ne a2, up_ne a1]; exact g3 q a1 a2⟩
        · rw [B_248_8, if_neg i0, if_pos i1, if_pos i1, if_pos i1, s182, bI_s, Int.toNat_natCast, hcan, if_pos i1, r72, if_pos hl, if_pos i1, if_pos i1, up_o (by decide), hx, if_pos rfl, if_pos i1, up_o (by decide), r36, wr1, ew]
        · dsimp only
          rw [up_o (by decide), up_r]
          by_cases e : b = i
          · rw [if_pos ⟨rfl, e⟩, e, if_pos i3, hn]
          · rw [if_neg (fun z => e z.2), g1 b hb]
            by_cases e2 : b < i
            · rw [if_pos e2, if_pos ((i4 b e).mpr e2)]
            · rw [if_neg e2, if_neg (fun z => e2 ((i4 b e).mp z))]
        · dsimp only
          rw [up_r, up_o (by decide)]
          by_cases e : b = i
          · rw [if_pos ⟨rfl, e⟩, e, if_pos i3, hff, if_neg r0]
          · rw [if_neg (fun z => e z.2), g2 b hb]
            by_cases e2 : b < i
            · rw [if_pos e2, if_pos ((i4 b e).mpr e2)]
            · rw [if_neg e2, if_neg (fun z => e2 ((i4 b e).mp z))]
      · have hff : nF T c p f ((r + 1 : Nat) : Int) i = f i := by unfold nF; rw [if_neg (fun z => hf z.2)]
        have hx : ¬ M2 75 i = -2 := by rw [r75, if_neg hf]; clear hb hn hl b1 b2 hff hcan r75 r72 r73 r74 r76; omega
        refine ⟨(upM M2 72 i (canP T c p i), .inl (canP T c p i)), ?_, fun b hb => ?_, fun b hb => ?_, fun q a1 a2 => by dsimp only; rw [up_ne a1]; exact g3 q a1 a2⟩
        · rw [B_248_8, if_neg i0, if_pos i1, if_pos i1, if_pos i1, s182, bI_s, Int.toNat_natCast, hcan, if_pos i1, r72, if_pos hl, if_pos i1, if_pos i1, up_o (by decide), if_neg hx, ew]
        · dsimp only
          rw [up_r]
          by_cases e : b = i
          · rw [if_pos ⟨rfl, e⟩, e, if_pos i3, hn]
          · rw [if_neg (fun z => e z.2), g1 b hb]
            by_cases e2 : b < i
            · rw [if_pos e2, if_pos ((i4 b e).mpr e2)]
            · rw [if_neg e2, if_neg (fun z => e2 ((i4 b e).mp z))]
        · dsimp only
          rw [up_o (by decide), g2 b hb]
          by_cases e : b = i
          · rw [e, if_neg i2, if_pos i3, hff]
          · by_cases e2 : b < i
            · rw [if_pos e2, if_pos ((i4 b e).mpr e2)]
            · rw [if_neg e2, if_neg (fun z => e2 ((i4 b e).mp z))]
    · have hb : bI1 (lessN T c p (i + 1)) = bI1 (lessN T c p i) := bI1_c (by rw [lessN_s]; exact ⟨fun z => z.resolve_right hl, Or.inl⟩)
      rw [hb]
      have hn : nP T c p i = p i := by unfold nP; rw [if_neg hl]
      have hff : nF T c p f ((r + 1 : Nat) : Int) i = f i := by unfold nF; rw [if_neg (fun z => hl z.1)]
      refine ⟨(M2, .inl (canP T c p i)), ?_, fun b hb => ?_, fun b hb => ?_, g3⟩
      · rw [B_248_8, if_neg i0, if_pos i1, if_pos i1, if_pos i1, s182, bI_s, Int.toNat_natCast, hcan, if_pos i1, r72, if_neg hl, ew]
      · dsimp only
        rw [g1 b hb]
        by_cases e : b = i
        · rw [e, if_neg i2, if_pos i3, hn]
        · by_cases e2 : b < i
          · rw [if_pos e2, if_pos ((i4 b e).mpr e2)]
          · rw [if_neg e2, if_neg (fun z => e2 ((i4 b e).mp z))]
      · dsimp only
        rw [g2 b hb]
        by_cases e : b = i
        · rw [e, if_neg i2, if_pos i3, hff]
        · by_cases e2 : b < i
          · rw [if_pos e2, if_pos ((i4 b e).mpr e2)]
          · rw [if_neg e2, if_neg (fun z => e2 ((i4 b e).mp z))]) 8 0 (M1, .inr none) (by omega) ⟨fun b hb => by dsimp only; rw [if_neg (show ¬ b < 0 from Nat.not_lt_zero b), e3 72 (by decide)]; exact h4 b hb, fun b hb => by dsimp only; rw [if_neg (show ¬ b < 0 from Nat.not_lt_zero b), e3 75 (by decide)]; exact h5 b hb, fun _ _ _ => rfl⟩
  obtain ⟨M', v⟩ := s'
  obtain ⟨g1, g2, g3⟩ := hs
  dsimp only at g1 g2 g3
  refine ⟨M', ?_, ⟨?_, ?_, ?_, fun b hb => by have := g1 b hb; rw [if_pos hb] at this; exact this, fun b hb => by have := g2 b hb; rw [if_pos hb] at this; exact this⟩, fun b hb => ?_, fun q a1 a2 a3 => by rw [g3 q a1 a3]; exact e3 q a2⟩
  · have e0 : bI1 (lessN T c p 0) = 0 := bI1_f (fun ⟨b, hb, _⟩ => absurd hb (by omega))
    have he' : run 2 248 8 [.inr (some 53), .inl (bI1 (lessN T c p 0)), .inl 0, .inr none] [] M1 = run 2 248 8 [.inr (some 53), .inl (bI1 (lessN T c p 8)), .inl 8, v] [] M' := he
    rw [e0] at he'
    rw [he', B_248_8, if_pos (by decide), if_pos bI1_01]
    rfl
  · exact h1.mv (by rw [g3 54 (by decide) (by decide), e3 54 (by decide)])
  · intro j hj; rw [g3 76 (by decide) (by decide), e3 76 (by decide)]; exact h2 j hj
  · intro j hj; rw [g3 74 (by decide) (by decide), e3 74 (by decide)]; exact h3 j hj
  · rw [g3 73 (by decide) (by decide)]; exact e2 b hb
/-- the cash that is there, one bank helped or struck -/
def cV (T : Nat → Int) (b0 more : Int) (b : Nat) : Int := max 0 (T b + if (b : Int) = b0 then more else 0)
theorem cV_b (hT : TI T) {b0 more : Int} (h1 : -9999 ≤ more) (h2 : more ≤ 9999) : CB (cV T b0 more) := fun b hb => by
  have := hT.2.2.1 b hb
  unfold cV
  split <;> omega
def rclQ (q : Nat) : Bool := q == 53 || q == 72 || q == 73 || q == 74 || q == 75 || q == 76
theorem rclQ_n {q : Nat} (h : rclQ q = false) : q ≠ 53 ∧ q ≠ 72 ∧ q ≠ 73 ∧ q ≠ 74 ∧ q ≠ 75 ∧ q ≠ 76 := by
  unfold rclQ at h
  simp only [Bool.or_eq_false_iff, beq_eq_false_iff_ne] at h
  omega
theorem s249 (hR : TR M 54 T) (hT : TI T) {b0 more : Int} (hm1 : -9999 ≤ more) (hm2 : more ≤ 9999) {K : Nat} (hK : CE T (cV T b0 more) K) : ∃ M', fnA 249 [.inr (some 53), .inl b0, .inl more] M = some (some (.inl (fM T (cV T b0 more) K : Int)), M') ∧ (∀ b, b < 8 → M' 72 b = itP T (cV T b0 more) K b) ∧ (∀ b, b < 8 → M' 73 b = gP T (itP T (cV T b0 more) K) b) ∧ (∀ b, b < 8 → M' 75 b = if itF T (cV T b0 more) K b = 0 then -2 else itF T (cV T b0 more) K b) ∧ M' 53 36 = (K : Int) ∧ (∀ q, rclQ q = false → M' q = M q) ∧ ∀ j, j ≠ 36 → M' 53 j = M 53 j := by
  have hcb := cV_b (T := T) (b0 := b0) hT hm1 hm2
  rw [E_249]
  obtain ⟨M1, ⟨a1, a2, a3, a4, a5⟩, ae⟩ := upM8 (fun i M' => run 3 249 2 [.inr (some 53), .inl b0, .inl more, .inl i, .inr none] [] M') (fun i M' => (∀ b, b < i → M' 74 b = aOwes T b) ∧ (∀ b, b < i → M' 72 b = aOwes T b) ∧ (∀ b, b < i → M' 75 b = -2) ∧ (∀ b, b < i → M' 76 b = cV T b0 more b) ∧ ∀ q, q ≠ 72 → q ≠ 74 → q ≠ 75 → q ≠ 76 → M' q = M q) (fun i M' hi hI => by
    obtain ⟨g1, g2, g3, g4, g5⟩ := hI
    have i0 : ¬ (8 : Int) ≤ (i : Int) := by omega
    have i1 : 0 ≤ (i : Int) ∧ (i : Int) < 8 := by omega
    have i2 : 0 ≤ (i : Int) ∧ (i : Int) < 141 := by omega
    have i4 : ∀ b, b < i + 1 → b ≠ i → b < i := fun b h1 h2 => by omega
    have hR' : TR M' 54 T := hR.mv (g5 54 (by decide) (by decide) (by decide) (by decide))
    have ti := hT.2.2.1 i hi
    have w1 : wr (T i + more) = T i + more := wr_s (by omega) (by omega)
    have w2 : wr (T i + 0) = T i + 0 := wr_s (by omega) (by omega)
    let M2 := upM (upM (upM M' 74 i (aOwes T i)) 72 i (aOwes T i)) 75 i (-2)
    have h54 : M2 54 i = T i := by
      show upM _ _ _ _ 54 i = _
      rw [up_o (by decide), up_o (by decide), up_o (by decide)]
      exact hR' i (by omega)
    refine ⟨upM M2 76 i (cV T b0 more i), ?_, fun b hb => ?_, fun b hb => ?_, fun b hb => ?_, fun b hb => ?_, fun q b1 b2 b3 b4 => ?_⟩
    · rw [B_249_2, if_neg i0, s192 hR' hT hi, bI_s, if_pos i1, if_pos i1, if_pos i1, if_pos i1, ix0 hi, if_pos i2, Int.toNat_natCast, up_s]
      rw [show upM (upM (upM M' 74 i (aOwes T i)) 72 i (aOwes T i)) 75 i (-2) = M2 from rfl, h54]
      by_cases e : (i : Int) = b0
      · rw [if_pos e, B_249_63, s183, bI_s, w1, if_pos i1, Int.toNat_natCast, show max 0 (T i + more) = cV T b0 more i by unfold cV; rw [if_pos e]]
      · rw [if_neg e, B_249_63, s183, bI_s, w2, if_pos i1, Int.toNat_natCast, show max 0 (T i + 0) = cV T b0 more i by unfold cV; rw [if_neg e]]
    · rw [up_o (by decide)]
      show upM _ _ _ _ _ _ = _
      rw [up_o (by decide), up_o (by decide), up_r]
      by_cases e : b = i
      · rw [if_pos ⟨rfl, e⟩, e]
      · rw [if_neg (fun z => e z.2)]; exact g1 b (i4 b hb e)
    · rw [up_o (by decide)]
      show upM _ _ _ _ _ _ = _
      rw [up_o (by decide), up_r, up_o (by decide)]
      by_cases e : b = i
      · rw [if_pos ⟨rfl, e⟩, e]
      · rw [if_neg (fun z => e z.2)]; exact g2 b (i4 b hb e)
    · rw [up_o (by decide)]
      show upM _ _ _ _ _ _ = _
      rw [up_r, up_o (by decide), up_o (by decide)]
      by_cases e : b = i
      · rw [if_pos ⟨rfl, e⟩]
      · rw [if_neg (fun z => e z.2)]; exact g3 b (i4 b hb e)
    · rw [up_r]
      by_cases e : b = i
      · rw [if_pos ⟨rfl, e⟩, e]
      · rw [if_neg (fun z => e z.2)]
        show upM _ _ _ _ _ _ = _
        rw [up_o (by decide), up_o (by decide), up_o (by decide)]; exact g4 b (i4 b hb e)
    · rw [up_ne b4]
      show upM _ _ _ _ q = _
      rw [up_ne b3, up_ne b1, up_ne b2]; exact g5 q b1 b2 b3 b4) (M := M) ⟨fun b hb => absurd hb (Nat.not_lt_zero b), fun b hb => absurd hb (Nat.not_lt_zero b), fun b hb => absurd hb (Nat.not_lt_zero b), fun b hb => absurd hb (Nat.not_lt_zero b), fun _ _ _ _ _ => rfl⟩
  rw [ae, B_249_2, if_pos (by decide)]
  have key : ∀ n k, k + n = K → ∀ M2, RCl T (cV T b0 more) (itP T (cV T b0 more) k) (itF T (cV T b0 more) k) M2 → M2 53 36 = (k : Int) → (∀ q, rclQ q = false → M2 q = M q) → (∀ j, j ≠ 36 → M2 53 j = M 53 j) → ∃ M', run 3 249 79 [.inr (some 53), .inl b0, .inl more, .inl 8, .inr none] [] M2 = run 3 249 104 [.inr (some 53), .inl b0, .inl more, .inl 0, .inl 0] [] M' ∧ RCl T (cV T b0 more) (itP T (cV T b0 more) K) (itF T (cV T b0 more) K) M' ∧ (∀ b, b < 8 → M' 73 b = gP T (itP T (cV T b0 more) K) b) ∧ M' 53 36 = (K : Int) ∧ (∀ q, rclQ q = false → M' q = M q) ∧ ∀ j, j ≠ 36 → M' 53 j = M 53 j := by
    intro n
    induction n with
    | zero =>
      intro k hk M2 hC h6 hf hj
      have hkK : k = K := by omega
      subst hkK
      obtain ⟨M4, c1, c2, c4, c3⟩ := s248 (r := k) (by have := hK.1; omega) hT hcb (itP_b hT hcb k) (fun b => (F_b k b).1) hC h6
      have hnl := hK.2.2
      refine ⟨M4, ?_, ?_, c4, ?_, fun q hq => ?_, fun j h => ?_⟩
      · rw [B_249_79, c1, bI_s, bI1_f hnl, if_pos rfl]
      · have e1 : ∀ b, b < 8 → nP T (cV T b0 more) (itP T (cV T b0 more) k) b = itP T (cV T b0 more) k b := fun b hb => by
          unfold nP; rw [if_neg (fun z => hnl ⟨b, hb, z⟩)]
        have e2 : ∀ b, b < 8 → nF T (cV T b0 more) (itP T (cV T b0 more) k) (itF T (cV T b0 more) k) ((k + 1 : Nat) : Int) b = itF T (cV T b0 more) k b := fun b hb => by
          unfold nF; rw [if_neg (fun z => hnl ⟨b, hb, z.1⟩)]
        obtain ⟨d1, d2, d3, d4, d5⟩ := c2
        exact ⟨d1, d2, d3, fun b hb => (d4 b hb).trans (e1 b hb), fun b hb => by rw [d5 b hb, e2 b hb]⟩
      · rw [c3 53 (by decide) (by decide) (by decide)]; exact h6
      · have hq' := rclQ_n hq
        rw [c3 q hq'.2.1 hq'.2.2.1 hq'.2.2.2.2.1]
        exact hf q hq
      · rw [c3 53 (by decide) (by decide) (by decide)]; exact hj j h
    | succ n ih =>
      intro k hk M2 hC h6 hf hj
      have hl := hK.1
      have w1 : wr ((k : Int) + 1) = ((k + 1 : Nat) : Int) := by rw [wr_s (by omega) (by omega)]; rfl
      obtain ⟨M4, c1, c2, c4, c3⟩ := s248 (r := k) (by omega) hT hcb (itP_b hT hcb k) (fun b => (F_b k b).1) hC h6
      have hll := hK.2.1 k (by omega)
      obtain ⟨M', f1, f2⟩ := ih (k + 1) (by omega) (upM M4 53 36 ((k + 1 : Nat) : Int)) (by
        obtain ⟨d1, d2, d3, d4, d5⟩ := c2
        unfold RCl
        rw [up_ne (by decide), up_ne (by decide), up_ne (by decide), up_ne (by decide)]
        exact ⟨d1.mv (up_ne (by decide)), d2, d3, d4, d5⟩) up_s (fun q hq => by
        have hq' := rclQ_n hq
        rw [up_ne hq'.1, c3 q hq'.2.1 hq'.2.2.1 hq'.2.2.2.2.1]
        exact hf q hq) (fun j h => by rw [up_j h, c3 53 (by decide) (by decide) (by decide)]; exact hj j h)
      refine ⟨M', ?_, f2⟩
      rw [B_249_79, c1, bI_s, bI1_t hll, if_neg (by decide), c3 53 (by decide) (by decide) (by decide), h6, w1]
      exact f1
  obtain ⟨M3, f1, f2, f3, f4, f5, f6⟩ := key K 0 (by omega) (upM M1 53 36 0) (by
    unfold RCl
    rw [up_ne (by decide), up_ne (by decide), up_ne (by decide), up_ne (by decide)]
    exact ⟨hR.mv (by rw [up_ne (by decide), a5 54 (by decide) (by decide) (by decide) (by decide)]), a4, a1, a2, fun b hb => by rw [a3 b hb]; rfl⟩) up_s (fun q hq => by
    have hq' := rclQ_n hq
    rw [up_ne hq'.1]; exact a5 q hq'.2.1 hq'.2.2.2.1 hq'.2.2.2.2.1 hq'.2.2.2.2.2) (fun j h => by rw [up_j h, a5 53 (by decide) (by decide) (by decide) (by decide)])
  rw [f1]
  obtain ⟨d1, d2, d3, d4, d5⟩ := f2
  refine ⟨M3, ?_, d4, f3, d5, f4, f5, f6⟩
  obtain ⟨s', hs, he⟩ := upR (fun i (s : Int) => run 3 249 104 [.inr (some 53), .inl b0, .inl more, .inl s, .inl i] [] M3) (fun i s => s = (cdB (fun b => aOwes T b - itP T (cV T b0 more) K b) i : Int)) 8 (by decide) (fun i s hi hs => by
    subst hs
    have i0 : ¬ (8 : Int) ≤ (i : Int) := by omega
    have i1 : 0 ≤ (i : Int) ∧ (i : Int) < 8 := by omega
    have h1 := cdB_8 (fun b => aOwes T b - itP T (cV T b0 more) K b) (n := i) (by omega)
    have h2 := cdB_8 (fun b => aOwes T b - itP T (cV T b0 more) K b) (n := i + 1) (by omega)
    refine ⟨_, ?_, rfl⟩
    rw [B_249_104, if_neg i0, if_pos i1, if_pos i1, Int.toNat_natCast, d3 i hi, d4 i hi]
    rw [cdB_s] at h2
    rw [cdB_s]
    by_cases e : aOwes T i - itP T (cV T b0 more) K i ≤ 0
    · rw [if_pos e, if_pos (by omega)]
    · rw [if_neg e] at h2
      rw [if_neg e, if_neg (by omega), iShl_1 (by omega), iOr_n (by omega)]) 8 0 0 (by omega) rfl
  subst hs
  refine Eq.trans he ?_
  rw [B_249_104, if_pos (by decide), fM_r hT hcb]
end RCL
