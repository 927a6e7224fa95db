/-! All pay at once: the class. -/
section CCL
variable {T c : Nat → Int} {M : aM}
/-- loops whose state is the memory, from 0 -/
theorem upM8 (G : Int → aM → aX) (I : Nat → aM → Prop) (hs : ∀ i M, i < 8 → I i M → ∃ M', G (i : Int) M = G (wr ((i : Int) + 1)) M' ∧ I (i + 1) M') {M : aM} (h0 : I 0 M) : ∃ M', I 8 M' ∧ G 0 M = G 8 M' := upR G I 8 (by decide) hs 8 0 M (by omega) h0
theorem s13 {k : Nat} (hk : isT k) (hC : TC M k T) (hT : TI T) : ∃ M', fnA 13 [.inr (some 27), .inr (some k)] M = some (none, M') ∧ (∀ j, j < 64 → M' 28 j = T (8 + j)) ∧ (∀ b, b < 8 → M' 29 b = T b) ∧ (∀ b, b < 8 → M' 30 b = aOwes T b) ∧ ∀ q, q ≠ 28 → q ≠ 29 → q ≠ 30 → M' q = M q := by
  have hkk : k ≠ 28 ∧ k ≠ 29 ∧ k ≠ 30 ∧ k + 1 ≠ 28 ∧ k + 1 ≠ 29 ∧ k + 1 ≠ 30 ∧ k + 2 ≠ 28 ∧ k + 2 ≠ 29 ∧ k + 2 ≠ 30 ∧ k + 3 ≠ 28 ∧ k + 3 ≠ 29 ∧ k + 3 ≠ 30 := by
    rcases hk with rfl | rfl | rfl <;> decide
  obtain ⟨p1, p2, p3, p4, p5, p6, p7, p8, p9, p10, p11, p12⟩ := hkk
  have hCm : ∀ M', (∀ q, q ≠ 28 → q ≠ 29 → q ≠ 30 → M' q = M q) → TC M' k T := fun M' h => hC.mv (h k p1 p2 p3) (h _ p4 p5 p6) (h _ p7 p8 p9) (h _ p10 p11 p12)
  rw [E_13 _ _ hk]
  obtain ⟨s', hs, he⟩ := upR (fun i (s : aM × aV) => run 2 13 2 [.inr (some 27), .inr (some k), .inl i, s.2] [] s.1) (fun i s => (∀ j, j < 8 * i → s.1 28 j = T (8 + j)) ∧ (∀ b, b < i → s.1 29 b = T b) ∧ (∀ b, b < i → s.1 30 b = aOwes T b) ∧ ∀ q, q ≠ 28 → q ≠ 29 → q ≠ 30 → s.1 q = M q) 8 (by decide) (fun i s hi hs => by
    obtain ⟨M1, v⟩ := s
    dsimp only at hs ⊢
    obtain ⟨h1, h2, h3, h4⟩ := hs
    have c1 := hCm M1 h4
    have c2 : TC (upM M1 29 i (T i)) k T := hCm _ (fun q a1 a2 a3 => by rw [up_ne a2]; exact h4 q a1 a2 a3)
    let M2 := upM (upM M1 29 i (T i)) 30 i (aOwes T i)
    have h42 : ∀ q, q ≠ 28 → q ≠ 29 → q ≠ 30 → M2 q = M q := fun q a1 a2 a3 => by show upM _ _ _ _ q = _; rw [up_ne a3, up_ne a2]; exact h4 q a1 a2 a3
    have h12 : ∀ j, M2 28 j = M1 28 j := fun j => by show upM _ _ _ _ 28 j = _; rw [up_o (by decide), up_o (by decide)]
    obtain ⟨M3, g, he⟩ := upM8 (fun j M' => run 2 13 32 [.inr (some 27), .inr (some k), .inl (i : Int), .inl j] [] M') (fun j M' => (∀ x, x < 8 * i + j → M' 28 x = T (8 + x)) ∧ ∀ q, q ≠ 28 → M' q = M2 q) (fun j M' hj hI => by
      obtain ⟨g1, g2⟩ := hI
      have c3 : TC M' k T := hCm M' (fun q a1 a2 a3 => by rw [g2 q a1]; exact h42 q a1 a2 a3)
      refine ⟨upM M' 28 (8 * i + j) (T (8 + (8 * i + j))), ?_, fun x hx => ?_, fun q a1 => by rw [up_ne a1]; exact g2 q a1⟩
      · rw [B_13_32 _ _ _ _ hk, if_neg (by omega), s116 hk hi hj, bI_s, ix8 hi hj, if_pos (by omega), Int.toNat_natCast, c3.2.1 _ (by omega)]
      · rw [up_r]
        by_cases e : x = 8 * i + j
        · rw [if_pos ⟨rfl, e⟩, e]
        · rw [if_neg (fun z => e z.2)]; exact g1 x (by omega)) (M := M2) ⟨fun x hx => by rw [h12]; exact h1 x (by omega), fun _ _ => rfl⟩
    obtain ⟨g1, g2⟩ := g
    refine ⟨(M3, .inl 8), ?_, fun j hj => g1 j (by omega), fun b hb => ?_, fun b hb => ?_, fun q a1 a2 a3 => (g2 q a1).trans (h42 q a1 a2 a3)⟩
    · rw [B_13_2 _ _ _ _ hk, if_neg (by omega), s114 hk hi, bI_s, if_pos (by omega), c1.1 i hi, Int.toNat_natCast, s121 hk c2 hT hi, bI_s, if_pos (by omega)]
      refine Eq.trans he ?_
      rw [B_13_32 _ _ _ _ hk, if_pos (by decide)]
    · show M3 29 b = _
      rw [g2 29 (by decide)]
      show upM _ _ _ _ 29 b = _
      rw [up_o (by decide), up_r]
      by_cases e : b = i
      · rw [if_pos ⟨rfl, e⟩, e]
      · rw [if_neg (fun z => e z.2)]; exact h2 b (by omega)
    · show M3 30 b = _
      rw [g2 30 (by decide)]
      show upM _ _ _ _ 30 b = _
      rw [up_r, up_o (by decide)]
      by_cases e : b = i
      · rw [if_pos ⟨rfl, e⟩, e]
      · rw [if_neg (fun z => e z.2)]; exact h3 b (by omega)) 8 0 (M, .inr none) (by omega) ⟨fun j hj => absurd hj (by omega), fun b hb => absurd hb (by omega), fun b hb => absurd hb (by omega), fun _ _ _ _ => rfl⟩
  obtain ⟨M', v⟩ := s'
  obtain ⟨h1, h2, h3, h4⟩ := hs
  refine ⟨M', ?_, h1, h2, h3, h4⟩
  refine Eq.trans he ?_
  dsimp only
  rw [B_13_2 _ _ _ _ hk, if_pos (by decide)]
def CCl (T c : Nat → Int) (p f : Nat → Int) (M : aM) : Prop := (∀ j, j < 64 → M 28 j = T (8 + j)) ∧ (∀ b, b < 8 → M 29 b = c b) ∧ (∀ b, b < 8 → M 30 b = aOwes T b) ∧ (∀ b, b < 8 → M 31 b = p b) ∧ ∀ b, b < 8 → M 33 b = f b
theorem s16 {p f : Nat → Int} (hT : TI T) (hp : PB T p) (h : CCl T c p f M) : ∃ M', fnA 16 [.inr (some 27)] M = some (none, M') ∧ (∀ b, b < 8 → M' 32 b = gP T p b) ∧ ∀ q, q ≠ 32 → M' q = M q := by
  obtain ⟨h1, h2, h3, h4, h5⟩ := h
  rw [E_16]
  obtain ⟨M1, ⟨a1, a2⟩, ae⟩ := upM8 (fun i M' => run 0 16 2 [.inr (some 27), .inl i, .inr none] [] M') (fun i M' => (∀ b, b < i → M' 32 b = 0) ∧ ∀ q, q ≠ 32 → M' q = M q) (fun i M' hi hI => by
    obtain ⟨g1, g2⟩ := hI
    refine ⟨upM M' 32 i 0, ?_, fun b hb => ?_, fun q hq => by rw [up_ne hq]; exact g2 q hq⟩
    · rw [B_16_2, if_neg (by omega), if_pos (by omega), Int.toNat_natCast]
    · rw [up_r]
      by_cases e : b = i
      · rw [if_pos ⟨rfl, e⟩]
      · rw [if_neg (fun z => e z.2)]; exact g1 b (by omega)) (M := M) ⟨fun b hb => absurd hb (by omega), fun _ _ => rfl⟩
  rw [ae, B_16_2, if_pos (by decide)]
  obtain ⟨s', hs, he⟩ := upR (fun i (s : aM × aV) => run 0 16 23 [.inr (some 27), .inl i, s.2] [] s.1) (fun i s => (∀ b, b < 8 → s.1 32 b = sg (gQ T p b) i) ∧ ∀ q, q ≠ 32 → s.1 q = M q) 8 (by decide) (fun i s hi hs => by
    obtain ⟨M2, v⟩ := s
    dsimp only at hs ⊢
    obtain ⟨g1, g2⟩ := hs
    have e30 : M2 30 i = aOwes T i := by rw [g2 30 (by decide)]; exact h3 i hi
    by_cases hz : aOwes T i ≤ 0
    · refine ⟨(M2, v), ?_, fun b hb => ?_, g2⟩
      · rw [B_16_23, if_neg (by omega), if_pos (by omega), Int.toNat_natCast, e30, if_pos hz]
      · show M2 32 b = _
        rw [g1 b hb, sg_s, show gQ T p b i = 0 from if_neg (by omega), Int.add_zero]
    · obtain ⟨M3, ⟨k1, k2⟩, ke⟩ := upM8 (fun j M' => run 0 16 40 [.inr (some 27), .inl (i : Int), .inl j] [] M') (fun j M' => (∀ b, b < 8 → M' 32 b = if b < j then sg (gQ T p b) (i + 1) else sg (gQ T p b) i) ∧ ∀ q, q ≠ 32 → M' q = M q) (fun j M' hj hI => by
        obtain ⟨k1, k2⟩ := hI
        have d := dI hT hi hj
        have hpp := hp i hi
        have ho := aOwes_b hT hi
        have b1 := gQ_b hT hp hi hj
        have b2 : 0 ≤ sg (gQ T p j) i := sg_nn (fun x hx => (gQ_b hT hp (by omega) hj).1)
        have b3 : sg (gQ T p j) i ≤ 999 * (i : Nat) := (sg_b (c := 999) (fun x hx => by have := gQ_b hT hp (a := x) (b := j) (by omega) hj; have := dI hT (a := x) (b := j) (by omega) hj; omega)).2
        have hD : (T (8 + (8 * i + j)) * p i) ≤ 999 * 7992 := Int.le_trans (Int.mul_le_mul_of_nonneg_right d.2 hpp.1) (Int.mul_le_mul_of_nonneg_left (by omega) (by decide))
        have hD0 : 0 ≤ T (8 + (8 * i + j)) * p i := Int.mul_nonneg d.1 hpp.1
        have hq : gQ T p j i = (T (8 + (8 * i + j)) * p i).tdiv (aOwes T i) := by unfold gQ; rw [if_pos (by omega)]
        refine ⟨upM M' 32 j (sg (gQ T p j) (i + 1)), ?_, fun b hb => ?_, fun q hq => by rw [up_ne hq]; exact k2 q hq⟩
        · have r30 : M' 30 i = aOwes T i := by rw [k2 30 (by decide)]; exact h3 i hi
          rw [B_16_40, if_neg (by omega), if_pos (by omega), ix8 hi hj, if_pos (by omega), if_pos (by omega), if_pos (by omega), Int.toNat_natCast, Int.toNat_natCast, Int.toNat_natCast, r30, if_neg (by omega), if_pos (by omega), k2 28 (by decide), k2 31 (by decide), h1 _ (by omega), h4 i hi, k1 j hj, if_neg (by omega), wr_s (z := T _ * _) (by omega) (by omega), ← hq, wr_s (z := gQ T p j i) (by omega) (by omega), wr_s (z := sg _ _ + _) (by omega) (by omega), sg_s]
        · rw [up_r]
          by_cases e : b = j
          · rw [if_pos ⟨rfl, e⟩, e, if_pos (by omega)]
          · rw [if_neg (fun z => e z.2), k1 b hb]
            by_cases e2 : b < j
            · rw [if_pos e2, if_pos (by omega)]
            · rw [if_neg e2, if_neg (by omega)]) (M := M2) ⟨fun b hb => by rw [if_neg (by omega)]; exact g1 b hb, g2⟩
      refine ⟨(M3, .inl 8), ?_, fun b hb => (k1 b hb).trans (if_pos hb), k2⟩
      rw [B_16_23, if_neg (by omega), if_pos (by omega), Int.toNat_natCast, e30, if_neg hz]
      refine Eq.trans ke ?_
      rw [B_16_40, if_pos (by decide)]) 8 0 (M1, .inr none) (by omega) ⟨fun b hb => a1 b hb, a2⟩
  obtain ⟨M', v⟩ := s'
  obtain ⟨k1, k2⟩ := hs
  refine ⟨M', ?_, k1, k2⟩
  refine Eq.trans he ?_
  dsimp only
  rw [B_16_23, if_pos (by decide)]
/-- somebody of the first n pays less -/
def lessN (T c p : Nat → Int) (n : Nat) : Prop := ∃ b, b < n ∧ canP T c p b < p b
theorem lessN_s {p : Nat → Int} {n : Nat} : lessN T c p (n + 1) ↔ lessN T c p n ∨ canP T c p n < p n := by
  constructor
  · rintro ⟨b, h1, h2⟩
    by_cases e : b = n
    · subst e; exact Or.inr h2
    · exact Or.inl ⟨b, by omega, h2⟩
  · rintro (⟨b, h1, h2⟩ | h)
    · exact ⟨b, by omega, h2⟩
    · exact ⟨n, by omega, h⟩
theorem s17 {p f : Nat → Int} {r : Nat} (hT : TI T) (hc : CB c) (hp : PB T p) (h : CCl T c p f M) (hg : ∀ b, b < 8 → M 32 b = gP T p b) : ∃ M', fnA 17 [.inr (some 27), .inl (r : Int)] M = some (some (.inl (bI1 (lessP T c p))), M') ∧ CCl T c (nP T c p) (nF T c p f (r : Int)) M' ∧ ∀ q, q ≠ 31 → q ≠ 33 → M' q = M q := by
  obtain ⟨h1, h2, h3, h4, h5⟩ := h
  rw [E_17]
  obtain ⟨s', hs, he⟩ := upR (fun i (s : aM × aV) => run 1 17 4 [.inr (some 27), .inl (r : Int), .inl (bI1 (lessN T c p i.toNat)), .inl i, s.2] [] s.1) (fun i s => (∀ b, b < 8 → s.1 31 b = if b < i then nP T c p b else p b) ∧ (∀ b, b < 8 → s.1 33 b = if b < i then nF T c p f (r : Int) b else f b) ∧ ∀ q, q ≠ 31 → q ≠ 33 → s.1 q = M q) 8 (by decide) (fun i s hi hs => by
    obtain ⟨M2, v⟩ := s
    dsimp only at hs ⊢
    obtain ⟨g1, g2, g3⟩ := hs
    have i0 : ¬ (8 : Int) ≤ (i : Int) := by omega
    have i1 : 0 ≤ (i : Int) ∧ (i : Int) < 8 := by omega
    have i2 : ¬ i < i := Nat.lt_irrefl i
    have i3 : i < i + 1 := Nat.lt_succ_self i
    have i4 : ∀ b, b ≠ i → (b < i + 1 ↔ b < i) := fun b hb => by omega
    have b1 := gP_b hT hp hi
    have b2 := hc i hi
    have r30 : M2 30 i = aOwes T i := by rw [g3 30 (by decide) (by decide)]; exact h3 i hi
    have r29 : M2 29 i = c i := by rw [g3 29 (by decide) (by decide)]; exact h2 i hi
    have r32 : M2 32 i = gP T p i := by rw [g3 32 (by decide) (by decide)]; exact hg i hi
    have r31 : M2 31 i = p i := by rw [g1 i hi, if_neg i2]
    have r33 : M2 33 i = f i := by rw [g2 i hi, if_neg i2]
    have hcan : min (M2 30 i) (wr (M2 29 i + M2 32 i)) = canP T c p i := by rw [r30, r29, r32, wr_s (by clear r30 r29 r32 r31 r33; omega) (by clear r30 r29 r32 r31 r33; omega)]; rfl
    have ew : wr ((i : Int) + 1) = ((i + 1 : Nat) : Int) := by clear r30 r29 r32 r31 r33 hcan b1 b2; rw [wr_s (by omega) (by omega)]; rfl
    rw [ew, Int.toNat_natCast, Int.toNat_natCast]
    by_cases hl : canP T c p i < p i
    · have hb : bI1 (lessN T c p (i + 1)) = 1 := bI1_t (lessN_s.mpr (Or.inr hl))
      rw [hb]
      have hn : nP T c p i = canP T c p i := by unfold nP; rw [if_pos hl]
      by_cases hf : f i = 0
      · have hff : nF T c p f (r : Int) i = (r : Int) := by unfold nF; rw [if_pos ⟨hl, hf⟩]
        refine ⟨(upM (upM M2 31 i (canP T c p i)) 33 i (r : Int), .inl (canP T c p i)), ?_, fun b hb => ?_, fun b hb => ?_, fun q a1 a2 => by dsimp only; rw [up_ne a2, up_ne a1]; exact g3 q a1 a2⟩
        · rw [B_17_4, if_neg i0, if_pos i1, if_pos i1, if_pos i1, if_pos i1, Int.toNat_natCast, hcan, r31, if_neg (Int.not_le.mpr hl), if_pos i1, if_pos i1, up_o (by decide), r33, if_pos hf, if_pos i1, ew]
        · dsimp only
          rw [up_o (by decide), up_r]
          by_cases e : b = i
          · rw [if_pos ⟨rfl, e⟩, e, if_pos i3, hn]
          · rw [if_neg (fun z => e z.2), g1 b hb]
            by_cases e2 : b < i
            · rw [if_pos e2, if_pos ((i4 b e).mpr e2)]
            · rw [if_neg e2, if_neg (fun z => e2 ((i4 b e).mp z))]
        · dsimp only
          rw [up_r, up_o (by decide)]
          by_cases e : b = i
          · rw [if_pos ⟨rfl, e⟩, e, if_pos i3, hff]
          · rw [if_neg (fun z => e z.2), g2 b hb]
            by_cases e2 : b < i
            · rw [if_pos e2, if_pos ((i4 b e).mpr e2)]
            · rw [if_neg e2, if_neg (fun z => e2 ((i4 b e).mp z))]
      · have hff : nF T c p f (r : Int) i = f i := by unfold nF; rw [if_neg (fun z => hf z.2)]
        refine ⟨(upM M2 31 i (canP T c p i), .inl (canP T c p i)), ?_, fun b hb => ?_, fun b hb => ?_, fun q a1 a2 => by dsimp only; rw [up_ne a1]; exact g3 q a1 a2⟩
        · rw [B_17_4, if_neg i0, if_pos i1, if_pos i1, if_pos i1, if_pos i1, Int.toNat_natCast, hcan, r31, if_neg (Int.not_le.mpr hl), if_pos i1, if_pos i1, up_o (by decide), r33, if_neg hf, ew]
        · dsimp only
          rw [up_r]
          by_cases e : b = i
          · rw [if_pos ⟨rfl, e⟩, e, if_pos i3, hn]
          · rw [if_neg (fun z => e z.2), g1 b hb]
            by_cases e2 : b < i
            · rw [if_pos e2, if_pos ((i4 b e).mpr e2)]
            · rw [if_neg e2, if_neg (fun z => e2 ((i4 b e).mp z))]
        · dsimp only
          rw [up_o (by decide), g2 b hb]
          by_cases e : b = i
          · rw [e, if_neg i2, if_pos i3, hff]
          · by_cases e2 : b < i
            · rw [if_pos e2, if_pos ((i4 b e).mpr e2)]
            · rw [if_neg e2, if_neg (fun z => e2 ((i4 b e).mp z))]
    · have hb : bI1 (lessN T c p (i + 1)) = bI1 (lessN T c p i) := bI1_c (by rw [lessN_s]; exact ⟨fun z => z.resolve_right hl, Or.inl⟩)
      rw [hb]
      have hn : nP T c p i = p i := by unfold nP; rw [if_neg hl]
      have hff : nF T c p f (r : Int) i = f i := by unfold nF; rw [if_neg (fun z => hl z.1)]
      refine ⟨(M2, .inl (canP T c p i)), ?_, fun b hb => ?_, fun b hb => ?_, g3⟩
      · rw [B_17_4, if_neg i0, if_pos i1, if_pos i1, if_pos i1, if_pos i1, Int.toNat_natCast, hcan, r31, if_pos (Int.not_lt.mp hl), ew]
      · dsimp only
        rw [g1 b hb]
        by_cases e : b = i
        · rw [e, if_neg i2, if_pos i3, hn]
        · by_cases e2 : b < i
          · rw [if_pos e2, if_pos ((i4 b e).mpr e2)]
          · rw [if_neg e2, if_neg (fun z => e2 ((i4 b e).mp z))]
      · dsimp only
        rw [g2 b hb]
        by_cases e : b = i
        · rw [e, if_neg i2, if_pos i3, hff]
        · by_cases e2 : b < i
          · rw [if_pos e2, if_pos ((i4 b e).mpr e2)]
          · rw [if_neg e2, if_neg (fun z => e2 ((i4 b e).mp z))]) 8 0 (M, .inr none) (by omega) ⟨fun b hb => by rw [if_neg (by omega)]; exact h4 b hb, fun b hb => by rw [if_neg (by omega)]; exact h5 b hb, fun _ _ _ => rfl⟩
  obtain ⟨M', v⟩ := s'
  obtain ⟨g1, g2, g3⟩ := hs
  dsimp only at g1 g2 g3
  refine ⟨M', ?_, ⟨?_, ?_, ?_, fun b hb => by have := g1 b hb; rw [if_pos hb] at this; exact this, fun b hb => by have := g2 b hb; rw [if_pos hb] at this; exact this⟩, g3⟩
  · have e0 : bI1 (lessN T c p 0) = 0 := bI1_f (fun ⟨b, hb, _⟩ => absurd hb (by omega))
    have he' : run 1 17 4 [.inr (some 27), .inl (r : Int), .inl (bI1 (lessN T c p 0)), .inl 0, .inr none] [] M = run 1 17 4 [.inr (some 27), .inl (r : Int), .inl (bI1 (lessN T c p 8)), .inl 8, v] [] M' := he
    rw [e0] at he'
    rw [he', B_17_4, if_pos (by decide), if_pos bI1_01]
    rfl
  · intro j hj; rw [g3 28 (by decide) (by decide)]; exact h1 j hj
  · intro j hj; rw [g3 29 (by decide) (by decide)]; exact h2 j hj
  · intro j hj; rw [g3 30 (by decide) (by decide)]; exact h3 j hj
def clrQ (q : Nat) : Bool := q == 27 || q == 28 || q == 29 || q == 30 || q == 31 || q == 32 || q == 33
/-- paid at once -/
theorem s15 (hT : TI T) (hc : CB c) {K : Nat} (hK : CE T c K) (h1 : ∀ j, j < 64 → M 28 j = T (8 + j)) (h2 : ∀ b, b < 8 → M 29 b = c b) (h3 : ∀ b, b < 8 → M 30 b = aOwes T b) : ∃ M', fnA 15 [.inr (some 27)] M = some (none, M') ∧ CCl T c (itP T c K) (itF T c K) M' ∧ (∀ b, b < 8 → M' 32 b = gP T (itP T c K) b) ∧ M' 27 6 = (K : Int) ∧ ∀ q, clrQ q = false → M' q = M q := by
  rw [E_15]
  obtain ⟨M1, ⟨a1, a2, a3⟩, ae⟩ := upM8 (fun i M' => run 2 15 7 [.inr (some 27), .inl i] [] M') (fun i M' => (∀ b, b < i → M' 31 b = aOwes T b) ∧ (∀ b, b < i → M' 33 b = 0) ∧ ∀ q, q ≠ 31 → q ≠ 33 → M' q = upM M 27 6 0 q) (fun i M' hi hI => by
    obtain ⟨g1, g2, g3⟩ := hI
    have r30 : M' 30 i = aOwes T i := by rw [g3 30 (by decide) (by decide), up_o (by decide)]; exact h3 i hi
    refine ⟨upM (upM M' 31 i (aOwes T i)) 33 i 0, ?_, fun b hb => ?_, fun b hb => ?_, fun q b1 b2 => by rw [up_ne b2, up_ne b1]; exact g3 q b1 b2⟩
    · rw [B_15_7, if_neg (by omega), if_pos (by omega), if_pos (by omega), if_pos (by omega), Int.toNat_natCast, r30]
    · rw [up_o (by decide), up_r]
      by_cases e : b = i
      · rw [if_pos ⟨rfl, e⟩, e]
      · rw [if_neg (fun z => e z.2)]; exact g1 b (by omega)
    · rw [up_r, up_o (by decide)]
      by_cases e : b = i
      · rw [if_pos ⟨rfl, e⟩]
      · rw [if_neg (fun z => e z.2)]; exact g2 b (by omega)) (M := upM M 27 6 0) ⟨fun b hb => absurd hb (by omega), fun b hb => absurd hb (by omega), fun _ _ _ => rfl⟩
  rw [ae, B_15_7, if_pos (by decide)]
  have key : ∀ n k, k + n = K → ∀ M2, CCl T c (itP T c k) (itF T c k) M2 → M2 27 6 = (k : Int) → (∀ q, clrQ q = false → M2 q = M q) → ∃ M', run 2 15 40 [.inr (some 27), .inl ((k + 1 : Nat) : Int)] [] M2 = some (none, M') ∧ CCl T c (itP T c K) (itF T c K) M' ∧ (∀ b, b < 8 → M' 32 b = gP T (itP T c K) b) ∧ M' 27 6 = (K : Int) ∧ ∀ q, clrQ q = false → M' q = M q := by
    intro n
    induction n with
    | zero =>
      intro k hk M2 hC h6 hf
      have hkK : k = K := by omega
      subst hkK
      have hl := hK.1
      obtain ⟨M3, b1, b2, b3⟩ := s16 hT (itP_b hT hc k) hC
      have hC3 : CCl T c (itP T c k) (itF T c k) M3 := by
        obtain ⟨d1, d2, d3, d4, d5⟩ := hC
        unfold CCl
        rw [b3 28 (by decide), b3 29 (by decide), b3 30 (by decide), b3 31 (by decide), b3 33 (by decide)]
        exact ⟨d1, d2, d3, d4, d5⟩
      obtain ⟨M4, c1, c2, c3⟩ := s17 (r := k + 1) hT hc (itP_b hT hc k) hC3 b2
      have hnl := hK.2.2
      refine ⟨M4, ?_, ?_, fun b hb => ?_, ?_, fun q hq => ?_⟩
      · rw [B_15_40, if_neg (by omega), b1, bV_s, c1, bI_s, bI1_f hnl, if_pos rfl]
      · have e1 : ∀ b, b < 8 → nP T c (itP T c k) b = itP T c k b := fun b hb => by
          unfold nP; rw [if_neg (fun z => hnl ⟨b, hb, z⟩)]
        have e2 : ∀ b, b < 8 → nF T c (itP T c k) (itF T c k) ((k + 1 : Nat) : Int) b = itF T c k b := fun b hb => by
          unfold nF; rw [if_neg (fun z => hnl ⟨b, hb, z.1⟩)]
        obtain ⟨d1, d2, d3, d4, d5⟩ := c2
        exact ⟨d1, d2, d3, fun b hb => (d4 b hb).trans (e1 b hb), fun b hb => (d5 b hb).trans (e2 b hb)⟩
      · rw [c3 32 (by decide) (by decide)]; exact b2 b hb
      · rw [c3 27 (by decide) (by decide), b3 27 (by decide)]; exact h6
      · have hq' := hq
        unfold clrQ at hq'
        simp only [Bool.or_eq_false_iff, beq_eq_false_iff_ne] at hq'
        rw [c3 q (by omega) (by omega), b3 q (by omega)]
        exact hf q hq
    | succ n ih =>
      intro k hk M2 hC h6 hf
      have hl := hK.1
      obtain ⟨M3, b1, b2, b3⟩ := s16 hT (itP_b hT hc k) hC
      have hC3 : CCl T c (itP T c k) (itF T c k) M3 := by
        obtain ⟨d1, d2, d3, d4, d5⟩ := hC
        unfold CCl
        rw [b3 28 (by decide), b3 29 (by decide), b3 30 (by decide), b3 31 (by decide), b3 33 (by decide)]
        exact ⟨d1, d2, d3, d4, d5⟩
      obtain ⟨M4, c1, c2, c3⟩ := s17 (r := k + 1) hT hc (itP_b hT hc k) hC3 b2
      have hll := hK.2.1 k (by omega)
      obtain ⟨M', f1, f2⟩ := ih (k + 1) (by omega) (upM M4 27 6 ((k + 1 : Nat) : Int)) (by
        obtain ⟨d1, d2, d3, d4, d5⟩ := c2
        unfold CCl
        rw [up_ne (by decide), up_ne (by decide), up_ne (by decide), up_ne (by decide), up_ne (by decide)]
        exact ⟨d1, d2, d3, d4, d5⟩) up_s (fun q hq => by
        have hq' := hq
        unfold clrQ at hq'
        simp only [Bool.or_eq_false_iff, beq_eq_false_iff_ne] at hq'
        rw [up_ne (by omega), c3 q (by omega) (by omega), b3 q (by omega)]
        exact hf q hq)
      refine ⟨M', ?_, f2⟩
      rw [B_15_40, if_neg (by omega), b1, bV_s, c1, bI_s, bI1_t hll, if_neg (by decide), wr_s (by omega) (by omega)]
      exact f1
  exact key K 0 (by omega) M1 ⟨fun j hj => by rw [a3 28 (by decide) (by decide), up_o (by decide)]; exact h1 j hj, fun j hj => by rw [a3 29 (by decide) (by decide), up_o (by decide)]; exact h2 j hj, fun j hj => by rw [a3 30 (by decide) (by decide), up_o (by decide)]; exact h3 j hj, a1, a2⟩ (by rw [a3 27 (by decide) (by decide), up_s]; rfl) (fun q hq => by
    unfold clrQ at hq
    simp only [Bool.or_eq_false_iff, beq_eq_false_iff_ne] at hq
    rw [a3 q (by omega) (by omega), up_ne (by omega)])
theorem s21 (M : aM) : fnA 21 [.inr (some 27)] M = some (some (.inl (cdB (M 33) 8 : Int)), M) := by
  rw [E_21]
  obtain ⟨s', hs, he⟩ := upR (fun i (s : Int) => run 0 21 4 [.inr (some 27), .inl s, .inl i] [] M) (fun i s => s = (cdB (M 33) i : Int)) 8 (by decide) (fun i s hi hs => by
    subst hs
    have h1 := cdB_8 (M 33) (n := i) (by omega)
    have h2 := cdB_8 (M 33) (n := i + 1) (by omega)
    refine ⟨_, ?_, rfl⟩
    rw [B_21_4, if_neg (by omega), if_pos (by omega), Int.toNat_natCast]
    rw [cdB_s] at h2
    rw [cdB_s]
    by_cases e : M 33 i ≤ 0
    · rw [if_pos e, if_pos e]
    · rw [if_neg e] at h2
      rw [if_neg e, if_neg e, iShl_1 (by omega), iOr_n (by omega)]) 8 0 0 (by omega) rfl
  subst hs
  refine Eq.trans he ?_
  rw [B_21_4, if_pos (by decide)]
end CCL
