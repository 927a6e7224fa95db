/-! atOnce. -/
section ONC
variable {W : aM → Prop}
/- two loops over all pairs, ended by the first pair for which P holds -/
set_option maxHeartbeats 400000 in
theorem prs {G : Nat → Nat → aX} {P : Nat → Nat → Prop} {M : aM} (h1 : ∀ a b, a < 8 → b < 8 → (a = b ∨ ¬ P a b) → G a b = G a (b + 1)) (h2 : ∀ a b, a < 8 → b < 8 → a ≠ b → P a b → G a b = some (some (.inl 0), M)) (h3 : ∀ a, a < 7 → G a 8 = G (a + 1) 0) (h4 : G 7 8 = some (some (.inl 1), M)) : G 0 0 = some (some (.inl (bI1 (¬ ∃ a b, a < 8 ∧ b < 8 ∧ a ≠ b ∧ P a b))), M) := by
  have key : ∀ (k a b : Nat), a < 8 → b ≤ 8 → 9 * a + b + k = 71 → (∀ c d, c < 8 → d < 8 → c ≠ d → 9 * c + d < 9 * a + b → ¬ P c d) → G a b = some (some (.inl (bI1 (¬ ∃ a b, a < 8 ∧ b < 8 ∧ a ≠ b ∧ P a b))), M) := by
    intro k
    induction k with
    | zero =>
      intro a b ha hb hk hP
      have : a = 7 := by omega
      have : b = 8 := by omega
      subst a
      subst b
      rw [h4, bI1_t]
      rintro ⟨c, d, q1, q2, q3, q4⟩
      exact hP c d q1 q2 q3 (by omega) q4
    | succ k ih =>
      intro a b ha hb hk hP
      by_cases e8 : b = 8
      · subst e8
        rw [h3 a (by omega)]
        exact ih (a + 1) 0 (by omega) (by omega) (by omega) (fun c d q1 q2 q3 q4 => hP c d q1 q2 q3 (by omega))
      · by_cases hp : a ≠ b ∧ P a b
        · rw [h2 a b ha (by omega) hp.1 hp.2, bI1_f]
          exact fun z => z ⟨a, b, ha, by omega, hp.1, hp.2⟩
        · rw [h1 a b ha (by omega) (by
            by_cases e : a = b
            · exact Or.inl e
            · exact Or.inr (fun z => hp ⟨e, z⟩))]
          refine ih a (b + 1) ha (by omega) (by omega) (fun c d q1 q2 q3 q4 z => ?_)
          by_cases e : c = a ∧ d = b
          · obtain ⟨rfl, rfl⟩ := e; exact hp ⟨q3, z⟩
          · exact hP c d q1 q2 q3 (by omega) z
  exact key 71 0 0 (by omega) (by omega) (by omega) (fun c d _ _ _ h => absurd h (by omega))
section
variable {M : aM}
def cL (M : aM) (s : Nat) : Nat := (M 41 s).toNat
def cB (M : aM) (s i : Nat) : Int := M 42 (6 * s + i)
set_option maxHeartbeats 400000 in
theorem cL_i (h : CDI M) {s : Nat} (hs : s < 8) : M 41 s = (cL M s : Int) ∧ M 82 s = (cL M s : Int) ∧ cL M s ≤ 6 ∧ (∀ i, i < cL M s → cB M s i = 46 ∨ cB M s i = 45) ∧ M 83 s = bz (cB M s) (cL M s) := by
  obtain ⟨h1, h2, h3, h4, h5⟩ := h s hs
  unfold cL cB
  exact ⟨by omega, by omega, by omega, fun i hi => h4 i (by omega), h5⟩
set_option maxHeartbeats 400000 in
theorem s24 (h : CDI M) {s : Nat} (hs : s < 8) : fnA 24 [.inr (some 40), .inl (s : Int)] M = some (some (.inl (cL M s : Int)), M) := by
  rw [E_24, if_neg (by omega), if_neg (by omega), if_pos (by omega), Int.toNat_natCast, (cL_i h hs).1]
set_option maxHeartbeats 400000 in
theorem s25 {s i : Nat} (hs : s < 8) (hi : i < 6) : fnA 25 [.inr (some 40), .inl (s : Int), .inl (i : Int)] M = some (some (.inl (cB M s i)), M) := by
  have w2 : wr (wr ((s : Int) * 6) + (i : Int)) = ((6 * s + i : Nat) : Int) := by rw [wr_s (z := _ * 6) (by omega) (by omega), wr_s (by omega) (by omega)]; omega
  rw [E_25, if_neg (by omega), if_neg (by omega), if_neg (by omega), if_neg (by omega), B_25_25, if_neg (by decide), w2, if_pos (by omega), Int.toNat_natCast]
  rfl
/-- one told code begins another one -/
def BG (M : aM) (a b : Nat) : Prop := cL M a ≠ 0 ∧ cL M a ≤ cL M b ∧ ∀ i, i < cL M a → cB M a i = cB M b i
set_option maxHeartbeats 400000 in
theorem s35 (h : CDI M) {a b : Nat} (ha : a < 8) (hb : b < 8) : fnA 35 [.inr (some 40), .inl (a : Int), .inl (b : Int)] M = some (some (.inl (bI1 (BG M a b))), M) := by
  have la := (cL_i h ha).2.2.1
  have lb := (cL_i h hb).2.2.1
  rw [E_35, s24 h ha, bI_s]
  by_cases h0 : cL M a = 0
  · rw [if_pos (by omega), bI1_f (fun z => z.1 h0)]
  · rw [if_neg (by omega), s24 h hb, bI_s]
    by_cases hl : cL M a ≤ cL M b
    · rw [if_pos (by omega)]
      have key : ∀ (k i : Nat), i + k = cL M a → (∀ j, j < i → cB M a j = cB M b j) → run 1 35 24 [.inr (some 40), .inl (a : Int), .inl (b : Int), .inl (cL M a : Int), .inl (i : Int)] [] M = some (some (.inl (bI1 (BG M a b))), M) := by
        intro k
        induction k with
        | zero =>
          intro i hi h1
          rw [B_35_24, if_pos (by omega), bI1_t ⟨h0, hl, fun j hj => h1 j (by omega)⟩]
        | succ k ih =>
          intro i hi h1
          have w : wr ((i : Int) + 1) = ((i + 1 : Nat) : Int) := by rw [wr_s (by omega) (by omega)]; rfl
          rw [B_35_24, if_neg (by omega), s25 ha (by omega), bI_s, s25 hb (by omega), bI_s, w]
          by_cases g : cB M a i = cB M b i
          · rw [if_pos g]
            refine ih (i + 1) (by omega) (fun j hj => ?_)
            by_cases e : j = i
            · rw [e]; exact g
            · exact h1 j (by omega)
          · rw [if_neg g, bI1_f (fun z => g (z.2.2 i (by omega)))]
      exact key (cL M a) 0 (by omega) (fun j hj => absurd hj (Nat.not_lt_zero j))
    · rw [if_neg (by omega), bI1_f (fun z => hl z.2.1)]
set_option maxHeartbeats 400000 in
theorem s276 (h : CDI M) {a b : Nat} (ha : a < 8) (hb : b < 8) (hb0 : cL M b ≠ 0) : fnA 276 [.inr (some 53), .inl (a : Int), .inl (b : Int)] M = some (some (.inl (bI1 (BG M b a))), M) := by
  obtain ⟨-, a2, a3, a4, a5⟩ := cL_i h ha
  obtain ⟨-, b2, b3, b4, b5⟩ := cL_i h hb
  have ya : 0 ≤ (a : Int) ∧ (a : Int) < 8 := by omega
  have yb : 0 ≤ (b : Int) ∧ (b : Int) < 8 := by omega
  rw [E_276, if_pos ya, if_pos yb, Int.toNat_natCast, Int.toNat_natCast, a2, b2]
  by_cases hl : cL M b ≤ cL M a
  · have h6 := bzN_6 (cB M a) a3
    have e : bz (cB M a) (cL M a) / ((2 ^ (cL M a - cL M b) : Nat) : Int) = bz (cB M a) (cL M b) := by
      have := bz_d (cB M a) (cL M b) (cL M a - cL M b)
      rw [show cL M b + (cL M a - cL M b) = cL M a by omega] at this
      exact this
    have w : wr ((cL M a : Int) - (cL M b : Int)) = ((cL M a - cL M b : Nat) : Int) := by rw [wr_s (by omega) (by omega)]; omega
    rw [if_neg (by omega), if_pos ya, if_pos ya, if_pos yb, if_pos yb, w, a5, b5, iShr_zz h6.1 (by omega) (by omega), e]
    have hz := bz_e (f := cB M a) (g := cB M b) (n := cL M b) (fun i hi => a4 i (by omega)) b4
    by_cases g : bz (cB M a) (cL M b) = bz (cB M b) (cL M b)
    · rw [if_pos g, bI1_t ⟨hb0, hl, fun i hi => (hz.mp g i hi).symm⟩]
    · rw [if_neg g, bI1_f (fun z => g (hz.mpr (fun i hi => (z.2.2 i hi).symm)))]
  · rw [if_pos (by omega), bI1_f (fun z => hl z.2.1)]
set_option maxHeartbeats 400000 in
theorem s34 (h : CDI M) : fnA 34 [.inr (some 40)] M = some (some (.inl (bI1 (¬ ∃ a b, a < 8 ∧ b < 8 ∧ a ≠ b ∧ BG M a b))), M) := by
  rw [E_34, B_34_2, if_neg (by decide)]
  refine prs (G := fun a b => run 2 34 10 [.inr (some 40), .inl (a : Int), .inl (b : Int)] [] M) (fun a b ha hb hp => ?_) (fun a b ha hb hab hp => ?_) (fun a ha => ?_) ?_
  · have w : wr ((b : Int) + 1) = ((b + 1 : Nat) : Int) := by rw [wr_s (by omega) (by omega)]; rfl
    show run 2 34 10 [.inr (some 40), .inl (a : Int), .inl (b : Int)] [] M = _
    rw [B_34_10, if_neg (by omega), w]
    by_cases e : a = b
    · rw [if_pos (by omega)]
    · rw [if_neg (by omega), s35 h ha hb, bI_s, bI1_f (hp.resolve_left e), if_pos rfl]
  · show run 2 34 10 [.inr (some 40), .inl (a : Int), .inl (b : Int)] [] M = _
    rw [B_34_10, if_neg (by omega), if_neg (by omega), s35 h ha hb, bI_s, bI1_t hp, if_neg (by decide)]
  · have w : wr ((a : Int) + 1) = ((a + 1 : Nat) : Int) := by rw [wr_s (by omega) (by omega)]; rfl
    show run 2 34 10 [.inr (some 40), .inl (a : Int), .inl 8] [] M = run 2 34 10 [.inr (some 40), .inl ((a + 1 : Nat) : Int), .inl 0] [] M
    rw [B_34_10, if_pos (by decide), w, B_34_2, if_neg (by omega)]
  · show run 2 34 10 [.inr (some 40), .inl 7, .inl 8] [] M = _
    rw [B_34_10, if_pos (by decide), show wr (7 + 1) = 8 by decide, B_34_2, if_pos (by decide)]
set_option maxHeartbeats 400000 in
theorem s277 (h : CDI M) : fnA 277 [.inr (some 53)] M = some (some (.inl (bI1 (¬ ∃ a b, a < 8 ∧ b < 8 ∧ a ≠ b ∧ BG M b a))), M) := by
  rw [E_277, B_277_2, if_neg (by decide)]
  refine prs (G := fun a b => run 1 277 10 [.inr (some 53), .inl (a : Int), .inl (b : Int)] [] M) (P := fun a b => BG M b a) (fun a b ha hb hp => ?_) (fun a b ha hb hab hp => ?_) (fun a ha => ?_) ?_
  · have w : wr ((b : Int) + 1) = ((b + 1 : Nat) : Int) := by rw [wr_s (by omega) (by omega)]; rfl
    show run 1 277 10 [.inr (some 53), .inl (a : Int), .inl (b : Int)] [] M = _
    rw [B_277_10, if_neg (by omega), w]
    by_cases e : a = b
    · rw [if_pos (by omega)]
    · have a2 := (cL_i h ha).2.1
      have b2 := (cL_i h hb).2.1
      rw [if_neg (by omega), if_pos (by omega), Int.toNat_natCast, Int.toNat_natCast, a2, b2]
      by_cases ea : cL M a = 0
      · rw [if_pos (by omega)]
      · rw [if_neg (by omega), if_pos (by omega)]
        by_cases eb : cL M b = 0
        · rw [if_pos (by omega)]
        · rw [if_neg (by omega), s276 h ha hb eb, bI_s, bI1_f (hp.resolve_left e), if_pos rfl]
  · show run 1 277 10 [.inr (some 53), .inl (a : Int), .inl (b : Int)] [] M = _
    have a2 := (cL_i h ha).2.1
    have b2 := (cL_i h hb).2.1
    have z1 := hp.1
    have z2 := hp.2.1
    rw [B_277_10, if_neg (by omega), if_neg (by omega), if_pos (by omega), Int.toNat_natCast, Int.toNat_natCast, a2, b2, if_neg (by omega), if_pos (by omega), if_neg (by omega), s276 h ha hb z1, bI_s, bI1_t hp, if_neg (by decide)]
  · have w : wr ((a : Int) + 1) = ((a + 1 : Nat) : Int) := by rw [wr_s (by omega) (by omega)]; rfl
    show run 1 277 10 [.inr (some 53), .inl (a : Int), .inl 8] [] M = run 1 277 10 [.inr (some 53), .inl ((a + 1 : Nat) : Int), .inl 0] [] M
    rw [B_277_10, if_pos (by decide), w, B_277_2, if_neg (by omega)]
  · show run 1 277 10 [.inr (some 53), .inl 7, .inl 8] [] M = _
    rw [B_277_10, if_pos (by decide), show wr (7 + 1) = 8 by decide, B_277_2, if_pos (by decide)]
end
set_option maxHeartbeats 400000 in
theorem c_atOnce : OK2 W 169 277 [] := fun M hI _ => by
  have h := hI.2.2.2.1
  have hq : (¬ ∃ a b, a < 8 ∧ b < 8 ∧ a ≠ b ∧ BG M b a) ↔ ¬ ∃ a b, a < 8 ∧ b < 8 ∧ a ≠ b ∧ BG M a b := by
    constructor
    · rintro z ⟨a, b, h1, h2, h3, h4⟩; exact z ⟨b, a, h2, h1, Ne.symm h3, h4⟩
    · rintro z ⟨a, b, h1, h2, h3, h4⟩; exact z ⟨b, a, h2, h1, Ne.symm h3, h4⟩
  refine ⟨bI1 (¬ ∃ a b, a < 8 ∧ b < 8 ∧ a ≠ b ∧ BG M a b), M, M, ?_, ?_, hI, rfl⟩
  · rw [E_169, s34 h, bI_s]
    by_cases g : ¬ ∃ a b, a < 8 ∧ b < 8 ∧ a ≠ b ∧ BG M a b
    · rw [bI1_t g, if_neg (by decide)]
    · rw [bI1_f g, if_pos rfl]
  · rw [s277 h, bI1_c hq]
end ONC
