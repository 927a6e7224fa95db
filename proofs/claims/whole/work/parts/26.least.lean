/-! keystone, leastBlow, help. -/
/-- the search by halves -/
noncomputable def bsF (P : Int → Prop) : Nat → Int → Int → Int
  | 0, lo, _ => lo
  | n + 1, lo, hi => if hi ≤ lo then lo else @ite _ (P ((lo + hi) / 2)) (Classical.propDecidable _) (bsF P n lo ((lo + hi) / 2)) (bsF P n ((lo + hi) / 2 + 1) hi)
theorem bsF_t {P : Int → Prop} {t : Int} (hP : ∀ h, P h ↔ t ≤ h) : ∀ (n : Nat) (lo hi : Int), hi - lo ≤ n → lo ≤ t → t ≤ hi → bsF P n lo hi = t
  | 0, lo, hi, h1, h2, h3 => by show lo = t; omega
  | n + 1, lo, hi, h1, h2, h3 => by
    unfold bsF
    by_cases h : hi ≤ lo
    · rw [if_pos h]; omega
    · rw [if_neg h]
      by_cases hp : P ((lo + hi) / 2)
      · rw [@if_pos _ (Classical.propDecidable _) hp]
        have := (hP _).mp hp
        exact bsF_t hP n _ _ (by omega) h2 this
      · rw [@if_neg _ (Classical.propDecidable _) hp]
        have : ¬ t ≤ (lo + hi) / 2 := fun z => hp ((hP _).mpr z)
        exact bsF_t hP n _ _ (by omega) (by omega) h3
/-- a machine's loop that searches so -/
theorem bs_run {σ : Type} (G : Int → Int → σ → aX) (J : σ → Prop) (P : Int → Prop) (R : Int → σ → aX) (H : Int) (hH : H ≤ 20000) (he : ∀ lo hi s, J s → hi ≤ lo → G lo hi s = R lo s) (hs : ∀ lo hi s, J s → 0 ≤ lo → lo < hi → hi ≤ H → ∃ s', J s' ∧ G lo hi s = @ite _ (P ((lo + hi) / 2)) (Classical.propDecidable _) (G lo ((lo + hi) / 2) s') (G ((lo + hi) / 2 + 1) hi s')) : ∀ (n : Nat) (lo hi : Int) (s : σ), J s → 0 ≤ lo → hi ≤ H → hi - lo ≤ n → ∃ s', J s' ∧ G lo hi s = R (bsF P n lo hi) s'
  | 0, lo, hi, s, hJ, h0, h1, h2 => ⟨s, hJ, he lo hi s hJ (by omega)⟩
  | n + 1, lo, hi, s, hJ, h0, h1, h2 => by
    unfold bsF
    by_cases h : hi ≤ lo
    · rw [if_pos h]; exact ⟨s, hJ, he lo hi s hJ h⟩
    · rw [if_neg h]
      obtain ⟨s1, j1, e1⟩ := hs lo hi s hJ h0 (by omega) h1
      rw [e1]
      by_cases hp : P ((lo + hi) / 2)
      · rw [@if_pos _ (Classical.propDecidable _) hp, @if_pos _ (Classical.propDecidable _) hp]
        exact bs_run G J P R H hH he hs n _ _ s1 j1 h0 (by omega) (by omega)
      · rw [@if_neg _ (Classical.propDecidable _) hp, @if_neg _ (Classical.propDecidable _) hp]
        exact bs_run G J P R H hH he hs n _ _ s1 j1 (by omega) h1 (by omega)
theorem half {lo hi : Int} (h0 : 0 ≤ lo) (h1 : lo < hi) (h2 : hi ≤ 20000) : wr ((wr (lo + hi)).tdiv 2) = (lo + hi) / 2 ∧ wr ((lo + hi) / 2 + 1) = (lo + hi) / 2 + 1 ∧ 0 ≤ (lo + hi) / 2 ∧ (lo + hi) / 2 < hi := by
  have e1 : wr (lo + hi) = lo + hi := wr_s (by omega) (by omega)
  rw [e1, Int.tdiv_eq_ediv_of_nonneg (by omega)]
  exact ⟨wr_s (by omega) (by omega), wr_s (by omega) (by omega), by omega, by omega⟩
section LST
variable {T : Nat → Int} {M : aM} {W : aM → Prop}
noncomputable def fmB (T : Nat → Int) (b : Nat) (x : Int) : Nat := fM T (cV T b x) (cK T (cV T b x))
theorem fmB_lt (b : Nat) (x : Int) : fmB T b x < 256 := fM_lt _
theorem cV_full (hT : TI T) {b : Nat} (hb : b < 8) : cV T b (-9999) = cV T b (-(T b)) := by
  have tb := hT.2.2.1 b hb
  funext x
  unfold cV
  by_cases e : (x : Int) = (b : Int)
  · rw [if_pos e, if_pos e, show x = b by omega]; omega
  · rw [if_neg e, if_neg e]
theorem c_leastBlow (hW : WM W) (x y : Int) : OK2 W 149 254 [.inl x, .inl y] := fun M hI _ => by
  obtain ⟨T, hC, hR, hT, hZ⟩ := hI.1
  by_cases hx : tb (ok T) x
  · by_cases hy : tb (ok T) y
    · obtain ⟨b, hb, rfl⟩ := tbx hx
      obtain ⟨d, hd, rfl⟩ := tbx hy
      have i1 : 0 ≤ (b : Int) ∧ (b : Int) < 141 := by omega
      have tb := hT.2.2.1 b hb
      have wn : wr (-(T b)) = -(T b) := wr_s (by omega) (by omega)
      obtain ⟨M1, a1, a2⟩ := s148 hC hT hb (x := 9999) (by decide) (by decide)
      rw [cV_full hT hb] at a1
      have hR1 : TR M1 54 T := hR.mv (a2 54 rfl)
      have hcm : ∀ z, 0 ≤ z → z ≤ 9999 → CB (cV T b (-z)) := fun z h1 h2 => cV_b hT (by omega) (by omega)
      -- the class's search
      have hmask : ∀ z : Int, iAnd (fmB T b z : Int) ((2 ^ d : Nat) : Int) = 0 ↔ ¬ (fmB T b z).testBit d = true := fun z => by
        have := iMask0 (a := fmB T b z) (k := d) (by have := fmB_lt (T := T) b z; omega) (by omega)
        rw [iShl_1 (by omega)] at this
        rw [this]
        simp
      have cls : ∀ M', (∀ q, clrQ q = false → M' q = M q) → ∃ M2, (∀ q, clrQ q = false → M2 q = M q) ∧ run 4 149 57 [.inr (some 1), .inl (b : Int), .inl (d : Int), .inl ((2 ^ d : Nat) : Int), .inl 0, .inl (T b), .inr none] [] M' = some (some (.inl (bsF (fun z => (fmB T b (-z)).testBit d = true) 20000 0 (T b))), M2) := fun M' hf => by
        obtain ⟨s', j', e'⟩ := bs_run (fun lo hi (s : aV × aM) => run 4 149 57 [.inr (some 1), .inl (b : Int), .inl (d : Int), .inl ((2 ^ d : Nat) : Int), .inl lo, .inl hi, s.1] [] s.2) (fun s => ∀ q, clrQ q = false → s.2 q = M q) (fun z => (fmB T b (-z)).testBit d = true) (fun v s => some (some (.inl v), s.2)) 9999 (by decide) (fun lo hi s hJ h => by
          rw [B_149_57, if_pos h]) (fun lo hi s hJ h0 h1 h2 => by
          obtain ⟨v, M2⟩ := s
          dsimp only at hJ ⊢
          obtain ⟨k1, k2, k3, k4⟩ := half h0 h1 (by omega)
          have hC2 : TC M2 4 T := hC.mv (hJ 4 rfl) (hJ 5 rfl) (hJ 6 rfl) (hJ 7 rfl)
          obtain ⟨M3, e1, e2⟩ := s148 hC2 hT hb (x := (lo + hi) / 2) k3 (by omega)
          refine ⟨(.inl ((lo + hi) / 2), M3), fun q hq => (e2 q hq).trans (hJ q hq), ?_⟩
          rw [B_149_57, if_neg (by omega), k1, e1, bI_s, k2]
          have hm := hmask (-((lo + hi) / 2))
          unfold fmB at hm ⊢
          by_cases hp : (fM T (cV T b (-((lo + hi) / 2))) (cK T (cV T b (-((lo + hi) / 2))))).testBit d = true
          · rw [@if_pos _ (Classical.propDecidable _) hp, if_neg (fun z => hm.mp z hp)]
          · rw [@if_neg _ (Classical.propDecidable _) hp, if_pos (hm.mpr hp)]) 20000 0 (T b) (.inr none, M') hf (by omega) tb.2 (by omega)
        exact ⟨s'.2, j', e'⟩
      have rfs : ∀ M', SM M1 M' → M' 0 = M1 0 → TR M' 54 T → ∃ M2, (SM M1 M2 ∧ M2 0 = M1 0) ∧ run 4 254 54 [.inr (some 53), .inl (b : Int), .inl (d : Int), .inl 0, .inl (T b), .inr none] [] M' = some (some (.inl (bsF (fun z => (fmB T b (-z)).testBit d = true) 20000 0 (T b))), M2) := fun M' hf h00 hR' => by
        obtain ⟨s', j', e'⟩ := bs_run (fun lo hi (s : aV × aM) => run 4 254 54 [.inr (some 53), .inl (b : Int), .inl (d : Int), .inl lo, .inl hi, s.1] [] s.2) (fun s => (SM M1 s.2 ∧ s.2 0 = M1 0) ∧ TR s.2 54 T) (fun z => (fmB T b (-z)).testBit d = true) (fun v s => some (some (.inl v), s.2)) 9999 (by decide) (fun lo hi s hJ h => by
          rw [B_254_54, if_pos h]) (fun lo hi s hJ h0 h1 h2 => by
          obtain ⟨v, M2⟩ := s
          dsimp only at hJ ⊢
          obtain ⟨k1, k2, k3, k4⟩ := half h0 h1 (by omega)
          have wn2 : wr (-((lo + hi) / 2)) = -((lo + hi) / 2) := wr_s (by omega) (by omega)
          obtain ⟨M3, b1, b2, b3, b4, b5, b6, b7⟩ := s249 (M := M2) hJ.2 hT (b0 := b) (more := -((lo + hi) / 2)) (by omega) (by omega) (cK_e hT (hcm _ k3 (by omega)))
          refine ⟨(.inl ((lo + hi) / 2), M3), ⟨⟨hJ.1.1.tr (SM.rcl b6 b7), (b6 0 rfl).trans hJ.1.2⟩, hJ.2.mv (b6 54 rfl)⟩, ?_⟩
          have hl := fM_lt (T := T) (c := cV T b (-((lo + hi) / 2))) (cK T (cV T b (-((lo + hi) / 2))))
          rw [B_254_54, if_neg (by omega), k1, wn2, b1, bI_s, s184 (by omega) (by omega), bI_s, k2]
          unfold fmB
          by_cases hp : (fM T (cV T b (-((lo + hi) / 2))) (cK T (cV T b (-((lo + hi) / 2))))).testBit d = true
          · rw [@if_pos _ (Classical.propDecidable _) hp, bI1_t hp, if_neg (by decide)]
          · rw [@if_neg _ (Classical.propDecidable _) hp, bI1_f hp, if_pos rfl]) 20000 0 (T b) (.inr none, M') ⟨⟨hf, h00⟩, hR'⟩ (by omega) tb.2 (by omega)
        exact ⟨s'.2, j'.1, e'⟩
      have hlt := fmB_lt (T := T) b (-(T b))
      by_cases hf : (fmB T b (-(T b))).testBit d = true
      · obtain ⟨M2, c1, c2⟩ := cls M1 a2
        -- the reference, from where the class ends
        have hR2 : TR M2 54 T := hR.mv (c1 54 rfl)
        obtain ⟨M3, b1, b2, b3, b4, b5, b6, b7⟩ := s249 (M := M2) hR2 hT (b0 := b) (more := -(T b)) (by omega) (by omega) (cK_e hT (hcm _ tb.1 tb.2))
        have hR3 : TR M3 54 T := hR2.mv (b6 54 rfl)
        have hs13 : SM M1 M3 := by
          have h1 := SM.clr c1
          have h2 := SM.clr a2
          have h3 := SM.rcl b6 b7
          refine ⟨fun q hq => ?_, ?_, ?_, ?_, ?_, ?_⟩
          · rw [h3.1 q hq, h1.1 q hq, h2.1 q hq]
          · rw [h3.2.1, h1.2.1, h2.2.1]
          · rw [h3.2.2.1, h1.2.2.1, h2.2.2.1]
          · rw [h3.2.2.2.1, h1.2.2.2.1, h2.2.2.2.1]
          · rw [h3.2.2.2.2.1, h1.2.2.2.2.1, h2.2.2.2.2.1]
          · rw [h3.2.2.2.2.2, h1.2.2.2.2.2, h2.2.2.2.2.2]
        obtain ⟨M4, d1, d2⟩ := rfs M3 hs13 (by rw [b6 0 rfl, c1 0 rfl, a2 0 rfl]) hR3
        have hf' : (fM T (cV T b (-(T b))) (cK T (cV T b (-(T b))))).testBit d = true := hf
        refine ⟨bsF (fun z => (fmB T b (-z)).testBit d = true) 20000 0 (T b), M2, M4, ?_, ?_, ((SM.clr a2).tr d1.1).inv hW hI, d1.2.trans (a2 0 rfl)⟩
        rotate_left
        · rw [E_254, s188 hR2 hT, bI_s, bI1_t hx, if_neg (by decide), s188 hR2 hT, bI_s, bI1_t hy, if_neg (by decide), ix0 hb, if_pos i1, Int.toNat_natCast, hR2 b (by omega), wn, b1, bI_s, s184 (by unfold fmB at hlt; omega) (by omega), bI_s, bI1_t hf', if_neg (by decide), if_pos i1, hR3 b (by omega)]
          exact d2
        · have hC1 : TC M1 4 T := hC.mv (a2 4 rfl) (a2 5 rfl) (a2 6 rfl) (a2 7 rfl)
          have hm := hmask (-(T b))
          unfold fmB at hm hf
          rw [E_149, s110 (Or.inl rfl) hC hT, bI_s, bI1_t hx, if_neg (by decide), s110 (Or.inl rfl) hC hT, bI_s, bI1_t hy, if_neg (by decide), a1, bI_s, iShl_1 (by omega), if_neg (fun z => hm.mp z hf), s114 (Or.inl rfl) hb, bI_s, hC1.1 b hb]
          exact c2
      · obtain ⟨M3, b1, b2, b3, b4, b5, b6, b7⟩ := s249 (M := M1) hR1 hT (b0 := b) (more := -(T b)) (by omega) (by omega) (cK_e hT (hcm _ tb.1 tb.2))
        have hf' : ¬ (fM T (cV T b (-(T b))) (cK T (cV T b (-(T b))))).testBit d = true := hf
        refine ⟨-2, M1, M3, ?_, ?_, ((SM.clr a2).tr (SM.rcl b6 b7)).inv hW hI, (b6 0 rfl).trans (a2 0 rfl)⟩
        · have hm := hmask (-(T b))
          unfold fmB at hm hf
          rw [E_149, s110 (Or.inl rfl) hC hT, bI_s, bI1_t hx, if_neg (by decide), s110 (Or.inl rfl) hC hT, bI_s, bI1_t hy, if_neg (by decide), a1, bI_s, iShl_1 (by omega), if_pos (hm.mpr hf)]
        · rw [E_254, s188 hR1 hT, bI_s, bI1_t hx, if_neg (by decide), s188 hR1 hT, bI_s, bI1_t hy, if_neg (by decide), ix0 hb, if_pos i1, Int.toNat_natCast, hR1 b (by omega), wn, b1, bI_s, s184 (by unfold fmB at hlt; omega) (by omega), bI_s, bI1_f hf', if_pos rfl]
    · refine ⟨-1, M, M, ?_, ?_, hI, rfl⟩
      · rw [E_149, s110 (Or.inl rfl) hC hT, bI_s, bI1_t hx, if_neg (by decide), s110 (Or.inl rfl) hC hT, bI_s, bI1_f hy, if_pos rfl]
      · rw [E_254, s188 hR hT, bI_s, bI1_t hx, if_neg (by decide), s188 hR hT, bI_s, bI1_f hy, if_pos rfl]
  · refine ⟨-1, M, M, ?_, ?_, hI, rfl⟩
    · rw [E_149, s110 (Or.inl rfl) hC hT, bI_s, bI1_f hx, if_pos rfl]
    · rw [E_254, s188 hR hT, bI_s, bI1_f hx, if_pos rfl]
/-- nobody falls: all are worth something -/
theorem gP_0 (hT : TI T) {b : Nat} (hb : b < 8) : gP T (aOwes T) b = aGets T b := by
  unfold gP aGets
  refine sg_c (fun a ha => ?_)
  have h1 := dI hT ha hb
  have h2 := d_le hT ha hb
  unfold gQ
  by_cases h : 0 < aOwes T a
  · rw [if_pos h, Int.mul_tdiv_cancel _ (by omega)]
  · rw [if_neg h]; omega
theorem itP_dn {c : Nat → Int} (b k : Nat) : ∀ n, itP T c (k + n) b ≤ itP T c k b
  | 0 => Int.le_refl _
  | n + 1 => Int.le_trans (nP_le b) (itP_dn b k n)
theorem fM_0 (hT : TI T) {c : Nat → Int} (hc : CB c) {K : Nat} (hK : CE T c K) : fM T c K = 0 ↔ ∀ b, b < 8 → aOwes T b ≤ c b + aGets T b := by
  have hl0 : lessP T c (itP T c 0) ↔ ∃ b, b < 8 ∧ c b + aGets T b < aOwes T b := by
    constructor
    · rintro ⟨b, hb, h⟩
      refine ⟨b, hb, ?_⟩
      have e := gP_0 hT hb
      change canP T c (aOwes T) b < aOwes T b at h
      unfold canP at h
      rw [e] at h
      omega
    · rintro ⟨b, hb, h⟩
      refine ⟨b, hb, ?_⟩
      have e := gP_0 hT hb
      show canP T c (aOwes T) b < aOwes T b
      unfold canP
      rw [e]
      omega
  constructor
  · intro h b hb
    refine Classical.byContradiction fun hn => ?_
    have hless : lessP T c (itP T c 0) := hl0.mpr ⟨b, hb, by omega⟩
    have hK1 : 1 ≤ K := by
      rcases Nat.eq_zero_or_pos K with e | e
      · rw [e] at hK; exact absurd hless hK.2.2
      · exact e
    have e := gP_0 hT hb
    have h1 : itP T c 1 b < aOwes T b := by
      show nP T c (aOwes T) b < aOwes T b
      have hcan : canP T c (aOwes T) b < aOwes T b := by unfold canP; rw [e]; omega
      unfold nP
      rw [if_pos hcan]
      exact hcan
    have h2 := itP_dn (T := T) (c := c) b 1 (K - 1)
    rw [show 1 + (K - 1) = K by omega] at h2
    have h3 : ¬ itF T c K b = 0 := fun z => by have := (F_iff hT hc hb K).mp z; omega
    have h4 := F_b (T := T) (c := c) K b
    have h5 := cdB_bit (itF T c K) b 8
    unfold fM at h
    rw [h, Nat.zero_testBit, decide_eq_true hb, decide_eq_true (show 0 < itF T c K b by omega)] at h5
    cases h5
  · intro h
    have hnl : ¬ lessP T c (itP T c 0) := fun z => by
      obtain ⟨b, hb, h1⟩ := hl0.mp z
      have := h b hb
      omega
    have hK0 : K = 0 := by
      rcases Nat.eq_zero_or_pos K with e | e
      · exact e
      · exact absurd (hK.2.1 0 e) hnl
    subst hK0
    rfl
theorem fmB_0 (hT : TI T) {b : Nat} (hb : b < 8) {x : Int} (h1 : 0 ≤ x) (h2 : x ≤ 9999) : fmB T b x = 0 ↔ (∀ d, d < 8 → d ≠ b → 0 ≤ aWorth T d) ∧ -(aWorth T b) ≤ x := by
  have hc : CB (cV T b x) := cV_b hT (by omega) h2
  unfold fmB
  rw [fM_0 hT hc (cK_e hT hc)]
  have hcv : ∀ d, d < 8 → cV T b x d = T d + if d = b then x else 0 := fun d hd => by
    have := hT.2.2.1 d hd
    unfold cV
    by_cases e : d = b
    · rw [if_pos (by omega), if_pos e]; omega
    · rw [if_neg (by omega), if_neg e]; omega
  unfold aWorth
  constructor
  · intro h
    refine ⟨fun d hd hn => ?_, ?_⟩
    · have := h d hd
      rw [hcv d hd, if_neg hn] at this
      omega
    · have := h b hb
      rw [hcv b hb, if_pos rfl] at this
      omega
  · rintro ⟨g1, g2⟩ d hd
    rw [hcv d hd]
    by_cases e : d = b
    · rw [if_pos e, e]; omega
    · have := g1 d hd e
      rw [if_neg e]; omega
theorem wth_b (hT : TI T) {b : Nat} (hb : b < 8) : -7992 ≤ aWorth T b ∧ aWorth T b ≤ 17991 := by
  have h1 := aOwes_b hT hb
  have h2 := aGets_b hT hb
  have h3 := hT.2.2.1 b hb
  unfold aWorth
  omega
theorem c_help (hW : WM W) (x : Int) : OK2 W 150 255 [.inl x] := fun M hI _ => by
  obtain ⟨T, hC, hR, hT, hZ⟩ := hI.1
  by_cases hx : tb (ok T) x
  · obtain ⟨b, hb, rfl⟩ := tbx hx
    have wb := wth_b hT hb
    have hc9 : CB (cV T b 9999) := cV_b hT (by decide) (by decide)
    obtain ⟨M3, b1, b2, b3, b4, b5, b6, b7⟩ := s249 (M := M) hR hT (b0 := b) (more := 9999) (by decide) (by decide) (cK_e hT hc9)
    have hR3 : TR M3 54 T := hR.mv (b6 54 rfl)
    have hs3 := SM.rcl b6 b7
    have h9 := fmB_0 hT hb (x := 9999) (by decide) (by decide)
    unfold fmB at h9
    -- the class
    have cls : ∀ n i, i + n = 8 → (∀ d, d < i → d ≠ b → 0 ≤ aWorth T d) → run 3 150 15 [.inr (some 1), .inl (b : Int), .inl (i : Int)] [] M = @ite _ (∀ d, d < 8 → d ≠ b → 0 ≤ aWorth T d) (Classical.propDecidable _) (some (some (.inl (max 0 (-(aWorth T b)))), M)) (some (some (.inl (-2)), M)) := by
      intro n
      induction n with
      | zero =>
        intro i hi h
        have : i = 8 := by omega
        subst this
        rw [@if_pos _ (Classical.propDecidable _) h, B_150_15, if_pos (by decide), s123 (Or.inl rfl) hC hT hb, bI_s, wr_s (z := -(aWorth T b)) (by omega) (by omega)]
      | succ n ih =>
        intro i hi h
        have hi8 : i < 8 := by omega
        have ew : wr ((i : Int) + 1) = ((i + 1 : Nat) : Int) := by rw [wr_s (by omega) (by omega)]; rfl
        rw [B_150_15, if_neg (by omega), ew]
        by_cases e : i = b
        · rw [if_pos (by omega)]
          refine ih (i + 1) (by omega) (fun d hd hn => h d ?_ hn)
          omega
        · rw [if_neg (by omega), s123 (Or.inl rfl) hC hT hi8, bI_s]
          by_cases hw : 0 ≤ aWorth T i
          · rw [if_pos hw]
            refine ih (i + 1) (by omega) (fun d hd hn => ?_)
            by_cases e2 : d = i
            · rw [e2]; exact hw
            · exact h d (by omega) hn
          · rw [if_neg hw, @if_neg _ (Classical.propDecidable _) (fun z => hw (z i hi8 e))]
    have hcl := cls 8 0 (by omega) (fun d hd => absurd hd (Nat.not_lt_zero d))
    have eC : fnA 150 [.inr (some 1), .inl (b : Int)] M = run 3 150 15 [.inr (some 1), .inl (b : Int), .inl ((0 : Nat) : Int)] [] M := by
      rw [E_150, s110 (Or.inl rfl) hC hT, bI_s, bI1_t hx, if_neg (by decide)]
      rfl
    by_cases hall : ∀ d, d < 8 → d ≠ b → 0 ≤ aWorth T d
    · rw [@if_pos _ (Classical.propDecidable _) hall] at hcl
      have h90 : fM T (cV T b 9999) (cK T (cV T b 9999)) = 0 := h9.mpr ⟨hall, by omega⟩
      obtain ⟨s', j', e'⟩ := bs_run (fun lo hi (s : aV × aM) => run 4 255 30 [.inr (some 53), .inl (b : Int), .inl lo, .inl hi, s.1] [] s.2) (fun s => (SM M s.2 ∧ s.2 0 = M 0) ∧ TR s.2 54 T) (fun z => max 0 (-(aWorth T b)) ≤ z) (fun v s => some (some (.inl v), s.2)) 9999 (by decide) (fun lo hi s hJ h => by
        rw [B_255_30, if_pos h]) (fun lo hi s hJ h0 h1 h2 => by
        obtain ⟨v, M2⟩ := s
        dsimp only at hJ ⊢
        obtain ⟨k1, k2, k3, k4⟩ := half h0 h1 (by omega)
        obtain ⟨M4, c1, c2, c3, c4, c5, c6, c7⟩ := s249 (M := M2) hJ.2 hT (b0 := b) (more := (lo + hi) / 2) (by omega) (by omega) (cK_e hT (cV_b hT (by omega) (by omega)))
        refine ⟨(.inl ((lo + hi) / 2), M4), ⟨⟨hJ.1.1.tr (SM.rcl c6 c7), (c6 0 rfl).trans hJ.1.2⟩, hJ.2.mv (c6 54 rfl)⟩, ?_⟩
        rw [B_255_30, if_neg (by omega), k1, c1, bI_s, k2]
        have hfm := fmB_0 hT hb (x := (lo + hi) / 2) k3 (by omega)
        unfold fmB at hfm
        by_cases hp : max 0 (-(aWorth T b)) ≤ (lo + hi) / 2
        · have h0 := hfm.mpr ⟨hall, by omega⟩
          rw [@if_pos _ (Classical.propDecidable _) hp, h0, if_pos (show ((0 : Nat) : Int) = 0 from rfl)]
        · have h0 : ¬ fM T (cV T b ((lo + hi) / 2)) (cK T (cV T b ((lo + hi) / 2))) = 0 := fun z => hp (by have := (hfm.mp z).2; omega)
          rw [@if_neg _ (Classical.propDecidable _) hp, if_neg (by omega)]) 20000 0 9999 (.inr none, M3) ⟨⟨hs3, b6 0 rfl⟩, hR3⟩ (by omega) (by omega) (by omega)
      rw [bsF_t (t := max 0 (-(aWorth T b))) (fun h => Iff.rfl) 20000 0 9999 (by omega) (by omega) (by omega)] at e'
      refine ⟨max 0 (-(aWorth T b)), M, s'.2, eC.trans hcl, ?_, j'.1.1.inv hW hI, j'.1.2⟩
      rw [E_255, s188 hR hT, bI_s, bI1_t hx, if_neg (by decide), b1, bI_s, h90, if_pos (show ((0 : Nat) : Int) = 0 from rfl)]
      exact e'
    · rw [@if_neg _ (Classical.propDecidable _) hall] at hcl
      have h90 : ¬ fM T (cV T b 9999) (cK T (cV T b 9999)) = 0 := fun z => hall (h9.mp z).1
      refine ⟨-2, M, M3, eC.trans hcl, ?_, hs3.inv hW hI, b6 0 rfl⟩
      rw [E_255, s188 hR hT, bI_s, bI1_t hx, if_neg (by decide), b1, bI_s, if_neg (by omega)]
  · refine ⟨-1, M, M, ?_, ?_, hI, rfl⟩
    · rw [E_150, s110 (Or.inl rfl) hC hT, bI_s, bI1_f hx, if_pos rfl]
    · rw [E_255, s188 hR hT, bI_s, bI1_f hx, if_pos rfl]
noncomputable def kst (T : Nat → Int) : Nat → Int × Int
  | 0 => (-2, 0)
  | n + 1 => if (ok T).testBit n = true then (if (kst T n).1 < 0 ∨ (kst T n).2 < (pct (fmB T n (-9999)) 12 : Int) then ((n : Int), (pct (fmB T n (-9999)) 12 : Int)) else kst T n) else kst T n
theorem kst_s (n : Nat) : kst T (n + 1) = if (ok T).testBit n = true then (if (kst T n).1 < 0 ∨ (kst T n).2 < (pct (fmB T n (-9999)) 12 : Int) then ((n : Int), (pct (fmB T n (-9999)) 12 : Int)) else kst T n) else kst T n := rfl
theorem kst_i : ∀ n, (kst T n).1 = -2 ∨ 0 ≤ (kst T n).1
  | 0 => Or.inl rfl
  | n + 1 => by
    have := kst_i n
    rw [kst_s]
    split
    · split
      · exact Or.inr (Int.natCast_nonneg n)
      · exact this
    · exact this
theorem c_keystone (hW : WM W) (x : Int) : OK2 W 146 252 [.inl x] := fun M hI _ => by
  obtain ⟨T, hC, hR, hT, hZ⟩ := hI.1
  by_cases hx : x = 0 ∨ x = 1
  · obtain ⟨s1, ⟨p1, p2, p3⟩, pe⟩ := upR (fun i (s : Int × Int × aV × aM) => run 4 146 19 [.inr (some 1), .inl x, .inl s.1, .inl s.2.1, .inl i, s.2.2.1] [] s.2.2.2) (fun i s => s.1 = (kst T i).1 ∧ s.2.1 = (kst T i).2 ∧ ∀ q, clrQ q = false → s.2.2.2 q = M q) 8 (by decide) (fun i s hi hs => by
      obtain ⟨u, w, v, M2⟩ := s
      dsimp only at hs ⊢
      obtain ⟨rfl, rfl, h3⟩ := hs
      have hC2 : TC M2 4 T := hC.mv (h3 4 rfl) (h3 5 rfl) (h3 6 rfl) (h3 7 rfl)
      have i0 : ¬ (8 : Int) ≤ (i : Int) := by omega
      rw [kst_s]
      by_cases ho : (ok T).testBit i = true
      · obtain ⟨M3, e1, e2⟩ := s148 hC2 hT hi (x := 9999) (by decide) (by decide)
        have hl := fmB_lt (T := T) i (-9999)
        rw [if_pos ho]
        refine ⟨((if (kst T i).1 < 0 ∨ (kst T i).2 < (pct (fmB T i (-9999)) 12 : Int) then ((i : Int), (pct (fmB T i (-9999)) 12 : Int)) else kst T i).1, (if (kst T i).1 < 0 ∨ (kst T i).2 < (pct (fmB T i (-9999)) 12 : Int) then ((i : Int), (pct (fmB T i (-9999)) 12 : Int)) else kst T i).2, .inl (pct (fmB T i (-9999)) 12 : Int), M3), ?_, rfl, rfl, fun q hq => (e2 q hq).trans (h3 q hq)⟩
        rw [B_146_19, if_neg i0, s110 (Or.inl rfl) hC2 hT, bI_s, bI1_t ((tb_n hi).mpr ho), if_neg (by decide), e1, bI_s]
        rw [show (fM T (cV T (i : Int) (-9999)) (cK T (cV T (i : Int) (-9999)))) = fmB T i (-9999) from rfl, s287 (by omega), bI_s]
        by_cases h1 : (kst T i).1 < 0
        · rw [if_pos h1, if_pos (Or.inl h1)]
        · rw [if_neg h1]
          by_cases h2 : (pct (fmB T i (-9999)) 12 : Int) ≤ (kst T i).2
          · rw [if_pos h2, if_neg (fun z => z.elim h1 (fun z => absurd z (by omega)))]
          · rw [if_neg h2, if_pos (Or.inr (by omega))]
      · rw [if_neg ho]
        refine ⟨((kst T i).1, (kst T i).2, v, M2), ?_, rfl, rfl, h3⟩
        rw [B_146_19, if_neg i0, s110 (Or.inl rfl) hC2 hT, bI_s, bI1_f (fun z => ho ((tb_n hi).mp z)), if_pos rfl]) 8 0 (-2, 0, .inr none, M) (by omega) ⟨rfl, rfl, fun _ _ => rfl⟩
    obtain ⟨u, w, v, M1⟩ := s1
    dsimp only at p1 p2 p3 pe
    subst p1 p2
    obtain ⟨s2, ⟨q1, q2, q3, q4⟩, qe⟩ := upR (fun i (s : Int × Int × aV × aM) => run 4 252 19 [.inr (some 53), .inl x, .inl s.1, .inl s.2.1, .inl i, s.2.2.1] [] s.2.2.2) (fun i s => s.1 = (kst T i).1 ∧ s.2.1 = (kst T i).2 ∧ (SM M s.2.2.2 ∧ s.2.2.2 0 = M 0) ∧ TR s.2.2.2 54 T) 8 (by decide) (fun i s hi hs => by
      obtain ⟨u, w, v, M2⟩ := s
      dsimp only at hs ⊢
      obtain ⟨rfl, rfl, h3, hR2⟩ := hs
      have i0 : ¬ (8 : Int) ≤ (i : Int) := by omega
      rw [kst_s]
      by_cases ho : (ok T).testBit i = true
      · obtain ⟨M3, b1, b2, b3, b4, b5, b6, b7⟩ := s249 (M := M2) hR2 hT (b0 := i) (more := -9999) (by decide) (by decide) (cK_e hT (cV_b hT (by decide) (by decide)))
        have hl := fmB_lt (T := T) i (-9999)
        rw [if_pos ho]
        refine ⟨((if (kst T i).1 < 0 ∨ (kst T i).2 < (pct (fmB T i (-9999)) 12 : Int) then ((i : Int), (pct (fmB T i (-9999)) 12 : Int)) else kst T i).1, (if (kst T i).1 < 0 ∨ (kst T i).2 < (pct (fmB T i (-9999)) 12 : Int) then ((i : Int), (pct (fmB T i (-9999)) 12 : Int)) else kst T i).2, .inl (pct (fmB T i (-9999)) 12 : Int), M3), ?_, rfl, rfl, ⟨h3.1.tr (SM.rcl b6 b7), (b6 0 rfl).trans h3.2⟩, hR2.mv (b6 54 rfl)⟩
        rw [B_252_19, if_neg i0, s188 hR2 hT, bI_s, bI1_t ((tb_n hi).mpr ho), if_neg (by decide), b1, bI_s]
        rw [show (fM T (cV T (i : Int) (-9999)) (cK T (cV T (i : Int) (-9999)))) = fmB T i (-9999) from rfl, s185 (by omega), bI_s]
        have hki := kst_i (T := T) i
        by_cases h1 : (kst T i).1 = -2
        · rw [if_pos h1, if_pos (Or.inl (by omega))]
        · rw [if_neg h1]
          by_cases h2 : (kst T i).2 < (pct (fmB T i (-9999)) 12 : Int)
          · rw [if_pos h2, if_pos (Or.inr h2)]
          · rw [if_neg h2, if_neg (fun z => z.elim (fun z => absurd z (by omega)) h2)]
      · rw [if_neg ho]
        refine ⟨((kst T i).1, (kst T i).2, v, M2), ?_, rfl, rfl, h3, hR2⟩
        rw [B_252_19, if_neg i0, s188 hR2 hT, bI_s, bI1_f (fun z => ho ((tb_n hi).mp z)), if_pos rfl]) 8 0 (-2, 0, .inr none, M1) (by omega) ⟨rfl, rfl, ⟨SM.clr p3, p3 0 rfl⟩, hR.mv (p3 54 rfl)⟩
    obtain ⟨u', w', v', M2⟩ := s2
    dsimp only at q1 q2 q3 q4 qe
    subst q1 q2
    refine ⟨if x = 0 then (kst T 8).1 else (kst T 8).2, M1, M2, ?_, ?_, q3.1.inv hW hI, q3.2⟩
    · have e1 : fnA 146 [.inr (some 1), .inl x] M = run 4 146 19 [.inr (some 1), .inl x, .inl (-2), .inl 0, .inl 0, .inr none] [] M := by
        rw [E_146]
        rcases hx with h | h
        · rw [if_pos h]
        · rw [if_neg (by omega), if_pos h]
      rw [e1]
      refine Eq.trans pe ?_
      rw [B_146_19, if_pos (by decide)]
      split <;> rfl
    · rw [E_252, s181, bI_s, bI1_t (by omega), if_neg (by decide)]
      refine Eq.trans qe ?_
      rw [B_252_19, if_pos (by decide)]
      split <;> rfl
  · refine ⟨-1, M, M, ?_, ?_, hI, rfl⟩
    · rw [E_146, if_neg (fun z => hx (Or.inl z)), if_neg (fun z => hx (Or.inr z))]
    · rw [E_252, s181, bI_s, bI1_f (by omega), if_pos rfl]
end LST
