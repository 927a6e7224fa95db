/-! settled: the reference, and the call. -/
section STR
variable {T : Nat → Int} {R : aM}
def RQ (M M' : aM) : Prop := (∀ q, q ≠ 80 → q ≠ 81 → M' q = M q) ∧ M' 81 0 = M 81 0
set_option maxHeartbeats 100000 in
theorem RQ.inv {W : aM → Prop} (hW : WM W) {M M' : aM} (h : RQ M M') (hI : INV W M) : INV W M' := by
  obtain ⟨h, h0⟩ := h
  obtain ⟨n, hn⟩ := hI.2.2.1
  refine ⟨hI.1.mv (fun q h1 h2 => h q (by omega) (by omega)) (h 54 (by decide) (by decide)), hI.2.1.mv (by rw [h 1 (by decide) (by decide)]) (by rw [h 53 (by decide) (by decide)]) (fun q h1 h2 => h q (by omega) (by omega)) (h 56 (by decide) (by decide)), ⟨n, hn.mv (by rw [h 2 (by decide) (by decide)]) (by rw [h 53 (by decide) (by decide)]) (h 3 (by decide) (by decide)) (h 57 (by decide) (by decide))⟩, hI.2.2.2.1.mv (h 41 (by decide) (by decide)) (h 42 (by decide) (by decide)) (h 82 (by decide) (by decide)) (h 83 (by decide) (by decide)), hW M M' (fun q hq => h q ?_ ?_) (by rw [h 53 (by decide) (by decide)]) h0 hI.2.2.2.2⟩
  all_goals (intro e; subst e; exact absurd hq (by decide))
set_option maxHeartbeats 100000 in
theorem mxo_z {t u : Nat → Int} {s : Nat} (h : ∀ r, r ≠ s → t r = u r) (b : Nat) (hb : b ≤ 8) : mxo t s b = mxo u s b := mxo_c (fun r hr => h r (by omega)) b hb
/- one set, bank by bank -/
set_option maxHeartbeats 100000 in
theorem s262i (hR : TR R 54 T) (hT : TI T) {c : Nat} (hc : c < 256) (h0 : 0 < c) : ∀ (k i : Nat) (R2 : aM), i + k = 8 → RQ R R2 → (∀ s, s < c → 0 ≤ R2 81 s ∧ R2 81 s ≤ (s : Int)) → R2 80 c = smS (wo T) c i → R2 81 c = mxo (R2 81) c i → ∃ R', run 2 262 25 [.inr (some 53), .inl (c : Int), .inl (i : Int)] [] R2 = run 2 262 25 [.inr (some 53), .inl (c : Int), .inl 8] [] R' ∧ RQ R R' ∧ (∀ s, s ≠ c → R' 81 s = R2 81 s) ∧ R' 80 c = smS (wo T) c 8 ∧ R' 81 c = mxo (R' 81) c 8
  | 0, i, R2, h, h1, h2, h3, h4 => by
    have : i = 8 := by omega
    subst this
    exact ⟨R2, rfl, h1, fun _ _ => rfl, h3, h4⟩
  | k + 1, i, R2, h, h1, h2, h3, h4 => by
    have hi8 : i < 8 := by omega
    have w : wr ((i : Int) + 1) = ((i + 1 : Nat) : Int) := by rw [wr_s (by omega) (by omega)]; rfl
    have y : 0 ≤ (c : Int) ∧ (c : Int) < 256 := by omega
    have hR2 : TR R2 54 T := hR.mv (h1.1 54 (by decide) (by decide))
    have e : smS (wo T) c (i + 1) = smS (wo T) c i + if c.testBit i = true then wo T i else 0 := rfl
    rw [B_262_25, if_neg (by omega), s184 (by omega) (by omega), bI_s, w]
    by_cases g : c.testBit i = true
    · rw [bI1_t g, if_neg (by decide), if_pos y, s193 hR2 hT hi8, bI_s, s192 hR2 hT hi8, bI_s, if_pos y, if_pos y]
      have b1 := smS_b hT (s := c) (n := i) (by omega)
      have b2 := smS_b hT (s := c) (n := i + 1) (by omega)
      have b3 := aGets_b hT hi8
      have b4 := aOwes_b hT hi8
      rw [if_pos g] at e
      have ew : wr (wr (smS (wo T) c i + aGets T i) - aOwes T i) = smS (wo T) c (i + 1) := by
        have e3 : wo T i = aGets T i - aOwes T i := rfl
        rw [wr_s (z := smS (wo T) c i + aGets T i) (by omega) (by omega), wr_s (by omega) (by omega)]
        omega
      have hl := wo_lt (s := c) (b := i) hi8 g
      have yl : 0 ≤ (andN c (2 ^ i) : Int) ∧ (andN c (2 ^ i) : Int) < 256 := by omega
      rw [wo_i hc hi8, if_pos yl, Int.toNat_natCast, Int.toNat_natCast, h3, ew, up_o (by decide), up_o (by decide), s183, bI_s, if_pos y, h4]
      have o1 : ∀ s, s ≠ c → upM (upM R2 80 c (smS (wo T) c (i + 1))) 81 c (max (mxo (R2 81) c i) (R2 81 (andN c (2 ^ i)))) 81 s = R2 81 s := fun s hs => by rw [up_j hs, up_o (by decide)]
      obtain ⟨R', f1, f2, f3, f4, f5⟩ := s262i hR hT hc h0 k (i + 1) (upM (upM R2 80 c (smS (wo T) c (i + 1))) 81 c (max (mxo (R2 81) c i) (R2 81 (andN c (2 ^ i))))) (by omega) ⟨fun q q1 q2 => by rw [up_ne q2, up_ne q1]; exact h1.1 q q1 q2, by rw [o1 0 (by omega)]; exact h1.2⟩ (fun s hs => by rw [o1 s (by omega)]; exact h2 s hs) (by rw [up_o (by decide), up_s]) (by rw [up_s, mxo_z o1 (i + 1) (by omega), mxo_s, if_pos g])
      exact ⟨R', f1, f2, fun s hs => by rw [f3 s hs, o1 s hs], f4, f5⟩
    · rw [bI1_f g, if_pos rfl]
      rw [if_neg g, Int.add_zero] at e
      exact s262i hR hT hc h0 k (i + 1) R2 (by omega) h1 h2 (by rw [e]; exact h3) (by rw [mxo_s, if_neg g]; exact h4)
set_option maxHeartbeats 100000 in
theorem s262 (hR : TR R 54 T) (hT : TI T) : ∀ (k c : Nat) (v : aV) (R2 : aM), c + k = 256 → 0 < c → RQ R R2 → GQ (wo T) (R2 81) c → ∃ R', run 2 262 2 [.inr (some 53), .inl (c : Int), v] [] R2 = some (none, R') ∧ RQ R R' ∧ GQ (wo T) (R' 81) 256
  | 0, c, v, R2, h, h0, h1, h2 => by
    have : c = 256 := by omega
    subst this
    exact ⟨R2, by rw [B_262_2, if_pos (by decide)], h1, h2⟩
  | k + 1, c, v, R2, h, h0, h1, h2 => by
    have w : wr ((c : Int) + 1) = ((c + 1 : Nat) : Int) := by rw [wr_s (by omega) (by omega)]; rfl
    have y : 0 ≤ (c : Int) ∧ (c : Int) < 256 := by omega
    have o1 : ∀ s, s ≠ c → upM (upM R2 80 c 0) 81 c 0 81 s = R2 81 s := fun s hs => by rw [up_j hs, up_o (by decide)]
    obtain ⟨R3, f1, f2, f3, f4, f5⟩ := s262i (R := R) hR hT (c := c) (by omega) h0 8 0 (upM (upM R2 80 c 0) 81 c 0) (by omega) ⟨fun q q1 q2 => by rw [up_ne q2, up_ne q1]; exact h1.1 q q1 q2, by rw [o1 0 (by omega)]; exact h1.2⟩ (fun s hs => by rw [o1 s (by omega)]; exact h2.2.2 s hs) (by rw [up_o (by decide), up_s]; rfl) (by rw [up_s]; rfl)
    have o2 : ∀ s, s ≠ c → R3 81 s = R2 81 s := fun s hs => by rw [f3 s hs, o1 s hs]
    have hmb := mxo_b (tab := R2 81) (c := c) h2.2.2 h0 8 (by omega)
    have f5' : R3 81 c = mxo (R2 81) c 8 := by rw [f5, mxo_z o2 8 (by omega)]
    have hb1 : wr (mxo (R2 81) c 8 + 1) = mxo (R2 81) c 8 + 1 := wr_s (by omega) (by omega)
    have f1' : run 2 262 25 [.inr (some 53), .inl (c : Int), .inl 0] [] (upM (upM R2 80 c 0) 81 c 0) = run 2 262 25 [.inr (some 53), .inl (c : Int), .inl 8] [] R3 := f1
    rw [B_262_2, if_neg (by omega), if_pos y, if_pos y, Int.toNat_natCast, f1', B_262_25, if_pos (by decide), if_pos y, Int.toNat_natCast, w, f4, f5', hb1]
    by_cases g : smS (wo T) c 8 = 0
    · have et : tbO (wo T) c = 1 := by unfold tbO; rw [if_pos g]
      rw [if_pos g, if_pos y, if_pos y]
      exact s262 hR hT k (c + 1) _ _ (by omega) (by omega) ⟨fun q q1 q2 => by rw [up_ne q2]; exact f2.1 q q1 q2, by rw [up_j (by omega)]; exact f2.2⟩ (h2.add h0 (fun s hs => by rw [up_j (by omega), o2 s (by omega)]) (by rw [up_s, et]))
    · have et : tbO (wo T) c = 0 := by unfold tbO; rw [if_neg g]
      rw [if_neg g]
      exact s262 hR hT k (c + 1) _ _ (by omega) (by omega) f2 (h2.add h0 (fun s hs => o2 s (by omega)) (by rw [f5', et]; omega))
set_option maxHeartbeats 100000 in
theorem wo_0 (hZ : TZ T) {b : Nat} (hb : b < 8) (h : (ok T).testBit b = false) : wo T b = 0 := by
  obtain ⟨-, h2⟩ := hZ.1 b hb h
  have e1 : aGets T b = sg (fun _ => 0) 8 := sg_c (fun e he => (h2 e he).2.1)
  have e2 : aOwes T b = sg (fun _ => 0) 8 := sg_c (fun e he => (h2 e he).1)
  unfold wo
  rw [e1, e2]
  rfl
set_option maxHeartbeats 100000 in
theorem s263 (hR : TR R 54 T) (hT : TI T) (hZ : TZ T) (x : Int) : ∀ (k i : Nat), i + k = 8 → run 3 263 15 [.inr (some 53), .inl x, .inl (nzB (wo T) i : Int), .inl (i : Int)] [] R = run 3 263 15 [.inr (some 53), .inl x, .inl (nzB (wo T) 8 : Int), .inl 8] [] R
  | 0, i, h => by
    have : i = 8 := by omega
    subst this
    rfl
  | k + 1, i, h => by
    have hi8 : i < 8 := by omega
    have w : wr ((i : Int) + 1) = ((i + 1 : Nat) : Int) := by rw [wr_s (by omega) (by omega)]; rfl
    have ih := s263 hR hT hZ x k (i + 1) (by omega)
    have hnl := nzB_8 (wo T) (n := i) (by omega)
    rw [nzB_s] at ih
    rw [B_263_15, if_neg (by omega), s188 hR hT, bI_s, w]
    by_cases g : (ok T).testBit i = true
    · rw [bI1_t ((tb_n hi8).mpr g), if_neg (by decide), s193 hR hT hi8, bI_s, s192 hR hT hi8, bI_s]
      by_cases g2 : wo T i = 0
      · rw [if_pos (by unfold wo at g2; omega)]
        rw [if_pos g2] at ih
        exact ih
      · have eo : iOr (nzB (wo T) i : Int) (iShl 1 (i : Int)) = ((nzB (wo T) i ||| 2 ^ i : Nat) : Int) := by
          rw [iShl_1 (by omega), iOr_n (by
            have := or_pow_lt (a := nzB (wo T) i) (k := i) (n := 8) hnl hi8
            omega)]
        rw [if_neg (by unfold wo at g2; omega), eo]
        rw [if_neg g2] at ih
        exact ih
    · rw [bI1_f (fun z => g ((tb_n hi8).mp z)), if_pos rfl]
      rw [if_pos (wo_0 hZ hi8 (by simpa using g))] at ih
      exact ih
set_option maxHeartbeats 100000 in
theorem c_settled {W : aM → Prop} (hW : WM W) (hw : ∀ M, W M → M 81 0 = 0) (x : Int) : OK2 W 152 263 [.inl x] := fun M hI _ => by
  obtain ⟨T, hC, hR, hT, hZ⟩ := hI.1
  by_cases hx : 0 ≤ x ∧ x ≤ 1
  · obtain ⟨M1, a1, a2, a3, a4⟩ := s76 hC hT
    have hI1 := a2.sm.inv hW hI
    have hR1 : TR M1 54 T := hR.mv (a2 54 (by omega))
    have h810 : M1 81 0 = 0 := hw _ hI1.2.2.2.2
    obtain ⟨R', b1, b2, b3⟩ := s262 hR1 hT 255 1 (.inr none) M1 (by omega) (by omega) ⟨fun _ _ _ => rfl, rfl⟩ ⟨h810, fun s hs s0 => absurd hs (by omega), fun s hs => by
      have : s = 0 := by omega
      rw [this, h810]; exact ⟨Int.le_refl _, Int.le_refl _⟩⟩
    have hl := nzB_8 (wo T) (n := 8) (Nat.le_refl _)
    have hsame := GQ.same a3 b3 256 (nzB (wo T) 8) hl hl
    have eC : fnA 152 [.inr (some 1), .inl x] M = run 3 152 11 [.inr (some 1), .inl x, .inr none] [] M := by
      rw [E_152]
      by_cases h0 : x = 0
      · rw [if_pos h0]
      · rw [if_neg h0, if_pos (by omega)]
    have eR : fnA 263 [.inr (some 53), .inl x] M1 = run 3 263 15 [.inr (some 53), .inl x, .inl (nzB (wo T) 8 : Int), .inl 8] [] M1 := by
      rw [E_263, s181, bI_s, bI1_t hx, if_neg (by decide)]
      exact s263 hR1 hT hZ x 8 0 (by omega)
    have b1' : fnA 262 [.inr (some 53)] M1 = some (none, R') := by rw [E_262]; exact b1
    have h0 : R' 0 = M 0 := by rw [b2.1 0 (by decide) (by decide), a2 0 (by omega)]
    by_cases g : x = 0
    · refine ⟨wr ((nzC (wo T) 8 : Int) - M1 39 (nzB (wo T) 8)), M1, R', ?_, ?_, b2.inv hW hI1, h0⟩
      · rw [eC, B_152_11, a1, bI_s, if_pos g, a4]
      · rw [eR, B_263_15, if_pos (by decide), b1', bV_s, if_neg (by omega), s185 (by omega), bI_s, if_pos (by omega), Int.toNat_natCast, nzB_p12, hsame]
    · refine ⟨M1 39 (nzB (wo T) 8), M1, R', ?_, ?_, b2.inv hW hI1, h0⟩
      · rw [eC, B_152_11, a1, bI_s, if_neg g]
      · rw [eR, B_263_15, if_pos (by decide), b1', bV_s, if_pos (by omega), if_pos (by omega), Int.toNat_natCast, hsame]
  · refine ⟨-1, M, M, ?_, ?_, hI, rfl⟩
    · rw [E_152, if_neg (by omega), if_neg (by omega)]
    · rw [E_263, s181, bI_s, bI1_f hx, if_pos rfl]
end STR
