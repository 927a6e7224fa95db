/-! blinks: the call. -/
section BLC
set_option maxHeartbeats 100000 in
theorem SM.mk {M M' : aM} {P : Nat → Bool} (hP : ∀ q, P q = true → (keepQ q || q == 1 || q == 2 || q == 53) = false) (h : ∀ q, P q = false → M' q = M q) : SM M M' := by
  have h0 : ∀ q, (keepQ q || q == 1 || q == 2 || q == 53) = true → M' q = M q := fun q hq => h q (by
    cases e : P q with
    | false => rfl
    | true => rw [hP q e] at hq; cases hq)
  refine ⟨fun q hq => h0 q (by rw [hq]; rfl), ?_, ?_, ?_, ?_, ?_⟩
  · rw [h0 1 (by decide)]
  · rw [h0 2 (by decide)]
  · rw [h0 53 (by decide)]
  · rw [h0 53 (by decide)]
  · rw [h0 53 (by decide)]
set_option maxHeartbeats 100000 in
theorem BF.sm {M M' : aM} (h : BF M M') : SM M M' := SM.mk (P := fun q => q == 43 || q == 44) (fun q hq => by
  have : q = 43 ∨ q = 44 := by simpa using hq
  rcases this with rfl | rfl <;> decide) (fun q hq => by
  have : q ≠ 43 ∧ q ≠ 44 := by simpa using hq
  exact h q this.1 this.2)
set_option maxHeartbeats 100000 in
theorem BR.sm {M M' : aM} (h : BR M M') : SM M M' := SM.mk (P := fun q => q == 84 || q == 85 || q == 86) (fun q hq => by
  have : (q = 84 ∨ q = 85) ∨ q = 86 := by simpa using hq
  rcases this with (rfl | rfl) | rfl <;> decide) (fun q hq => by
  have : (q ≠ 84 ∧ q ≠ 85) ∧ q ≠ 86 := by simpa using hq
  exact h q this.1.1 this.1.2 this.2)
set_option maxHeartbeats 100000 in
theorem s31 (C : aM) : fnA 31 [.inr (some 40), .inl 0] C = some (some (.inl (if 1000000 ≤ C 44 0 then -1 else C 44 0)), C) := by
  have h : fnA 30 [.inr (some 40), .inl 0] C = some (some (.inl (C 44 0)), C) := s30 (p := 0) (by decide) C
  rw [E_31, h, bI_s]
  split <;> rfl
set_option maxHeartbeats 100000 in
theorem c_blinks {W : aM → Prop} (hW : WM W) (x y : Int) : OK2 W 167 275 [.inl x, .inl y] := fun M hI _ => by
  obtain ⟨m, hm⟩ := hI.2.2.1
  have hc := hI.2.2.2.1
  have m1 := hm.1
  have m2 := hm.2.1
  by_cases hx : 1 ≤ x ∧ x ≤ 60
  case neg =>
    refine ⟨-1, M, M, ?_, ?_, hI, rfl⟩
    · have key : ∀ s0 : Int, run 5 167 15 [.inr (some 1), .inl x, .inl y, .inr none, .inr none] [.inl s0] M = some (some (.inl (-1)), M) := fun s0 => by
        rw [B_167_15]
        by_cases h1 : x < 1
        · rw [if_pos h1]
        · rw [if_neg h1, if_pos (by omega)]
      rw [E_167]
      by_cases h1 : y < 0
      · rw [if_pos h1, key]
      · rw [if_neg h1]
        by_cases h2 : 60 ≤ y
        · rw [if_pos h2, key]
        · rw [if_neg h2, key]
    · rw [E_275, s181, bI_s, bI1_f hx, if_pos rfl]
  by_cases hxm : x ≤ (m : Int)
  case neg =>
    refine ⟨-1, M, M, ?_, ?_, hI, rfl⟩
    · have key : ∀ s0 : Int, run 5 167 15 [.inr (some 1), .inl x, .inl y, .inr none, .inr none] [.inl s0] M = some (some (.inl (-1)), M) := fun s0 => by
        rw [B_167_15, if_neg (by omega), if_neg (by omega), if_pos (by omega)]
      rw [E_167]
      by_cases h1 : y < 0
      · rw [if_pos h1, key]
      · rw [if_neg h1]
        by_cases h2 : 60 ≤ y
        · rw [if_pos h2, key]
        · rw [if_neg h2, key]
    · rw [E_275, s181, bI_s, bI1_t hx, if_neg (by decide), s181, bI_s]
      by_cases h1 : 0 ≤ y ∧ y ≤ 59
      · rw [bI1_t h1, if_neg (by decide), B_275_31, if_neg (by omega)]
      · rw [bI1_f h1, if_pos rfl, s181, bI_s]
        by_cases h2 : 100 ≤ y ∧ y ≤ 101
        · rw [bI1_t h2, if_neg (by decide), B_275_31, if_neg (by omega)]
        · rw [bI1_f h2, if_pos rfl]
  by_cases hy : (0 ≤ y ∧ y ≤ 59) ∨ (100 ≤ y ∧ y ≤ 101)
  case neg =>
    refine ⟨-1, M, M, ?_, ?_, hI, rfl⟩
    · have key : run 5 167 15 [.inr (some 1), .inl x, .inl y, .inr none, .inr none] [.inl 0] M = some (some (.inl (-1)), M) := by
        rw [B_167_15, if_neg (by omega), if_neg (by omega), if_neg (by omega), if_pos rfl, if_neg (by omega), if_neg (by omega)]
      rw [E_167]
      by_cases h1 : y < 0
      · rw [if_pos h1, key]
      · rw [if_neg h1, if_pos (by omega), key]
    · rw [E_275, s181, bI_s, bI1_t hx, if_neg (by decide), s181, bI_s, bI1_f (fun z => hy (Or.inl z)), if_pos rfl, s181, bI_s, bI1_f (fun z => hy (Or.inr z)), if_pos rfl]
  obtain ⟨n, hn60, rfl⟩ : ∃ n : Nat, n ≤ 60 ∧ x = (n : Int) := ⟨x.toNat, by omega, by omega⟩
  have hn : n ≤ m := by omega
  -- what both come to
  have e0 : ∃ s0, fnA 167 [.inr (some 1), .inl (n : Int), .inl y] M = run 5 167 56 [.inr (some 1), .inl (n : Int), .inl y, .inl s0, .inr none] [] M := by
    rw [E_167]
    by_cases h1 : y < 0
    · omega
    · rw [if_neg h1]
      by_cases h2 : 60 ≤ y
      · refine ⟨0, ?_⟩
        rw [if_pos h2, B_167_15, if_neg (by omega), if_neg (by omega), if_neg (by omega), if_pos rfl]
        by_cases h3 : y = 100
        · rw [if_pos h3]
        · rw [if_neg h3, if_pos (by omega)]
      · refine ⟨1, ?_⟩
        rw [if_neg h2, B_167_15, if_neg (by omega), if_neg (by omega), if_neg (by omega), if_neg (by decide)]
  obtain ⟨s0, e0⟩ := e0
  have f0 : ∀ M1 : aM, M1 53 4 = M 53 4 → fnA 275 [.inr (some 53), .inl (n : Int), .inl y] M1 = bI (fnA 271 [.inr (some 53), .inl (n : Int)] (upM M1 53 4 0)) fun w1 M1 => if w1 = (-1) then bV (fnA 274 [.inr (some 53), .inl (n : Int)] M1) fun M2 => if y = 100 then some (some (.inl (M2 84 0)), M2) else if M2 84 0 = 0 then some (some (.inl ((-2))), M2) else if y = 101 then some (some (.inl (M2 85 0)), M2) else if y < M2 85 0 then run 3 275 126 [.inr (some 53), .inl (n : Int), .inl y, .inl 0, .inl 0] [] M2 else some (some (.inl ((-4))), M2) else bI (fnA 271 [.inr (some 53), .inl (n : Int)] M1) fun w3 M3 => some (some (.inl (wr (((-1000)) - w3))), M3) := fun M1 h => by
    rw [E_275, s181, bI_s, bI1_t hx, if_neg (by decide), s181, bI_s]
    by_cases h1 : 0 ≤ y ∧ y ≤ 59
    · rw [bI1_t h1, if_neg (by decide), B_275_31, h, if_pos (by omega)]
    · rw [bI1_f h1, if_pos rfl, s181, bI_s, bI1_t (hy.resolve_left h1), if_neg (by decide), B_275_31, h, if_pos (by omega)]
  have hfl := fb_le (M 3) n 0
  by_cases g : fb (M 3) 0 n = n
  case neg =>
    have h57 : upM (upM M 2 1 0) 53 4 0 57 = M 57 := by rw [up_ne (by decide), up_ne (by decide)]
    have w1 : wr (wr (-1000 * 1) - ((fb (M 3) 0 n : Nat) : Int)) = -1000 - ((fb (M 3) 0 n : Nat) : Int) := by rw [wr_s (z := -1000 * 1) (by omega) (by omega), wr_s (by omega) (by omega)]; rfl
    have w2 : wr (-1000 - ((fb (M 3) 0 n : Nat) : Int)) = -1000 - ((fb (M 3) 0 n : Nat) : Int) := wr_s (by omega) (by omega)
    refine ⟨-1000 - ((fb (M 3) 0 n : Nat) : Int), upM M 2 1 0, upM (upM M 2 1 0) 53 4 0, ?_, ?_, (SG.rf.cl.rl).zap hW hI, ?_⟩
    · rw [e0, B_167_56, E_168, s97 hm hn, bI_s, if_neg (by omega), E_179, bI_s, w1, bI_s, E_94, bV_s]
    · rw [f0 _ (up_o (by decide)), s271 h57 hm hn, bI_s, if_neg g, if_neg (by omega), s271 h57 hm hn, bI_s, if_neg g, w2]
    · rw [up_ne (by decide), up_ne (by decide)]
  have hb := fb_all (f := M 3) (k := n) (i := 0) g
  have hb' : ∀ j, j < n → M 3 j = 46 ∨ M 3 j = 45 := fun j hj => hb j (by omega) (by omega)
  obtain ⟨C, c1, c2, c3⟩ := s27 hm hn hn60 hc
  have hz : ∀ q, q ≠ 2 → q ≠ 53 → upM (upM C 2 1 0) 53 4 0 q = C q := fun q q1 q2 => by rw [up_ne q2, up_ne q1]
  obtain ⟨R, r1, r2, r3⟩ := s274 (M := M) (R := upM (upM C 2 1 0) 53 4 0) (by rw [hz 57 (by decide) (by decide)]; exact c2 57 (by decide) (by decide)) (by rw [hz 82 (by decide) (by decide)]; exact c2 82 (by decide) (by decide)) (by rw [hz 83 (by decide) (by decide)]; exact c2 83 (by decide) (by decide)) hm hn hn60 hc hb'
  have h57 : upM (upM C 2 1 0) 53 4 0 57 = M 57 := by rw [hz 57 (by decide) (by decide)]; exact c2 57 (by decide) (by decide)
  have h82 : R 82 = M 82 := by rw [r2 82 (by decide) (by decide) (by decide), hz 82 (by decide) (by decide)]; exact c2 82 (by decide) (by decide)
  have hinv : INV W R := by
    have g1 : SG M C (M 2 1) (M 53 4) := SG.of c2.sm
    have g2 : SG M (upM (upM C 2 1 0) 53 4 0) 0 0 := g1.cl.rl
    exact r2.sm.inv hW (g2.zap hW hI)
  have h0 : R 0 = M 0 := by rw [r2 0 (by decide) (by decide) (by decide), hz 0 (by decide) (by decide)]; exact c2 0 (by decide) (by decide)
  have hsm := KT.same sdI_ok hn60 c3 r3.1 n 0 (by omega) (by omega)
  have b1 := c3.1 0 (Nat.le_refl _) (by omega)
  have h29 : fnA 29 [.inr (some 40), .inl 0] C = some (some (.inl (C 43 0)), C) := s29 (p := 0) (by decide) C
  have eC : ∀ v : Int, (if y = 100 then some (some (.inl (C 43 0)), C) else if 1000000 ≤ C 44 0 then some (some (.inl (-2)), C) else if y = 101 then some (some (.inl (C 44 0)), C) else if C 44 0 ≤ y then some (some (.inl (-4)), C) else bI (fnA 32 [.inr (some 40), .inr (some 2), .inl (n : Int), .inl y] C) fun w4 M4 => some (some (.inl w4), M4) : aX) = some (some (.inl v), C) → fnA 167 [.inr (some 1), .inl (n : Int), .inl y] M = some (some (.inl v), upM C 2 1 0) := fun v h => by
    rw [e0, B_167_56, E_168, s97 hm hn, bI_s, if_pos (by omega), c1, bV_s]
    by_cases y1 : y = 100
    · rw [if_pos y1] at h
      rw [if_pos y1, h29, bI_s, bI_s, E_94, bV_s]
      injection h with h
      injection h with h
      rw [h]
    · rw [if_neg y1] at h
      rw [if_neg y1, s31, bI_s]
      by_cases y2 : 1000000 ≤ C 44 0
      · rw [if_pos y2] at h
        rw [if_pos y2, if_neg (by decide), bI_s, E_94, bV_s]
        injection h with h
        injection h with h
        rw [h]
      · rw [if_neg y2] at h
        rw [if_neg y2, if_pos (by omega)]
        by_cases y3 : y = 101
        · rw [if_pos y3] at h
          rw [if_pos y3, bI_s, E_94, bV_s]
          injection h with h
          injection h with h
          rw [h]
        · rw [if_neg y3] at h
          rw [if_neg y3]
          by_cases y4 : C 44 0 ≤ y
          · rw [if_pos y4] at h
            rw [if_pos y4, bI_s, E_94, bV_s]
            injection h with h
            injection h with h
            rw [h]
          · rw [if_neg y4] at h
            rw [if_neg y4, h, bI_s, E_94, bV_s]
  have eR : fnA 275 [.inr (some 53), .inl (n : Int), .inl y] (upM C 2 1 0) = if y = 100 then some (some (.inl (R 84 0)), R) else if R 84 0 = 0 then some (some (.inl ((-2))), R) else if y = 101 then some (some (.inl (R 85 0)), R) else if y < R 85 0 then run 3 275 126 [.inr (some 53), .inl (n : Int), .inl y, .inl 0, .inl 0] [] R else some (some (.inl ((-4))), R) := by
    rw [f0 _ (by rw [up_o (by decide), c2 53 (by decide) (by decide)]), s271 h57 hm hn, bI_s, if_pos g, if_pos rfl, r1, bV_s]
  by_cases y1 : y = 100
  · exact ⟨C 43 0, upM C 2 1 0, R, eC _ (by rw [if_pos y1]), by rw [eR, if_pos y1, hsm.1], hinv, h0⟩
  by_cases y2 : 1000000 ≤ C 44 0
  · exact ⟨-2, upM C 2 1 0, R, eC _ (by rw [if_neg y1, if_pos y2]), by rw [eR, if_neg y1, if_pos (by omega)], hinv, h0⟩
  have hq : C 44 0 = R 85 0 ∧ C 44 0 ≤ ((n - 0 : Nat) : Int) ∧ 0 < C 43 0 := by omega
  by_cases y3 : y = 101
  · exact ⟨C 44 0, upM C 2 1 0, R, eC _ (by rw [if_neg y1, if_neg y2, if_pos y3]), by rw [eR, if_neg y1, if_neg (by omega), if_pos y3, hq.1], hinv, h0⟩
  by_cases y4 : C 44 0 ≤ y
  · exact ⟨-4, upM C 2 1 0, R, eC _ (by rw [if_neg y1, if_neg y2, if_neg y3, if_pos y4]), by rw [eR, if_neg y1, if_neg (by omega), if_neg y3, if_neg (by omega)], hinv, h0⟩
  obtain ⟨k, hk, rfl⟩ : ∃ k : Nat, k < 60 ∧ y = (k : Int) := ⟨y.toNat, by omega, by omega⟩
  obtain ⟨v, v1, v2⟩ := blw hm hn hn60 hc c2 h82 c3 r3 hk k 0 0 (-1) (by omega) (by omega) (by omega) (by omega)
  refine ⟨v, upM C 2 1 0, R, eC _ ?_, ?_, hinv, h0⟩
  · rw [if_neg y1, if_neg y2, if_neg y3, if_neg y4, E_32]
    have v1' : run 3 32 9 [.inr (some 40), .inr (some 2), .inl (n : Int), .inl (k : Int), .inl 0, .inl (-1), .inl 0] [] C = some (some (.inl v), C) := v1
    rw [v1', bI_s]
  · rw [eR, if_neg y1, if_neg (by omega), if_neg y3, if_pos (by omega)]
    exact v2
end BLC
