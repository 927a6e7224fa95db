/-! inOrder: the call. -/
section ORC
variable {W : aM → Prop}
set_option maxHeartbeats 400000 in
theorem SM.one {M M' : aM} {c : Nat} (hc : (keepQ c || c == 1 || c == 2 || c == 53) = false) (h : ∀ q, q ≠ c → M' q = M q) : SM M M' := by
  have hk : keepQ c = false ∧ c ≠ 1 ∧ c ≠ 2 ∧ c ≠ 53 := by simpa [Bool.or_eq_false_iff, and_assoc] using hc
  obtain ⟨h0, h1, h2, h3⟩ := hk
  refine ⟨fun a ha => h a (fun e => by rw [e, h0] at ha; cases ha), ?_, ?_, ?_, ?_, ?_⟩
  · rw [h 1 (Ne.symm h1)]
  · rw [h 2 (Ne.symm h2)]
  · rw [h 53 (Ne.symm h3)]
  · rw [h 53 (Ne.symm h3)]
  · rw [h 53 (Ne.symm h3)]
set_option maxHeartbeats 400000 in
theorem s281w {M M1 : aM} {m n : Nat} (h57 : M1 57 = M 57) (hm : TP M m) (hn : n ≤ m) (hn8 : n ≤ 8) (hn2 : 2 ≤ n) : ∃ M', run 2 281 27 [.inr (some 53), .inl (n : Int), .inl 0, .inr none, .inr none, .inr none, .inr none, .inr none] [] M1 = some (some (.inl (@ite _ (hasZ (M 3) n) (Classical.propDecidable _) (-2) (ioT (oF M n) n (n - 1) 0))), M') ∧ ∀ q, q ≠ 88 → M' q = M1 q := by
  rcases s281z h57 hm hn hn8 n 0 M1 (by omega) (fun b hb => absurd hb (Nat.not_lt_zero b)) (fun _ _ => rfl) with ⟨M3, e, hz, h3⟩ | ⟨M3, e, hz, h0, h3⟩
  · exact ⟨M3, by rw [@if_pos _ (Classical.propDecidable _) hz]; exact e, h3⟩
  · obtain ⟨w3, w4, w5, w6, w7, M', hx, g1, g2⟩ := s281o h57 hm hn hn8 (n - 1) 1 (.inr none) (.inr none) (.inr none) (.inr none) (.inr none) M3 (by decide) (by omega) (fun d a hd ha => by
      have : d = 0 := by omega
      subst this
      rw [ioT_0, show 8 * a + (a + 0) = 9 * a by omega]
      exact h0 a (by omega)) h3
    have b1 : (n : Int) < ((n + 1 : Nat) : Int) := by omega
    have w : wr ((n : Int) - 1) = ((n - 1 : Nat) : Int) := by rw [wr_s (by omega) (by omega)]; omega
    have y : 0 ≤ ((n - 1 : Nat) : Int) ∧ ((n - 1 : Nat) : Int) < 64 := by omega
    have h := g1 (n - 1) 0 (by omega) (by omega)
    rw [show n - 1 + 1 = n by omega, show 8 * 0 + (0 + (n - 1)) = n - 1 by omega] at h
    refine ⟨M', ?_, g2⟩
    rw [@if_neg _ (Classical.propDecidable _) hz]
    refine Eq.trans e (Eq.trans hx ?_)
    rw [B_281_61, if_pos b1, w, if_pos y, Int.toNat_natCast, h]
set_option maxHeartbeats 400000 in
theorem c_inOrder (hW : WM W) (x : Int) : OK2 W 171 281 [.inl x] := fun M hI _ => by
  obtain ⟨m, hm⟩ := hI.2.2.1
  have m1 := hm.1
  have m2 := hm.2.1
  by_cases hx : 2 ≤ x ∧ x ≤ 8
  · by_cases hxm : x ≤ (m : Int)
    · obtain ⟨n, hn, rfl⟩ : ∃ n : Nat, n ≤ 8 ∧ x = (n : Int) := ⟨x.toNat, by omega, by omega⟩
      have hnm : n ≤ m := by omega
      have hn2 : 2 ≤ n := by omega
      have hcl : ∃ M1, fnA 171 [.inr (some 1), .inl (n : Int)] M = some (some (.inl (@ite _ (hasZ (M 3) n) (Classical.propDecidable _) (-2) (ioT (oF M n) n (n - 1) 0))), upM M1 2 1 0) ∧ ∀ q, q ≠ 46 → M1 q = M q := by
        have e0 : fnA 171 [.inr (some 1), .inl (n : Int)] M = bI (fnA 98 [.inr (some 2), .inl (n : Int)] M) fun w1 M1 => if w1 = 0 then bI (fnA 38 [.inr (some 40), .inr (some 2), .inl (n : Int)] M1) fun w2 M2 => run 3 171 52 [.inr (some 1), .inl (n : Int), .inr none] [.inl w2] M2 else run 3 171 52 [.inr (some 1), .inl (n : Int), .inr none] [.inl ((-2))] M1 := by
          rw [E_171, if_neg (by omega), if_neg (by omega), if_pos (by omega)]
        rw [e0, s98 hm hnm, bI_s]
        by_cases hz : hasZ (M 3) n
        · refine ⟨M, ?_, fun _ _ => rfl⟩
          rw [bI1_t hz, if_neg (by decide), B_171_52, E_94, bV_s, @if_pos _ (Classical.propDecidable _) hz]
        · obtain ⟨M1, e1, h1⟩ := s38 hm hnm hn hn2
          refine ⟨M1, ?_, h1⟩
          rw [bI1_f hz, if_pos rfl, e1, bI_s, B_171_52, E_94, bV_s, @if_neg _ (Classical.propDecidable _) hz]
      obtain ⟨M1, e1, h1⟩ := hcl
      have h57 : upM (upM M1 2 1 0) 53 4 0 57 = M 57 := by rw [up_ne (by decide), up_ne (by decide)]; exact h1 57 (by decide)
      obtain ⟨M3, e3, h3⟩ := s281w h57 hm hnm hn hn2
      refine ⟨_, _, M3, e1, ?_, ?_, ?_⟩
      · rw [E_281, s181, bI_s, bI1_t hx, if_neg (by decide), up_o (by decide), h1 53 (by decide), if_pos (by omega)]
        exact e3
      · have g1 : SG M M1 (M 2 1) (M 53 4) := SG.of (SM.one (c := 46) (by decide) h1)
        have g2 : SG M (upM (upM M1 2 1 0) 53 4 0) 0 0 := g1.cl.rl
        have g3 : SM (upM (upM M1 2 1 0) 53 4 0) M3 := SM.one (c := 88) (by decide) h3
        exact (g3.inv hW (g2.zap hW hI))
      · rw [h3 0 (by decide), up_ne (by decide), up_ne (by decide), h1 0 (by decide)]
    · refine ⟨-1, M, M, ?_, ?_, hI, rfl⟩
      · rw [E_171, if_neg (by omega), if_neg (by omega), if_neg (by omega)]
      · rw [E_281, s181, bI_s, bI1_t hx, if_neg (by decide), if_neg (by omega)]
  · refine ⟨-1, M, M, ?_, ?_, hI, rfl⟩
    · rw [E_171]
      by_cases h1 : x < 2
      · rw [if_pos h1]
      · rw [if_neg h1, if_pos (by omega)]
    · rw [E_281, s181, bI_s, bI1_f hx, if_pos rfl]
end ORC
