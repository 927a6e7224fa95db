/-! inOrder. -/
section ORD
variable {M : aM}
theorem s38 {m n : Nat} (hm : TP M m) (hn : n ≤ m) (hn8 : n ≤ 8) (hn2 : 2 ≤ n) : ∃ M', fnA 38 [.inr (some 40), .inr (some 2), .inl (n : Int)] M = some (some (.inl (ioT (oF M n) n (n - 1) 0)), M') ∧ ∀ q, q ≠ 46 → M' q = M q := by
  have hF : ∀ M', (∀ q, q ≠ 46 → M' q = M q) → oF M' n = oF M n ∧ TP M' m := fun M' h => ⟨by funext k; unfold oF; rw [h 3 (by decide)], hm.mv (by rw [h 2 (by decide)]) (by rw [h 53 (by decide)]) (h 3 (by decide)) (h 57 (by decide))⟩
  obtain ⟨s', hs, he⟩ := upR (fun i (s : aM × aV × aV) => run 2 38 10 [.inr (some 40), .inr (some 2), .inl (n : Int), .inl (n : Int), .inl (i + 1), s.2.1, s.2.2] [] s.1) (fun i s => IOC (oF M n) 46 s.1 n i ∧ ∀ q, q ≠ 46 → s.1 q = M q) n (by omega) (fun i s hi hs => by
    obtain ⟨M1, v5, v6⟩ := s
    dsimp only at hs ⊢
    obtain ⟨g1, g2⟩ := hs
    have e1 : (i : Int) + 1 = ((i + 1 : Nat) : Int) := rfl
    have e2 : wr ((i : Int) + 1) = ((i + 1 : Nat) : Int) := by rw [wr_s (by omega) (by omega)]; rfl
    have e3 : wr (((i + 1 : Nat) : Int) + 1) = ((i + 1 : Nat) : Int) + 1 := wr_s (by omega) (by omega)
    obtain ⟨s2, hs2, he2⟩ := upR (fun a (s : aM × aV) => run 2 38 19 [.inr (some 40), .inr (some 2), .inl (n : Int), .inl (n : Int), .inl ((i + 1 : Nat) : Int), .inl a, s.2] [] s.1) (fun a s => (IOC (oF M n) 46 s.1 n i ∧ ∀ b, b < a → s.1 46 (8 * b + (b + i)) = ioT (oF M n) (i + 1) i b) ∧ ∀ q, q ≠ 46 → s.1 q = M q) (n - i) (by omega) (fun a s ha hs => by
      obtain ⟨M2, v⟩ := s
      dsimp only at hs ⊢
      obtain ⟨⟨k1, k2⟩, k3⟩ := hs
      obtain ⟨hf1, hf2⟩ := hF M2 k3
      have w1 : wr ((a : Int) + ((i + 1 : Nat) : Int)) = ((a + (i + 1) : Nat) : Int) := by rw [wr_s (by omega) (by omega)]; omega
      have w2 : wr (((a + (i + 1) : Nat) : Int) - 1) = ((a + i : Nat) : Int) := by rw [wr_s (by omega) (by omega)]; omega
      have w3 := ix8 (a := a) (b := a + i) (by omega) (by omega)
      have hres : ∀ x : Int, x = ioT (oF M n) (i + 1) i a → (IOC (oF M n) 46 (upM M2 46 (8 * a + (a + i)) x) n i ∧ ∀ b, b < a + 1 → upM M2 46 (8 * a + (a + i)) x 46 (8 * b + (b + i)) = ioT (oF M n) (i + 1) i b) ∧ ∀ q, q ≠ 46 → upM M2 46 (8 * a + (a + i)) x q = M q := fun x hx => by
        refine ⟨⟨fun d b hd hb => ?_, fun b hb => ?_⟩, fun q hq => by rw [up_ne hq]; exact k3 q hq⟩
        · rw [up_j (by omega)]; exact k1 d b hd hb
        · by_cases e : b = a
          · rw [e, up_s, hx]
          · rw [up_j (by omega)]; exact k2 b (by omega)
      by_cases h0 : i = 0
      · refine ⟨(upM M2 46 (8 * a + (a + i)) 0, .inl ((a + i : Nat) : Int)), ?_, hres 0 (by rw [h0, ioT_0])⟩
        rw [B_38_19, w1, if_neg (by omega), if_pos (by omega), w2, w3, if_pos (by omega), Int.toNat_natCast]
      · have h39 := s39 hf2 hn hn8 (d := i) (a := a) h0 (by omega) (by rw [hf1]; exact k1)
        rw [hf1] at h39
        refine ⟨(upM M2 46 (8 * a + (a + i)) (ioT (oF M n) (i + 1) i a), .inl ((a + i : Nat) : Int)), ?_, hres _ rfl⟩
        rw [B_38_19, w1, if_neg (by omega), if_neg (by omega), w2, h39, bI_s, w3, if_pos (by omega), Int.toNat_natCast]) (n - i) 0 (M1, v6) (by omega) ⟨⟨g1, fun b hb => absurd hb (Nat.not_lt_zero b)⟩, g2⟩
    obtain ⟨M2, v⟩ := s2
    dsimp only at hs2 he2
    obtain ⟨⟨k1, k2⟩, k3⟩ := hs2
    refine ⟨(M2, .inl ((n - i : Nat) : Int), v), ?_, fun d b hd hb => ?_, k3⟩
    · dsimp only
      have w1 : wr (((n - i : Nat) : Int) + ((i + 1 : Nat) : Int)) = ((n + 1 : Nat) : Int) := by rw [wr_s (by omega) (by omega)]; omega
      rw [e2, e1, B_38_10, if_neg (by omega)]
      refine Eq.trans he2 ?_
      rw [B_38_19, w1, if_pos (by omega), e3]
    · by_cases e : d = i
      · subst e; exact k2 b (by omega)
      · exact k1 d b (by omega) hb) n 0 (M, .inr none, .inr none) (by omega) ⟨fun d b hd _ => absurd hd (Nat.not_lt_zero d), fun _ _ => rfl⟩
  obtain ⟨M', v5, v6⟩ := s'
  dsimp only at hs he
  obtain ⟨g1, g2⟩ := hs
  refine ⟨M', ?_, g2⟩
  have h := g1 (n - 1) 0 (by omega) (by omega)
  rw [show n - 1 + 1 = n by omega] at h
  have w : wr ((n : Int) - 1) = ((0 + (n - 1) : Nat) : Int) := by rw [wr_s (by omega) (by omega)]; omega
  rw [E_38, show min (n : Int) 8 = (n : Int) by omega]
  refine Eq.trans he ?_
  rw [B_38_10, if_pos (by omega), w]
  rw [show (0 : Int) = ((0 : Nat) : Int) from rfl, s40 M' (by omega) (by omega), bI_s, h]
end ORD
