/-! feed: the bytes of an int, taken off in two ways. -/
theorem n_of (z : Int) : Int32.ofInt z = nI (z % 4294967296).toNat := by
  apply Int32.toBitVec_inj.1
  show BitVec.ofInt 32 z = BitVec.ofNat 32 _
  apply BitVec.eq_of_toNat_eq
  rw [BitVec.toNat_ofInt, BitVec.toNat_ofNat]
  omega
theorem a255 (w : Nat) : (nI w &&& nI 255).toInt = ((w % 256 : Nat) : Int) := by
  rw [n_and, show w &&& 255 = w % 256 from Nat.and_two_pow_sub_one_eq_mod w 8, nI_toInt (by omega)]
theorem iAnd255 (z : Int) : iAnd z 255 = z % 256 := by
  unfold iAnd
  rw [n_of z, show Int32.ofInt 255 = nI 255 from oI 255, a255]
  omega
theorem u32 : ∀ n, n < 32 → (((nI n).toUInt32 &&& Int32.toUInt32 31).toBitVec % 32).toNat = n := by decide +kernel
theorem iUshr255 (x : Int) {k : Nat} (hk : k < 32) : iAnd (iUshr x (k : Int)) 255 = (((x % 4294967296).toNat / 2 ^ k % 256 : Nat) : Int) := by
  unfold iAnd iUshr
  rw [i_bit, oI, n_of x, pk_ushrN (by omega) _ k (u32 k hk), show Int32.ofInt 255 = nI 255 from oI 255, a255]
theorem iShr_z {x : Int} (hx : inR x) {k : Nat} (hk : k < 32) : iShr x (k : Int) = x / ((2 ^ k : Nat) : Int) := by
  have h1 := i_toI hx
  unfold iShr
  show ((Int32.ofInt x >>> (Int32.ofInt k &&& 31)).toBitVec).toInt = _
  rw [Int32.toBitVec_shiftRight]
  show ((Int32.ofInt x).toBitVec.sshiftRight ((Int32.ofInt k &&& 31).toBitVec.smod 32).toNat).toInt = _
  rw [BitVec.toInt_sshiftRight, oI, s32 k hk, Int.shiftRight_eq_div_pow]
  rw [show (Int32.ofInt x).toBitVec.toInt = x from h1]
theorem b8_255 (z : Int) : b8 z % 256 = z % 256 := by unfold b8; omega
/-- the bytes agree -/
theorem byte_e {x : Int} (hx : inR x) {k : Nat} (hk : k < 4) : iAnd (iUshr x ((8 * k : Nat) : Int)) 255 = iAnd (b8 (b8 (iShr x ((8 * k : Nat) : Int)))) 255 ∧ 0 ≤ iAnd (iUshr x ((8 * k : Nat) : Int)) 255 ∧ iAnd (iUshr x ((8 * k : Nat) : Int)) 255 < 256 := by
  rw [iUshr255 x (by omega), iShr_z hx (by omega), iAnd255, b8_255, b8_255]
  obtain ⟨h1, h2⟩ := hx
  have : k = 0 ∨ k = 1 ∨ k = 2 ∨ k = 3 := by omega
  rcases this with rfl | rfl | rfl | rfl
  · simp only [Nat.mul_zero, Nat.pow_zero]; omega
  · simp only [show 2 ^ (8 * 1) = 256 by decide]; omega
  · simp only [show 2 ^ (8 * 2) = 65536 by decide]; omega
  · simp only [show 2 ^ (8 * 3) = 16777216 by decide]; omega
/-- the class's four bytes -/
theorem s93 {x : Int} (M : aM) {n : Nat} (hn : n + 4 ≤ 260) (h0 : M 2 1 = (n : Int)) : ∃ M', fnA 93 [.inr (some 2), .inl x] M = some (none, M') ∧ M' 2 1 = ((n + 4 : Nat) : Int) ∧ (∀ i, i < n → M' 3 i = M 3 i) ∧ (∀ k, k < 4 → M' 3 (n + k) = iAnd (iUshr x ((8 * (3 - k) : Nat) : Int)) 255) ∧ ∀ q, q ≠ 2 → q ≠ 3 → M' q = M q := by
  rw [E_93]
  have key : ∀ k, k ≤ 4 → ∀ M1 : aM, M1 2 1 = ((n + (4 - k) : Nat) : Int) → ∃ M', run 0 93 3 [.inr (some 2), .inl x, .inl (8 * (k : Int) - 8)] [] M1 = some (none, M') ∧ M' 2 1 = ((n + 4 : Nat) : Int) ∧ (∀ i, i < n + (4 - k) → M' 3 i = M1 3 i) ∧ (∀ j, 4 - k ≤ j → j < 4 → M' 3 (n + j) = iAnd (iUshr x ((8 * (3 - j) : Nat) : Int)) 255) ∧ ∀ q, q ≠ 2 → q ≠ 3 → M' q = M1 q := by
    intro k
    induction k with
    | zero =>
      intro _ M1 h1
      refine ⟨M1, ?_, h1, fun _ _ => rfl, fun j h2 h3 => absurd h2 (by omega), fun _ _ _ => rfl⟩
      rw [B_93_3, if_pos (by omega)]
    | succ k ih =>
      intro hk M1 h1
      let M2 := upM (upM M1 3 (n + (4 - (k + 1))) (iAnd (iUshr x ((8 * k : Nat) : Int)) 255)) 2 1 ((n + (4 - k) : Nat) : Int)
      obtain ⟨M', g1, g2, g3, g4, g5⟩ := ih (by omega) M2 up_s
      have hM2 : ∀ i, M2 3 i = if i = n + (4 - (k + 1)) then iAnd (iUshr x ((8 * k : Nat) : Int)) 255 else M1 3 i := fun i => by
        show upM _ _ _ _ _ _ = _
        rw [up_o (by decide), up_r]
        by_cases e : i = n + (4 - (k + 1))
        · rw [if_pos ⟨rfl, e⟩, if_pos e]
        · rw [if_neg (fun z => e z.2), if_neg e]
      refine ⟨M', ?_, g2, fun i hi => ?_, fun j h2 h3 => ?_, fun q h2 h3 => ?_⟩
      · rw [show 8 * ((k + 1 : Nat) : Int) - 8 = ((8 * k : Nat) : Int) by omega, B_93_3, if_neg (by omega), if_neg (by omega), if_pos (by omega), h1, Int.toNat_natCast, up_o (by decide), h1, wr_s (by omega) (by omega), wr_s (by omega) (by omega), show ((n + (4 - (k + 1)) : Nat) : Int) + 1 = ((n + (4 - k) : Nat) : Int) by omega, show ((8 * k : Nat) : Int) + -8 = 8 * (k : Int) - 8 by omega]
        exact g1
      · rw [g3 i (by omega), hM2, if_neg (by omega)]
      · by_cases e : j = 4 - (k + 1)
        · rw [g3 (n + j) (by omega), hM2, if_pos (by omega), show 3 - j = k by omega]
        · exact g4 j (by omega) h3
      · rw [g5 q h2 h3]
        show upM _ _ _ _ q = _
        rw [up_ne h2, up_ne h3]
  obtain ⟨M', g1, g2, g3, g4, g5⟩ := key 4 (by omega) M (by rw [h0]; rfl)
  exact ⟨M', g1, g2, fun i hi => g3 i (by omega), fun j hj => g4 j (by omega) hj, g5⟩
theorem s199 {x : Int} (M : aM) {n : Nat} (hn : n + 4 ≤ 260) (h0 : M 53 4 = (n : Int)) : ∃ M', fnA 199 [.inr (some 53), .inl x] M = some (none, M') ∧ M' 53 4 = ((n + 4 : Nat) : Int) ∧ (∀ i, i < n → M' 57 i = M 57 i) ∧ (∀ k, k < 4 → M' 57 (n + k) = b8 (b8 (iShr x ((8 * (3 - k) : Nat) : Int)))) ∧ (∀ q, q ≠ 53 → q ≠ 57 → M' q = M q) ∧ ∀ j, j ≠ 4 → M' 53 j = M 53 j := by
  rw [E_199]
  have key : ∀ k, k ≤ 4 → ∀ M1 : aM, M1 53 4 = ((n + (4 - k) : Nat) : Int) → ∃ M', run 0 199 2 [.inr (some 53), .inl x, .inl ((k : Int) - 1)] [] M1 = some (none, M') ∧ M' 53 4 = ((n + 4 : Nat) : Int) ∧ (∀ i, i < n + (4 - k) → M' 57 i = M1 57 i) ∧ (∀ j, 4 - k ≤ j → j < 4 → M' 57 (n + j) = b8 (b8 (iShr x ((8 * (3 - j) : Nat) : Int)))) ∧ (∀ q, q ≠ 53 → q ≠ 57 → M' q = M1 q) ∧ ∀ j, j ≠ 4 → M' 53 j = M1 53 j := by
    intro k
    induction k with
    | zero =>
      intro _ M1 h1
      refine ⟨M1, ?_, h1, fun _ _ => rfl, fun j h2 h3 => absurd h2 (by omega), fun _ _ _ => rfl, fun _ _ => rfl⟩
      rw [B_199_2, if_pos (by omega)]
    | succ k ih =>
      intro hk M1 h1
      let M2 := upM (upM M1 57 (n + (4 - (k + 1))) (b8 (b8 (iShr x ((8 * k : Nat) : Int))))) 53 4 ((n + (4 - k) : Nat) : Int)
      obtain ⟨M', g1, g2, g3, g4, g5, g6⟩ := ih (by omega) M2 up_s
      have hM2 : ∀ i, M2 57 i = if i = n + (4 - (k + 1)) then b8 (b8 (iShr x ((8 * k : Nat) : Int))) else M1 57 i := fun i => by
        show upM _ _ _ _ _ _ = _
        rw [up_o (by decide), up_r]
        by_cases e : i = n + (4 - (k + 1))
        · rw [if_pos ⟨rfl, e⟩, if_pos e]
        · rw [if_neg (fun z => e z.2), if_neg e]
      refine ⟨M', ?_, g2, fun i hi => ?_, fun j h2 h3 => ?_, fun q h2 h3 => ?_, fun j hj => ?_⟩
      · rw [show ((k + 1 : Nat) : Int) - 1 = (k : Int) by omega, B_199_2, if_neg (by omega), if_pos (by omega), h1, Int.toNat_natCast, up_o (by decide), h1, wr_s (z := 8 * (k : Int)) (by omega) (by omega), wr_s (by omega) (by omega), wr_s (by omega) (by omega), show ((n + (4 - (k + 1)) : Nat) : Int) + 1 = ((n + (4 - k) : Nat) : Int) by omega, show (k : Int) + -1 = (k : Int) - 1 by omega, show 8 * (k : Int) = ((8 * k : Nat) : Int) by omega]
        exact g1
      · rw [g3 i (by omega), hM2, if_neg (by omega)]
      · by_cases e : j = 4 - (k + 1)
        · rw [g3 (n + j) (by omega), hM2, if_pos (by omega), show 3 - j = k by omega]
        · exact g4 j (by omega) h3
      · rw [g5 q h2 h3]
        show upM _ _ _ _ q = _
        rw [up_ne h2, up_ne h3]
      · rw [g6 j hj]
        show upM _ _ _ _ 53 j = _
        rw [up_j hj, up_o (by decide)]
  obtain ⟨M', g1, g2, g3, g4, g5⟩ := key 4 (by omega) M (by rw [h0]; rfl)
  exact ⟨M', g1, g2, fun i hi => g3 i (by omega), fun j hj => g4 j (by omega) hj, g5⟩
theorem c_feed {W : aM → Prop} (hW : WM W) (xs : Nat → Int) (hx : ∀ i, i < 5 → inR (xs i)) : OK2 W 136 200 [.inl (xs 0), .inl (xs 1), .inl (xs 2), .inl (xs 3), .inl (xs 4)] := fun M hI _ => by
  obtain ⟨n, hn⟩ := hI.2.2.1
  obtain ⟨n1, n2, n3, n4⟩ := hn
  by_cases hr : n + 20 ≤ 260
  · obtain ⟨A1, a11, a12, a13, a14, a15⟩ := s93 (x := xs 0) M (n := n) (by omega) n1
    obtain ⟨A2, a21, a22, a23, a24, a25⟩ := s93 (x := xs 1) A1 (n := n + 4) (by omega) a12
    obtain ⟨A3, a31, a32, a33, a34, a35⟩ := s93 (x := xs 2) A2 (n := n + 4 + 4) (by omega) a22
    obtain ⟨A4, a41, a42, a43, a44, a45⟩ := s93 (x := xs 3) A3 (n := n + 4 + 4 + 4) (by omega) a32
    obtain ⟨A5, a51, a52, a53, a54, a55⟩ := s93 (x := xs 4) A4 (n := n + 4 + 4 + 4 + 4) (by omega) a42
    have ao : ∀ q, q ≠ 2 → q ≠ 3 → A5 q = M q := fun q h1 h2 => by rw [a55 q h1 h2, a45 q h1 h2, a35 q h1 h2, a25 q h1 h2, a15 q h1 h2]
    obtain ⟨B1, b11, b12, b13, b14, b15, b16⟩ := s199 (x := xs 0) A5 (n := n) (by omega) (by rw [ao 53 (by decide) (by decide)]; exact n2)
    obtain ⟨B2, b21, b22, b23, b24, b25, b26⟩ := s199 (x := xs 1) B1 (n := n + 4) (by omega) b12
    obtain ⟨B3, b31, b32, b33, b34, b35, b36⟩ := s199 (x := xs 2) B2 (n := n + 4 + 4) (by omega) b22
    obtain ⟨B4, b41, b42, b43, b44, b45, b46⟩ := s199 (x := xs 3) B3 (n := n + 4 + 4 + 4) (by omega) b32
    obtain ⟨B5, b51, b52, b53, b54, b55, b56⟩ := s199 (x := xs 4) B4 (n := n + 4 + 4 + 4 + 4) (by omega) b42
    have bo : ∀ q, q ≠ 53 → q ≠ 57 → B5 q = A5 q := fun q h1 h2 => by rw [b55 q h1 h2, b45 q h1 h2, b35 q h1 h2, b25 q h1 h2, b15 q h1 h2]
    have b53' : ∀ j, j ≠ 4 → B5 53 j = M 53 j := fun j hj => by rw [b56 j hj, b46 j hj, b36 j hj, b26 j hj, b16 j hj, ao 53 (by decide) (by decide)]
    have all : ∀ q, q ≠ 2 → q ≠ 3 → q ≠ 53 → q ≠ 57 → B5 q = M q := fun q h1 h2 h3 h4 => (bo q h3 h4).trans (ao q h1 h2)
    have fc : ∀ a k, a < 5 → k < 4 → A5 3 (n + (4 * a + k)) = iAnd (iUshr (xs a) ((8 * (3 - k) : Nat) : Int)) 255 := fun a k ha hk => by
      have : a = 0 ∨ a = 1 ∨ a = 2 ∨ a = 3 ∨ a = 4 := by omega
      rcases this with rfl | rfl | rfl | rfl | rfl
      · rw [show n + (4 * 0 + k) = n + k by omega, a53 _ (by omega), a43 _ (by omega), a33 _ (by omega), a23 _ (by omega), a14 k hk]
      · rw [show n + (4 * 1 + k) = n + 4 + k by omega, a53 _ (by omega), a43 _ (by omega), a33 _ (by omega), a24 k hk]
      · rw [show n + (4 * 2 + k) = n + 4 + 4 + k by omega, a53 _ (by omega), a43 _ (by omega), a34 k hk]
      · rw [show n + (4 * 3 + k) = n + 4 + 4 + 4 + k by omega, a53 _ (by omega), a44 k hk]
      · rw [show n + (4 * 4 + k) = n + 4 + 4 + 4 + 4 + k by omega, a54 k hk]
    have fr : ∀ a k, a < 5 → k < 4 → B5 57 (n + (4 * a + k)) = b8 (b8 (iShr (xs a) ((8 * (3 - k) : Nat) : Int))) := fun a k ha hk => by
      have : a = 0 ∨ a = 1 ∨ a = 2 ∨ a = 3 ∨ a = 4 := by omega
      rcases this with rfl | rfl | rfl | rfl | rfl
      · rw [show n + (4 * 0 + k) = n + k by omega, b53 _ (by omega), b43 _ (by omega), b33 _ (by omega), b23 _ (by omega), b14 k hk]
      · rw [show n + (4 * 1 + k) = n + 4 + k by omega, b53 _ (by omega), b43 _ (by omega), b33 _ (by omega), b24 k hk]
      · rw [show n + (4 * 2 + k) = n + 4 + 4 + k by omega, b53 _ (by omega), b43 _ (by omega), b34 k hk]
      · rw [show n + (4 * 3 + k) = n + 4 + 4 + 4 + k by omega, b53 _ (by omega), b44 k hk]
      · rw [show n + (4 * 4 + k) = n + 4 + 4 + 4 + 4 + k by omega, b54 k hk]
    have fco : ∀ i, i < n → A5 3 i = M 3 i := fun i hi => by rw [a53 i (by omega), a43 i (by omega), a33 i (by omega), a23 i (by omega), a13 i hi]
    have fro : ∀ i, i < n → B5 57 i = M 57 i := fun i hi => by rw [b53 i (by omega), b43 i (by omega), b33 i (by omega), b23 i (by omega), b13 i hi, ao 57 (by decide) (by decide)]
    refine ⟨((n + 20 : Nat) : Int), A5, B5, ?_, ?_, ?_, ?_⟩
    · rw [E_136, E_92, n1, wr_s (by omega) (by omega), if_neg (by omega), bI_s, if_neg (by decide), a11, bV_s, a21, bV_s, a31, bV_s, a41, bV_s, a51, bV_s, a52]
    · rw [E_200, ao 53 (by decide) (by decide), n2, wr_s (by omega) (by omega), if_pos (by omega), b11, bV_s, b21, bV_s, b31, bV_s, b41, bV_s, b51, bV_s, b52]
    · refine ⟨hI.1.mv (fun q h1 h2 => all q (by omega) (by omega) (by omega) (by omega)) (all 54 (by decide) (by decide) (by decide) (by decide)), hI.2.1.mv (by rw [all 1 (by decide) (by decide) (by decide) (by decide)]) (b53' 49 (by decide)) (fun q h1 h2 => all q (by omega) (by omega) (by omega) (by omega)) (all 56 (by decide) (by decide) (by decide) (by decide)), ⟨n + 20, ?_, b52, by omega, fun i hi => ?_⟩, hI.2.2.2.1.mv (all 41 (by decide) (by decide) (by decide) (by decide)) (all 42 (by decide) (by decide) (by decide) (by decide)) (all 82 (by decide) (by decide) (by decide) (by decide)) (all 83 (by decide) (by decide) (by decide) (by decide)), hW M _ (fun q hq => all q ?_ ?_ ?_ ?_) (b53' 13 (by decide)) (by rw [all 81 (by decide) (by decide) (by decide) (by decide)]) hI.2.2.2.2⟩
      · rw [bo 2 (by decide) (by decide)]; exact a52
      · rw [bo 3 (by decide) (by decide)]
        by_cases h : i < n
        · rw [fco i h, fro i h]; exact n4 i h
        · obtain ⟨a, k, ha, hk, rfl⟩ : ∃ a k, a < 5 ∧ k < 4 ∧ i = n + (4 * a + k) := ⟨(i - n) / 4, (i - n) % 4, by omega, by omega, by omega⟩
          rw [fc a k ha hk, fr a k ha hk]
          exact byte_e (hx a ha) (k := 3 - k) (by omega)
      all_goals (unfold lawQ at hq; simp at hq; omega)
    · exact all 0 (by decide) (by decide) (by decide) (by decide)
  · refine ⟨-1, M, M, ?_, ?_, hI, rfl⟩
    · rw [E_136, E_92, n1, wr_s (by omega) (by omega), if_pos (by omega), bI_s, if_pos rfl]
    · rw [E_200, n2, wr_s (by omega) (by omega), if_neg (by omega)]
