/-! taken: the fewest sums. -/
def tsT (f : Nat → Int) (s k : Nat) : Int := if s.testBit k = true then f k else 0
noncomputable def tkB (f : Nat → Int) (n : Nat) (sh : Int) : Nat → Option Nat
  | 0 => none
  | i + 1 => if sg (tsT f i) n = sh ∧ (∀ j, tkB f n sh i = some j → pct i 12 < pct j 12) then some i else tkB f n sh i
theorem tkB_s (f : Nat → Int) (n : Nat) (sh : Int) (i : Nat) : tkB f n sh (i + 1) = if sg (tsT f i) n = sh ∧ (∀ j, tkB f n sh i = some j → pct i 12 < pct j 12) then some i else tkB f n sh i := by
  rw [tkB]
theorem pct_z {s n : Nat} (hs : s < 2 ^ n) : ∀ k, pct s (n + k) = pct s n
  | 0 => rfl
  | k + 1 => by
    rw [← Nat.add_assoc]
    show pct s (n + k) + (if s.testBit (n + k) then 1 else 0) = _
    rw [bit_lt hs (by omega), pct_z hs k]
    rfl
theorem pct_n {s n : Nat} (hs : s < 2 ^ n) (hn : n ≤ 12) : pct s 12 ≤ n := by
  have := pct_z hs (12 - n)
  rw [show n + (12 - n) = 12 by omega] at this
  rw [this]
  exact pct_le s n
section TKN
variable {M : aM} {f : Nat → Int}
theorem tsT_b {n : Nat} (hf : ∀ k, k < n → 0 ≤ f k ∧ f k < 256) {s k : Nat} (hk : k < n) : 0 ≤ tsT f s k ∧ tsT f s k ≤ 255 := by
  have := hf k hk
  unfold tsT
  split <;> omega
theorem s161 {m : Nat} (hm : TP M m) {n s : Nat} (hn : n ≤ 12) (hnm : n ≤ m) (hs : s < 4096) : fnA 161 [.inr (some 1), .inl (n : Int), .inl (s : Int)] M = some (some (.inl (sg (tsT (M 3) s) n)), M) := by
  have hf : ∀ k, k < n → 0 ≤ M 3 k ∧ M 3 k < 256 := fun k hk => (hm.2.2.2 k (by omega)).2
  rw [E_161]
  have := sumV (fun i x => run 1 161 5 [.inr (some 1), .inl (n : Int), .inl (s : Int), .inl x, .inl i] [] M) (tsT (M 3) s) n 0 (some (some (.inl (sg (tsT (M 3) s) n)), M)) (by omega) (fun i hi => by
    have b0 := sg_b (f := tsT (M 3) s) (c := 255) (n := i) (fun k hk => tsT_b hf (by omega))
    have b1 := tsT_b hf (s := s) hi
    have hfi := hf i hi
    rw [B_161_5, if_neg (by omega)]
    by_cases hb : s.testBit i = true
    · have e : tsT (M 3) s i = M 3 i := if_pos hb
      rw [if_neg (fun z => by rw [iMask0 (by omega) (by omega)] at z; rw [hb] at z; cases z), tape_at hm (by omega), bI_s, sg_s, e, wr_s (z := _ + M 3 i) (by omega) (by omega), Int.add_assoc]
    · have e : tsT (M 3) s i = 0 := if_neg hb
      rw [if_pos ((iMask0 (by omega) (by omega)).mpr (by simpa using hb)), sg_s, e, Int.add_zero]) (by
    rw [B_161_5, if_pos (by omega), Int.zero_add]) n 0 (by omega)
  exact this
theorem s267i {m : Nat} (M' : aM) (h57 : M' 57 = M 57) (hm : TP M m) {n s : Nat} (hn : n ≤ 12) (hnm : n ≤ m) (hs : s < 4096) (sh z b : Int) : run 1 267 66 [.inr (some 53), .inl (n : Int), .inl sh, .inl z, .inl b, .inl (s : Int), .inl 0, .inl 0] [] M' = run 1 267 66 [.inr (some 53), .inl (n : Int), .inl sh, .inl z, .inl b, .inl (s : Int), .inl (sg (tsT (M 3) s) n), .inl (n : Int)] [] M' := by
  have hf : ∀ k, k < n → 0 ≤ M 3 k ∧ M 3 k < 256 := fun k hk => (hm.2.2.2 k (by omega)).2
  have := sumV (fun i x => run 1 267 66 [.inr (some 53), .inl (n : Int), .inl sh, .inl z, .inl b, .inl (s : Int), .inl x, .inl i] [] M') (tsT (M 3) s) n 0 (run 1 267 66 [.inr (some 53), .inl (n : Int), .inl sh, .inl z, .inl b, .inl (s : Int), .inl (sg (tsT (M 3) s) n), .inl (n : Int)] [] M') (by omega) (fun i hi => by
    have b0 := sg_b (f := tsT (M 3) s) (c := 255) (n := i) (fun k hk => tsT_b hf (by omega))
    have b1 := tsT_b hf (s := s) hi
    have hfi := hf i hi
    have h3 := (hm.2.2.2 i (by omega)).1
    rw [B_267_66, if_neg (by omega), s184 (by omega) (by omega), bI_s]
    by_cases hb : s.testBit i = true
    · have e : tsT (M 3) s i = M 3 i := if_pos hb
      rw [bI1_t hb, if_neg (by decide), oct_at (by omega), bI_s, h57, ← h3, sg_s, e, wr_s (z := _ + M 3 i) (by omega) (by omega), Int.add_assoc]
    · have e : tsT (M 3) s i = 0 := if_neg hb
      rw [bI1_f hb, if_pos rfl, sg_s, e, Int.add_zero, Int.add_zero, wr_s (z := 0 + _) (by omega) (by omega)]) (by
    rw [Int.zero_add]) n 0 (by omega)
  exact this
def optC (o : Option Nat) : Int := match o with | some j => (j : Int) | none => -1
def optR (o : Option Nat) : Int := match o with | some j => (j : Int) | none => -2
def optF (n : Nat) (o : Option Nat) : Int := match o with | some j => (pct j 12 : Int) | none => (n : Int) + 1
theorem tkB_lt (n : Nat) (sh : Int) : ∀ i j, tkB f n sh i = some j → j < i
  | 0, j, h => by rw [tkB] at h; cases h
  | i + 1, j, h => by
    rw [tkB_s] at h
    split at h
    · cases h; omega
    · have := tkB_lt n sh i j h; omega
theorem c_taken {W : aM → Prop} (hW : WM W) (x y z : Int) : OK2 W 159 267 [.inl x, .inl y, .inl z] := fun M hI _ => by
  obtain ⟨m, hm⟩ := hI.2.2.1
  have hm0 := hm
  obtain ⟨m1, m2, m3, m4⟩ := hm0
  by_cases hx : 1 ≤ x ∧ x ≤ 12
  · by_cases hy : 0 ≤ y ∧ y ≤ 3060
    · by_cases hz : z = 0 ∨ z = 1
      · by_cases hxm : x ≤ (m : Int)
        · obtain ⟨n, hn, rfl⟩ : ∃ n : Nat, (1 ≤ n ∧ n ≤ 12) ∧ x = (n : Int) := ⟨x.toNat, by omega, by omega⟩
          have hp : 2 ^ n ≤ 4096 := Nat.le_trans (Nat.pow_le_pow_right (by decide) hn.2) (by decide : 2 ^ 12 ≤ 4096)
          have esh : iShl 1 (n : Int) = ((2 ^ n : Nat) : Int) := iShl_1 (by omega)
          -- the class
          obtain ⟨s1, hs1, he1⟩ := upR (fun i (s : Option Nat × aV) => run 2 160 10 [.inr (some 1), .inl (n : Int), .inl y, .inl (optC s.1), .inl (optF n s.1), .inl i, s.2] [] M) (fun i s => s.1 = tkB (M 3) n y i) (2 ^ n) (by omega) (fun i s hi hs => by
            obtain ⟨s, v⟩ := s
            dsimp only at hs ⊢
            subst hs
            have i4 : i < 4096 := by omega
            have hpi := pct_n hi hn.2
            rw [B_160_10, esh, if_neg (by omega), s287 i4, bI_s, tkB_s]
            by_cases hc : sg (tsT (M 3) i) n = y ∧ (∀ j, tkB (M 3) n y i = some j → pct i 12 < pct j 12)
            · refine ⟨(some i, .inl (pct i 12 : Int)), ?_, by rw [if_pos hc]⟩
              have hlt : ¬ optF n (tkB (M 3) n y i) ≤ (pct i 12 : Int) := by
                cases e : tkB (M 3) n y i with
                | none => show ¬ (n : Int) + 1 ≤ _; omega
                | some j => have := hc.2 j e; show ¬ (pct j 12 : Int) ≤ _; omega
              rw [if_neg hlt, s161 hm hn.2 (by omega) i4, bI_s, if_pos hc.1]
              rfl
            · refine ⟨(tkB (M 3) n y i, .inl (pct i 12 : Int)), ?_, by rw [if_neg hc]⟩
              by_cases hlt : optF n (tkB (M 3) n y i) ≤ (pct i 12 : Int)
              · rw [if_pos hlt]
              · rw [if_neg hlt, s161 hm hn.2 (by omega) i4, bI_s]
                rw [if_neg (fun e => hc ⟨e, fun j hj => by rw [hj] at hlt; change ¬ (pct j 12 : Int) ≤ _ at hlt; omega⟩)]) (2 ^ n) 0 (none, .inr none) (by omega) rfl
          obtain ⟨s1, v1⟩ := s1
          dsimp only at hs1 he1
          subst hs1
          have hcl : fnA 160 [.inr (some 1), .inl (n : Int), .inl y] M = some (some (.inl (optC (tkB (M 3) n y (2 ^ n)))), M) := by
            rw [E_160, wr_s (by omega) (by omega)]
            refine Eq.trans he1 ?_
            rw [B_160_10, esh, if_pos (Int.le_refl _)]
          -- the reference
          have hrf : ∀ M', M' 57 = M 57 → run 1 267 52 [.inr (some 53), .inl (n : Int), .inl y, .inl z, .inl (-2), .inl 0, .inr none, .inr none] [] M' = if z = 1 then some (some (.inl (optR (tkB (M 3) n y (2 ^ n)))), M') else if optR (tkB (M 3) n y (2 ^ n)) = -2 then some (some (.inl (optR (tkB (M 3) n y (2 ^ n)))), M') else bI (fnA 185 [.inl (optR (tkB (M 3) n y (2 ^ n)))] M') fun w1 M1 => some (some (.inl w1), M1) := fun M' h57 => by
            obtain ⟨s2, hs2, he2⟩ := upR (fun i (s : Option Nat × aV × aV) => run 1 267 52 [.inr (some 53), .inl (n : Int), .inl y, .inl z, .inl (optR s.1), .inl i, s.2.1, s.2.2] [] M') (fun i s => s.1 = tkB (M 3) n y i) (2 ^ n) (by omega) (fun i s hi hs => by
              obtain ⟨s, v, w⟩ := s
              dsimp only at hs ⊢
              subst hs
              have i4 : i < 4096 := by omega
              have hlo := tkB_lt (f := M 3) n y i
              refine ⟨(tkB (M 3) n y (i + 1), .inl (sg (tsT (M 3) i) n), .inl (n : Int)), ?_, rfl⟩
              dsimp only
              rw [B_267_52, esh, if_neg (by omega), s267i M' h57 hm hn.2 (by omega) i4, B_267_66, if_pos (Int.le_refl _), tkB_s]
              by_cases hsum : sg (tsT (M 3) i) n = y
              · rw [if_pos hsum]
                cases e : tkB (M 3) n y i with
                | none =>
                  rw [if_pos (show optR none = -2 from rfl), if_pos ⟨hsum, fun j hj => by cases hj⟩]
                  rfl
                | some j =>
                  have hji := hlo j e
                  rw [if_neg (show ¬ optR (some j) = -2 from by show ¬ (j : Int) = -2; omega)]
                  show (bI (fnA 185 [.inl (i : Int)] M') fun w1 M1 => bI (fnA 185 [.inl (j : Int)] M1) _) = _
                  rw [s185 (by omega), bI_s, s185 (by omega), bI_s]
                  by_cases hl : (pct j 12 : Int) ≤ (pct i 12 : Int)
                  · rw [if_pos hl, if_neg (fun z => by have := z.2 j rfl; omega)]
                  · rw [if_neg hl, if_pos ⟨hsum, fun j' hj' => by cases hj'; omega⟩]
                    rfl
              · rw [if_neg hsum, if_neg (fun z => hsum z.1)]) (2 ^ n) 0 (none, .inr none, .inr none) (by omega) rfl
            obtain ⟨s2, v2, w2⟩ := s2
            dsimp only at hs2 he2
            subst hs2
            refine Eq.trans he2 ?_
            rw [B_267_52, esh, if_pos (Int.le_refl _)]
          let M1 := upM M 2 1 0
          let M2 := upM M1 53 4 0
          have hinv : INV W M2 := (SG.rf.cl.rl).zap hW hI
          have h57 : M2 57 = M 57 := by show upM _ _ _ _ 57 = _; rw [up_ne (by decide)]; exact up_ne (by decide)
          have eC' : fnA 159 [.inr (some 1), .inl (n : Int), .inl y, .inl z] M = run 3 159 46 [.inr (some 1), .inl (n : Int), .inl y, .inl z, .inr none] [] M := by
            rw [E_159, if_neg (by omega), if_neg (by omega), if_pos (by omega), if_neg (by omega), if_neg (by omega)]
            rcases hz with g | g
            · rw [if_pos g]
            · rw [if_neg (by omega), if_pos g]
          have eR : fnA 267 [.inr (some 53), .inl (n : Int), .inl y, .inl z] M1 = run 1 267 52 [.inr (some 53), .inl (n : Int), .inl y, .inl z, .inl (-2), .inl 0, .inr none, .inr none] [] M2 := by
            rw [E_267, s181, bI_s, bI1_t hx, if_neg (by decide), s181, bI_s, bI1_t hy, if_neg (by decide), s181, bI_s, bI1_t (by omega), if_neg (by decide)]
            rw [show M1 53 4 = M 53 4 from up_o (by decide), if_pos (by omega)]
          refine ⟨match tkB (M 3) n y (2 ^ n) with | none => -2 | some j => if z = 1 then (j : Int) else (pct j 12 : Int), M1, M2, ?_, ?_, hinv, ?_⟩
          · rw [eC', B_159_46, hcl, bI_s, E_94, bV_s]
            cases e : tkB (M 3) n y (2 ^ n) with
            | none => rw [if_neg (show ¬ (0 : Int) ≤ optC none from by decide)]
            | some j =>
              have hj := tkB_lt (f := M 3) n y _ j e
              rw [if_pos (show (0 : Int) ≤ optC (some j) from Int.natCast_nonneg j)]
              rw [show optC (some j) = (j : Int) from rfl]
              show (_ : aX) = some (some (Sum.inl (if z = 1 then (j : Int) else (pct j 12 : Int))), _)
              by_cases g : z = 1
              · rw [if_neg (by omega), if_pos g]
              · rw [if_pos (by omega), if_neg g, s287 (by omega), bI_s]
          · rw [eR, hrf M2 h57]
            cases e : tkB (M 3) n y (2 ^ n) with
            | none =>
              by_cases g : z = 1
              · rw [if_pos g]; rfl
              · rw [if_neg g]; rfl
            | some j =>
              have hj := tkB_lt (f := M 3) n y _ j e
              rw [show optR (some j) = (j : Int) from rfl]
              show (_ : aX) = some (some (Sum.inl (if z = 1 then (j : Int) else (pct j 12 : Int))), _)
              by_cases g : z = 1
              · rw [if_pos g, if_pos g]
              · rw [if_neg g, if_neg g, if_neg (by omega), s185 (by omega), bI_s]
          · show upM _ _ _ _ 0 = _
            rw [up_ne (by decide)]; exact up_ne (by decide)
        · refine ⟨-1, M, M, ?_, ?_, hI, rfl⟩
          · rw [E_159, if_neg (by omega), if_neg (by omega), if_neg (by omega)]
          · rw [E_267, s181, bI_s, bI1_t hx, if_neg (by decide), s181, bI_s, bI1_t hy, if_neg (by decide), s181, bI_s, bI1_t (by omega), if_neg (by decide), if_neg (by omega)]
      · refine ⟨-1, M, M, ?_, ?_, hI, rfl⟩
        · rw [E_159, if_neg (by omega), if_neg (by omega)]
          by_cases g : x ≤ M 2 1
          · rw [if_pos g, if_neg (by omega), if_neg (by omega), if_neg (fun e => hz (Or.inl e)), if_neg (fun e => hz (Or.inr e))]
          · rw [if_neg g]
        · rw [E_267, s181, bI_s, bI1_t hx, if_neg (by decide), s181, bI_s, bI1_t hy, if_neg (by decide), s181, bI_s, bI1_f (by omega), if_pos rfl]
    · refine ⟨-1, M, M, ?_, ?_, hI, rfl⟩
      · rw [E_159, if_neg (by omega), if_neg (by omega)]
        by_cases g : x ≤ M 2 1
        · rw [if_pos g]
          by_cases g2 : y < 0
          · rw [if_pos g2]
          · rw [if_neg g2, if_pos (by omega)]
        · rw [if_neg g]
      · rw [E_267, s181, bI_s, bI1_t hx, if_neg (by decide), s181, bI_s, bI1_f hy, if_pos rfl]
  · refine ⟨-1, M, M, ?_, ?_, hI, rfl⟩
    · rw [E_159]
      by_cases g : x < 1
      · rw [if_pos g]
      · rw [if_neg g, if_pos (by omega)]
    · rw [E_267, s181, bI_s, bI1_f hx, if_pos rfl]
end TKN
