/-! keep, undo, setOff, check, count, feed. -/
theorem TP.by {M M' : aM} {n : Nat} (h : TP M n) (h0 : M' 2 1 = M 2 1) (h1 : M' 53 4 = M 53 4) (h2 : M' 3 = M 3) (h3 : M' 57 = M 57) : TP M' n := h.mv h0 h1 h2 h3
theorem TC.tk {M : aM} {k : Nat} {T : Nat → Int} (h : TC M k T) : M k 3 = T 136 ∧ M k 4 = (ok T : Int) ∧ M k 5 = T 138 ∧ M k 6 = T 139 ∧ M k 7 = T 140 := ⟨h.2.2.2.1, h.2.2.2.2.1, h.2.2.2.2.2.1, h.2.2.2.2.2.2.1, h.2.2.2.2.2.2.2⟩
theorem TR.cp {M M' : aM} {a b : Nat} {T : Nat → Int} (h : TR M a T) (h1 : ∀ j, j < 141 → M' b j = M a j) : TR M' b T := fun j hj => (h1 j hj).trans (h j hj)
theorem tape_at {M : aM} {n : Nat} (h : TP M n) {i : Nat} (hi : i < n) : fnA 95 [.inr (some 2), .inl (i : Int)] M = some (some (.inl (M 3 i)), M) := by
  obtain ⟨h1, h2, h3, h4⟩ := h
  rw [E_95, if_neg (by omega), if_neg (by omega), if_neg (by omega), if_pos (by omega), Int.toNat_natCast]
theorem oct_at {M : aM} {i : Nat} (hi : i < 260) : fnA 201 [.inr (some 53), .inl (i : Int)] M = some (some (.inl (iAnd (M 57 i) 255)), M) := by
  rw [E_201, if_pos (by omega), Int.toNat_natCast]
/-- the first place that is wrong -/
def fwd (f : Nat → Bool) : Nat → Nat → Int
  | _, 0 => -1
  | b, n + 1 => if f b = true then (b : Int) else fwd f (b + 1) n
section CALLS
variable {W : aM → Prop}
theorem c_keep (hW : WM W) : OK2 W 173 283 [] := fun M hI _ => by
  obtain ⟨T, hC, hR, hT, hZ⟩ := hI.1
  obtain ⟨M1, e1, e2, e3⟩ := s108 (Or.inr (Or.inl rfl)) (Or.inl rfl) (by decide : 8 ≠ 4) M
  obtain ⟨M2, e4, e5, e6⟩ := s186 (a := 54) (b := 56) (Or.inl rfl) (Or.inr (Or.inr (Or.inl rfl))) (by decide) (upM (upM M1 1 13 1) 53 49 1)
  have ho : ∀ q, q ≠ 1 → ¬ (8 ≤ q ∧ q ≤ 11) → q ≠ 53 → q ≠ 56 → M2 q = M q := fun q h1 h2 h3 h4 => by rw [e6 q h4, up_ne h3, up_ne h1, e3 q (by omega) (by omega) (by omega) (by omega)]
  have h53 : ∀ j, j ≠ 49 → M2 53 j = M 53 j := fun j hj => by rw [e6 53 (by decide), up_j hj, up_o (by decide), e3 53 (by decide) (by decide) (by decide) (by decide)]
  have h8 : ∀ q, 8 ≤ q → q ≤ 11 → M2 q = M1 q := fun q h1 h2 => by rw [e6 q (by omega), up_ne (by omega), up_ne (by omega)]
  refine ⟨T 138, upM M1 1 13 1, M2, ?_, ?_, ?_, ?_⟩
  · rw [E_173, e1, bV_s, up_o (by decide), e3 4 (by decide) (by decide) (by decide) (by decide), hC.tk.2.2.1]
  · rw [E_283, e4, bV_s, ho 54 (by decide) (by decide) (by decide) (by decide), hR 138 (by decide)]
  · obtain ⟨m, hm⟩ := hI.2.2.1
    have hRR : TR M2 56 T := by
      refine TR.cp (a := 54) ?_ e5
      exact hR.mv (by rw [up_ne (by decide), up_ne (by decide), e3 54 (by decide) (by decide) (by decide) (by decide)])
    refine ⟨hI.1.mv (fun q h1 h2 => ho q (by omega) (by omega) (by omega) (by omega)) (ho 54 (by decide) (by decide) (by decide) (by decide)), ⟨T, ?_, Or.inr ⟨?_, ?_, hRR, hT, hZ⟩⟩, ⟨m, hm.mv (by rw [ho 2 (by decide) (by decide) (by decide) (by decide)]) (h53 4 (by decide)) (ho 3 (by decide) (by decide) (by decide) (by decide)) (ho 57 (by decide) (by decide) (by decide) (by decide))⟩, hI.2.2.2.1.mv (ho 41 (by decide) (by decide) (by decide) (by decide)) (ho 42 (by decide) (by decide) (by decide) (by decide)) (ho 82 (by decide) (by decide) (by decide) (by decide)) (ho 83 (by decide) (by decide) (by decide) (by decide)), hW M _ (fun q hq => ho q ?_ ?_ ?_ ?_) (h53 13 (by decide)) (by rw [ho 81 (by decide) (by decide) (by decide) (by decide)]) hI.2.2.2.2⟩
    · rw [e6 1 (by decide), e6 53 (by decide), up_s, up_o (by decide), up_s]
    · rw [e6 53 (by decide), up_s]
    · exact (e2 T hC).mv (h8 8 (by decide) (by decide)) (h8 9 (by decide) (by decide)) (h8 10 (by decide) (by decide)) (h8 11 (by decide) (by decide))
    all_goals (unfold lawQ at hq; simp at hq; omega)
  · exact ho 0 (by decide) (by decide) (by decide) (by decide)
theorem c_undo (hW : WM W) : OK2 W 174 284 [] := fun M hI _ => by
  obtain ⟨K, k1, k2⟩ := hI.2.1
  rcases k2 with k2 | ⟨k2, k3, k4, k5, k6⟩
  · exact ⟨0, M, M, by rw [E_174, if_pos (k1.trans k2)], by rw [E_284, if_pos k2], hI, rfl⟩
  · obtain ⟨M1, e1, e2, e3⟩ := s108 (Or.inl rfl) (Or.inr (Or.inl rfl)) (by decide : 4 ≠ 8) M
    obtain ⟨M2, e4, e5, e6⟩ := s186 (a := 56) (b := 54) (Or.inr (Or.inr (Or.inl rfl))) (Or.inl rfl) (by decide) M1
    have ho : ∀ q, ¬ (4 ≤ q ∧ q ≤ 7) → q ≠ 54 → M2 q = M q := fun q h2 h3 => by rw [e6 q h3, e3 q (by omega) (by omega) (by omega) (by omega)]
    refine ⟨1, M1, M2, ?_, ?_, ?_, ?_⟩
    · rw [E_174, if_neg (by omega), e1, bV_s]
    · rw [E_284, e3 53 (by decide) (by decide) (by decide) (by decide), if_neg (by omega), e4, bV_s]
    · obtain ⟨m, hm⟩ := hI.2.2.1
      have hRR : TR M2 54 K := TR.cp (a := 56) (k4.mv (e3 56 (by decide) (by decide) (by decide) (by decide))) e5
      refine ⟨⟨K, (e2 K k3).mv (e6 4 (by decide)) (e6 5 (by decide)) (e6 6 (by decide)) (e6 7 (by decide)), hRR, k5, k6⟩, hI.2.1.mv (by rw [ho 1 (by decide) (by decide)]) (by rw [ho 53 (by decide) (by decide)]) (fun q h1 h2 => ho q (by omega) (by omega)) (ho 56 (by decide) (by decide)), ⟨m, hm.mv (by rw [ho 2 (by decide) (by decide)]) (by rw [ho 53 (by decide) (by decide)]) (ho 3 (by decide) (by decide)) (ho 57 (by decide) (by decide))⟩, hI.2.2.2.1.mv (ho 41 (by decide) (by decide)) (ho 42 (by decide) (by decide)) (ho 82 (by decide) (by decide)) (ho 83 (by decide) (by decide)), hW M _ (fun q hq => ho q ?_ ?_) (by rw [ho 53 (by decide) (by decide)]) (by rw [ho 81 (by decide) (by decide)]) hI.2.2.2.2⟩
      all_goals (unfold lawQ at hq; simp at hq; omega)
    · exact ho 0 (by decide) (by decide)
/-- what two owe each other, taken off both -/
def aPair (T : Nat → Int) (a b : Nat) : Int := 2 * min (T (8 + (8 * a + b))) (T (8 + (8 * b + a)))
theorem aPair_b {T : Nat → Int} (hT : TI T) {a b : Nat} (ha : a < 8) (hb : b < 8) : 0 ≤ aPair T a b ∧ aPair T a b ≤ 1998 := by
  have h1 := dI hT ha hb
  have h2 := dI hT hb ha
  unfold aPair
  omega
def aPU (T : Nat → Int) (a b : Nat) : Int := if a < b then aPair T a b else 0
def aPD (T : Nat → Int) (a b : Nat) : Int := if b < a then aPair T a b else 0
theorem aPU_b {T : Nat → Int} (hT : TI T) {a b : Nat} (ha : a < 8) (hb : b < 8) : 0 ≤ aPU T a b ∧ aPU T a b ≤ 1998 := by
  have := aPair_b hT ha hb
  unfold aPU; split <;> omega
theorem aPD_b {T : Nat → Int} (hT : TI T) {a b : Nat} (ha : a < 8) (hb : b < 8) : 0 ≤ aPD T a b ∧ aPD T a b ≤ 1998 := by
  have := aPair_b hT ha hb
  unfold aPD; split <;> omega
def aOff (T : Nat → Int) : Int := sg (fun a => sg (aPU T a) 8) 8
theorem aOff_e (T : Nat → Int) : sg (fun a => sg (aPD T a) 8) 8 = aOff T := by
  rw [sg_sw (F := fun a b => aPD T a b) 8 8]
  unfold aOff
  refine sg_c (fun i hi => sg_c (fun j hj => ?_))
  unfold aPU aPD aPair
  rw [Int.min_comm]
theorem s126 {k : Nat} {M : aM} {T : Nat → Int} (hk : isT k) (hC : TC M k T) (hT : TI T) : fnA 126 [.inr (some k)] M = some (some (.inl (aOff T)), M) := by
  have hr : ∀ a, a < 8 → ∀ n, n ≤ 8 → 0 ≤ sg (aPU T a) n ∧ sg (aPU T a) n ≤ 1998 * n := fun a ha n hn => sg_b (fun i hi => aPU_b hT ha (by omega))
  have hq : ∀ n, n ≤ 8 → 0 ≤ sg (fun a => sg (aPU T a) 8) n ∧ sg (fun a => sg (aPU T a) 8) n ≤ 15984 * n := fun n hn => sg_b (fun i hi => by have := hr i (by omega) 8 (by omega); omega)
  rw [E_126 _ _ hk]
  obtain ⟨s', hs, he⟩ := upR (fun i (s : Int × aV) => run 2 126 4 [.inr (some k), .inl s.1, .inl i, s.2] [] M) (fun i s => s.1 = sg (fun a => sg (aPU T a) 8) i) 8 (by decide) (fun i s hi hs => by
    obtain ⟨s, v⟩ := s
    dsimp only at hs ⊢
    subst hs
    have hqi := hq i (by omega)
    obtain ⟨t', ht, he⟩ := upR (fun j (t : Int) => run 2 126 14 [.inr (some k), .inl t, .inl (i : Int), .inl j] [] M) (fun j t => i < j ∧ t = sg (fun a => sg (aPU T a) 8) i + sg (aPU T i) j) 8 (by decide) (fun j t hj ht => by
      obtain ⟨hij, rfl⟩ := ht
      have h1 := hr i hi j (by omega)
      have h2 := aPU_b hT hi hj
      refine ⟨_, ?_, Nat.lt_succ_of_lt hij, rfl⟩
      rw [B_126_14 _ _ _ _ _ hk, if_neg (by omega), s116 hk hi hj, bI_s, s116 hk hj hi, bI_s, hC.2.1 _ (by omega), hC.2.1 _ (by omega), sg_s]
      unfold aPU at h2 ⊢
      rw [if_pos hij] at h2
      have h3 := dI hT hi hj
      have h4 := dI hT hj hi
      rw [if_pos hij]
      unfold aPair at h2 ⊢
      rw [wr_s (z := 2 * _) (by omega) (by omega), wr_s (z := _ + _) (by unfold aPU aPair at h1 hqi; omega) (by unfold aPU aPair at h1 hqi; omega), Int.add_assoc]) (8 - (i + 1)) (i + 1) (sg (fun a => sg (aPU T a) 8) i) (by omega) ⟨by omega, by
        rw [show sg (aPU T i) (i + 1) = 0 from ?_, Int.add_zero]
        rw [sg_c (g := fun _ => 0) (fun j hj => ?_), sg_z]
        unfold aPU; rw [if_neg (by omega)]⟩
    refine ⟨(t', .inl 8), ?_, ?_⟩
    · rw [B_126_4 _ _ _ _ _ hk, if_neg (by omega), wr_s (z := (i : Int) + 1) (by omega) (by omega)]
      refine Eq.trans he ?_
      rw [B_126_14 _ _ _ _ _ hk, if_pos (by decide)]
      rw [wr_s (z := (i : Int) + 1) (by omega) (by omega)]
      rfl
    · exact ht.2) 8 0 (0, .inr none) (by omega) rfl
  refine Eq.trans he ?_
  obtain ⟨s, v⟩ := s'
  dsimp only at hs ⊢
  subst hs
  rw [B_126_4 _ _ _ _ _ hk, if_pos (by decide)]
  rfl
theorem s256 {M : aM} {T : Nat → Int} (hR : TR M 54 T) (hT : TI T) : fnA 256 [.inr (some 53)] M = some (some (.inl (aOff T)), M) := by
  have hr : ∀ a, a < 8 → ∀ n, n ≤ 8 → 0 ≤ sg (aPD T a) n ∧ sg (aPD T a) n ≤ 1998 * n := fun a ha n hn => sg_b (fun i hi => aPD_b hT ha (by omega))
  have hq : ∀ n, n ≤ 8 → 0 ≤ sg (fun a => sg (aPD T a) 8) n ∧ sg (fun a => sg (aPD T a) 8) n ≤ 15984 * n := fun n hn => sg_b (fun i hi => by have := hr i (by omega) 8 (by omega); omega)
  have hup : ∀ i, i < 8 → sg (aPD T i) 8 = sg (aPD T i) i := fun i hi => by
    have key : ∀ n, sg (aPD T i) (i + n) = sg (aPD T i) i := by
      intro n
      induction n with
      | zero => rfl
      | succ n ih =>
        rw [← Nat.add_assoc, sg_s, ih]
        unfold aPD
        rw [if_neg (by omega), Int.add_zero]
    have := key (8 - i)
    rw [show i + (8 - i) = 8 by omega] at this
    exact this
  rw [E_256]
  obtain ⟨s', hs, he⟩ := upR (fun i (s : Int × aV) => run 1 256 4 [.inr (some 53), .inl s.1, .inl i, s.2] [] M) (fun i s => s.1 = sg (fun a => sg (aPD T a) 8) i) 8 (by decide) (fun i s hi hs => by
    obtain ⟨s, v⟩ := s
    dsimp only at hs ⊢
    subst hs
    have hqi := hq i (by omega)
    obtain ⟨t', ht, he⟩ := upR (fun j (t : Int) => run 1 256 12 [.inr (some 53), .inl t, .inl (i : Int), .inl j] [] M) (fun j t => t = sg (fun a => sg (aPD T a) 8) i + sg (aPD T i) j) i (by omega) (fun j t hj ht => by
      subst ht
      have hj8 : j < 8 := by omega
      have h1 := hr i hi j (by omega)
      have h2 := aPD_b hT hi hj8
      refine ⟨_, ?_, rfl⟩
      rw [B_256_12, if_neg (by omega), s190 hi hj8, bI_s, if_pos (by omega), s190 hj8 hi, bI_s, if_pos (by omega), s182, bI_s, Int.toNat_natCast, Int.toNat_natCast, hR _ (by omega), hR _ (by omega), sg_s]
      unfold aPD at h2 ⊢
      rw [if_pos hj] at h2
      rw [if_pos hj]
      unfold aPair at h2 ⊢
      rw [wr_s (z := 2 * _) (by omega) (by omega), wr_s (z := _ + _) (by unfold aPD aPair at h1 hqi; omega) (by unfold aPD aPair at h1 hqi; omega), Int.add_assoc]) i 0 (sg (fun a => sg (aPD T a) 8) i) (by omega) (by
        rw [show sg (aPD T i) 0 = 0 from rfl, Int.add_zero])
    refine ⟨(t', .inl i), ?_, ?_⟩
    · rw [B_256_4, if_neg (by omega)]
      refine Eq.trans he ?_
      dsimp only
      rw [B_256_12, if_pos (by omega)]
    · show t' = sg _ (i + 1)
      rw [ht, sg_s, hup i hi]) 8 0 (0, .inr none) (by omega) rfl
  refine Eq.trans he ?_
  obtain ⟨s, v⟩ := s'
  dsimp only at hs ⊢
  subst hs
  rw [B_256_4, if_pos (by decide), aOff_e]
theorem c_setOff : OK2 W 151 256 [] := fun M hI _ => by
  obtain ⟨T, hC, hR, hT, hZ⟩ := hI.1
  exact ⟨aOff T, M, M, by rw [E_151, s126 (Or.inl rfl) hC hT, bI_s], s256 hR hT, hI, rfl⟩
theorem SG.zz {M M' : aM} {a b : Int} (h : SG M M' a b) (x : Int) : SG M (upM M' 2 1 x) x b := h.cl
theorem c_check (hW : WM W) (x : Int) : OK2 W 175 285 [.inl x] := fun M hI _ => by
  obtain ⟨T, hC, hR, hT, hZ⟩ := hI.1
  obtain ⟨m, hm⟩ := hI.2.2.1
  have hm0 := hm
  obtain ⟨m1, m2, m3, m4⟩ := hm
  by_cases hx : 0 ≤ x ∧ x ≤ 8
  · by_cases hxm : x ≤ (m : Int)
    · obtain ⟨n, hn, rfl⟩ : ∃ n : Nat, n ≤ 8 ∧ x = (n : Int) := ⟨x.toNat, by omega, by omega⟩
      let f : Nat → Bool := fun b => ! decide ((T b).tmod 256 = M 3 b)
      have hfd : ∀ b, f b = ! decide ((T b).tmod 256 = M 3 b) := fun _ => rfl
      have h1 : ∀ b, b ≤ n → run 2 175 30 [.inr (some 1), .inl (n : Int), .inl (fwd f b (n - b)), .inl ((b : Int) - 1)] [] M = some (some (.inl (fwd f 0 n)), upM M 2 1 0) := by
        intro b
        induction b with
        | zero =>
          intro h
          rw [B_175_30, if_pos (by omega), E_94, bV_s, Nat.sub_zero]
        | succ b ih =>
          intro h
          have hb8 : b < 8 := by omega
          rw [show ((b + 1 : Nat) : Int) - 1 = (b : Int) by omega, B_175_30, if_neg (by omega), s114 (Or.inl rfl) hb8, bI_s, tape_at hm0 (by omega), bI_s, hC.1 b hb8, wr_s (z := (b : Int) + -1) (by omega) (by omega)]
          have ih' := ih (by omega)
          rw [show n - b = (n - (b + 1)) + 1 by omega, fwd, hfd] at ih'
          by_cases e : (T b).tmod 256 = M 3 b
          · rw [if_pos e]
            rw [if_neg (by simp [e])] at ih'
            exact ih'
          · rw [if_neg e]
            rw [if_pos (by simp [e])] at ih'
            exact ih'
      have h2 : ∀ M', TR M' 54 T → M' 57 = M 57 → ∀ k b, b + k = n → run 2 285 28 [.inr (some 53), .inl (n : Int), .inl (b : Int)] [] M' = some (some (.inl (fwd f b k)), M') := by
        intro M' hR' h57 k
        induction k with
        | zero =>
          intro b h
          rw [B_285_28, if_pos (by omega)]
          rfl
        | succ k ih =>
          intro b h
          have hb8 : b < 8 := by omega
          have hib := ih (b + 1) (by omega)
          rw [show ((b + 1 : Nat) : Int) = (b : Int) + 1 by omega] at hib
          have ht := (m4 b (by omega)).1
          rw [B_285_28, if_neg (by omega), oct_at (by omega), bI_s, s187 hR' hT, bI_s, h57, ← ht, wr_s (z := (b : Int) + 1) (by omega) (by omega), ix0 hb8, Int.toNat_natCast, hR' b (by omega), fwd, hfd]
          by_cases ht : tb (tk T) (b : Int)
          · rw [bI1_t ht, if_neg (by decide), if_pos (by omega)]
            by_cases e : (T b).tmod 256 = M 3 b
            · rw [if_pos e.symm, if_neg (by simp [e])]; exact hib
            · rw [if_neg (fun z => e z.symm), if_pos (by simp [e])]
          · rw [bI1_f ht, if_pos rfl]
            have hz : T b = 0 := (hZ.1 b hb8 (by
              rw [ok_bit hb8]
              have : (tk T).testBit b = false := by
                cases e : (tk T).testBit b
                · rfl
                · exact absurd ((tb_n hb8).mpr e) ht
              rw [this]; rfl)).1
            rw [hz, show (0 : Int).tmod 256 = 0 by decide]
            by_cases e : M 3 b = 0
            · rw [if_pos e, if_neg (by simp [e])]; exact hib
            · rw [if_neg e, if_pos (by simpa using fun z => e z.symm)]
      refine ⟨fwd f 0 n, upM M 2 1 0, upM (upM M 2 1 0) 53 4 0, ?_, ?_, ?_, ?_⟩
      · rw [E_175, if_neg (by omega), if_neg (by omega), if_pos (by omega), wr_s (by omega) (by omega)]
        have := h1 n (by omega)
        rw [Nat.sub_self] at this
        exact this
      · rw [E_285, s181, bI_s, bI1_t hx, if_neg (by decide), up_o (by decide), if_pos (by omega)]
        exact h2 _ (hR.mv (by rw [up_ne (by decide), up_ne (by decide)])) (by rw [up_ne (by decide), up_ne (by decide)]) n 0 (by omega)
      · exact (SG.rf.cl.rl).zap hW hI
      · rw [up_ne (by decide), up_ne (by decide)]
    · refine ⟨-2, M, M, ?_, ?_, hI, rfl⟩
      · rw [E_175, if_neg (by omega), if_neg (by omega), if_neg (by omega)]
      · rw [E_285, s181, bI_s, bI1_t hx, if_neg (by decide), if_neg (by omega)]
  · refine ⟨-2, M, M, ?_, ?_, hI, rfl⟩
    · rw [E_175]
      by_cases h1 : x < 0
      · rw [if_pos h1]
      · rw [if_neg h1, if_pos (by omega)]
    · rw [E_285, s181, bI_s, bI1_f hx, if_pos rfl]
/-- the codes that are told -/
def cdB (f : Nat → Int) : Nat → Nat
  | 0 => 0
  | n + 1 => if f n ≤ 0 then cdB f n else cdB f n ||| 2 ^ n
theorem cdB_s (f : Nat → Int) (n : Nat) : cdB f (n + 1) = if f n ≤ 0 then cdB f n else cdB f n ||| 2 ^ n := rfl
theorem cdB_lt (f : Nat → Int) : ∀ n, cdB f n < 2 ^ n
  | 0 => Nat.one_pos
  | n + 1 => by
    have h := cdB_lt f n
    rw [cdB_s]
    have h2 : 2 ^ (n + 1) = 2 ^ n * 2 := Nat.pow_succ 2 n
    split
    · omega
    · exact or_pow_lt (by omega) (by omega)
theorem cdB_8 (f : Nat → Int) {n : Nat} (h : n ≤ 8) : cdB f n < 256 := Nat.lt_of_lt_of_le (cdB_lt f n) (Nat.pow_le_pow_right (by decide) h)
theorem s26 (M : aM) : fnA 26 [.inr (some 40)] M = some (some (.inl (cdB (M 41) 8 : Int)), M) := by
  rw [E_26]
  obtain ⟨s', hs, he⟩ := upR (fun i (s : Int) => run 0 26 4 [.inr (some 40), .inl s, .inl i] [] M) (fun i s => s = (cdB (M 41) i : Int)) 8 (by decide) (fun i s hi hs => by
    subst hs
    have h1 := cdB_8 (M 41) (n := i) (by omega)
    have h2 := cdB_8 (M 41) (n := i + 1) (by omega)
    refine ⟨_, ?_, rfl⟩
    rw [B_26_4, if_neg (by omega), if_pos (by omega), Int.toNat_natCast]
    rw [cdB_s] at h2
    rw [cdB_s]
    by_cases e : M 41 i ≤ 0
    · rw [if_pos e, if_pos e]
    · rw [if_neg e] at h2
      rw [if_neg e, if_neg e, iShl_1 (by omega), iOr_n (by omega)]) 8 0 0 (by omega) rfl
  subst hs
  refine Eq.trans he ?_
  rw [B_26_4, if_pos (by decide)]
theorem s286b (M : aM) (x : Int) : run 3 286 101 [.inr (some 53), .inl x, .inl 0, .inl 0] [] M = some (some (.inl (cdB (M 82) 8 : Int)), M) := by
  obtain ⟨s', hs, he⟩ := upR (fun i (s : Int) => run 3 286 101 [.inr (some 53), .inl x, .inl s, .inl i] [] M) (fun i s => s = (cdB (M 82) i : Int)) 8 (by decide) (fun i s hi hs => by
    subst hs
    have h1 := cdB_8 (M 82) (n := i) (by omega)
    have h2 := cdB_8 (M 82) (n := i + 1) (by omega)
    refine ⟨_, ?_, rfl⟩
    rw [B_286_101, if_neg (by omega), if_pos (by omega), Int.toNat_natCast]
    rw [cdB_s] at h2
    rw [cdB_s]
    by_cases e : M 82 i ≤ 0
    · have := iOr_n (a := cdB (M 82) i) (b := 0) (by rw [Nat.or_zero]; omega)
      rw [show ((0 : Nat) : Int) = 0 from rfl, Nat.or_zero] at this
      rw [if_pos e, if_pos e, this]
    · rw [if_neg e] at h2
      rw [if_neg e, if_neg e, iShl_1 (by omega), iOr_n (by omega)]) 8 0 0 (by omega) rfl
  subst hs
  refine Eq.trans he ?_
  rw [B_286_101, if_pos (by decide)]
theorem cdB_c {f g : Nat → Int} : ∀ {n : Nat}, (∀ i, i < n → f i = g i) → cdB f n = cdB g n
  | 0, _ => rfl
  | n + 1, h => by
    rw [cdB_s, cdB_s]
    rw [cdB_c (n := n) (fun i hi => h i (by omega)), h n (by omega)]
theorem wr10 {x : Int} (hx : inR x) (h : ¬ (10 ≤ x ∧ x ≤ 17)) : ¬ (0 ≤ wr (x - 10) ∧ wr (x - 10) < 8) := by
  unfold inR at hx
  unfold wr
  omega
theorem c_count (hl : ∀ M, W M → M 47 5 = M 53 13) (x : Int) (hx : inR x) : OK2 W 176 286 [.inl x] := fun M hI _ => by
  obtain ⟨T, hC, hR, hT, hZ⟩ := hI.1
  obtain ⟨m, hm⟩ := hI.2.2.1
  have hcd := hI.2.2.2.1
  have hW := hI.2.2.2.2
  have hk := tk_i hT
  have hs := sk_i hT
  have key : fnA 176 [.inr (some 1), .inl x] M = fnA 286 [.inr (some 53), .inl x] M ∧ ∃ v, fnA 286 [.inr (some 53), .inl x] M = some (some (.inl v), M) := by
    rw [E_176, E_286]
    by_cases h0 : x = 0
    · rw [if_pos h0, if_pos h0, hC.tk.2.2.1, hR 138 (by decide)]; exact ⟨rfl, _, rfl⟩
    rw [if_neg h0, if_neg h0]
    by_cases h1 : x = 1
    · rw [if_pos h1, if_pos h1, hC.tk.2.2.2.1, hR 139 (by decide)]; exact ⟨rfl, _, rfl⟩
    rw [if_neg h1, if_neg h1]
    by_cases h2 : x = 2
    · rw [if_pos h2, if_pos h2, hC.tk.1, hR 136 (by decide)]; exact ⟨rfl, _, rfl⟩
    rw [if_neg h2, if_neg h2]
    by_cases h3 : x = 3
    · rw [if_pos h3, if_pos h3, hC.tk.2.1, hR 136 (by decide), hR 137 (by decide), hk.1, hs.1, iAndN (by omega)]; exact ⟨rfl, _, rfl⟩
    rw [if_neg h3, if_neg h3]
    by_cases h4 : x = 4
    · rw [if_pos h4, if_pos h4, s26, bI_s, s286b, cdB_c (fun i hi => (hcd i hi).1)]; exact ⟨rfl, _, rfl⟩
    rw [if_neg h4, if_neg h4]
    by_cases h5 : x = 5
    · rw [if_pos h5, if_pos h5, hl M hW]; exact ⟨rfl, _, rfl⟩
    rw [if_neg h5, if_neg h5]
    by_cases h6 : x = 6
    · rw [if_pos h6, if_pos h6, hm.1, hm.2.1]; exact ⟨rfl, _, rfl⟩
    rw [if_neg h6, if_neg h6]
    by_cases h7 : x = 7
    · rw [if_pos h7, if_pos h7, hC.tk.2.2.2.2, hR 140 (by decide)]; exact ⟨rfl, _, rfl⟩
    rw [if_neg h7, if_neg h7]
    by_cases h8 : x = 8
    · rw [if_pos h8, if_pos h8, s125 (Or.inl rfl) hC hT, bI_s, s194 hR hT, bI_s]; exact ⟨rfl, _, rfl⟩
    rw [if_neg h8, if_neg h8, E_24, s181, bI_s]
    by_cases h9 : 10 ≤ x ∧ x ≤ 17
    · obtain ⟨s, hs8, rfl⟩ : ∃ s : Nat, s < 8 ∧ x = (s : Int) + 10 := ⟨(x - 10).toNat, by omega, by omega⟩
      have e : wr ((s : Int) + 10 - 10) = (s : Int) := by unfold wr; omega
      have hss : 0 ≤ (s : Int) ∧ (s : Int) < 8 := by omega
      rw [bI1_t h9, if_neg (c := (1 : Int) = 0) (by decide), e, if_neg (show ¬ (s : Int) < 0 by omega), if_neg (show ¬ 8 ≤ (s : Int) by omega)]
      simp only [if_pos hss, bI_s, Int.toNat_natCast, (hcd s hs8).1]
      by_cases h : M 82 s ≤ 0
      · simp only [if_pos h]; exact ⟨trivial, _, rfl⟩
      · simp only [if_neg h]; exact ⟨trivial, _, rfl⟩
    · have hn := wr10 hx h9
      rw [bI1_f h9, if_pos (c := (0 : Int) = 0) rfl]
      by_cases h : wr (x - 10) < 0
      · rw [if_pos h, bI_s, if_pos (by decide)]; exact ⟨rfl, _, rfl⟩
      · rw [if_neg h, if_pos (by omega), bI_s, if_pos (by decide)]; exact ⟨rfl, _, rfl⟩
  obtain ⟨e1, v, e2⟩ := key
  exact ⟨v, M, M, e1.trans e2, e2, hI, rfl⟩
end CALLS
