/-! ring and road: the reference, and the calls. -/
theorem fwd_c {f : Nat → Bool} : ∀ (n b : Nat), fwd f b n = -1 ∨ ∃ m : Nat, fwd f b n = (m : Int) ∧ b ≤ m ∧ m < b + n ∧ f m = true
  | 0, _ => Or.inl rfl
  | n + 1, b => by
    unfold fwd
    by_cases h : f b = true
    · rw [if_pos h]; exact Or.inr ⟨b, rfl, Nat.le_refl b, by omega, h⟩
    · rw [if_neg h]
      rcases fwd_c n (b + 1) with g | ⟨m, g1, g2, g3, g4⟩
      · exact Or.inl g
      · exact Or.inr ⟨m, g1, by omega, by omega, g4⟩
section RD
variable {T : Nat → Int} {M : aM} {b : Nat} {W : aM → Prop}
theorem s258 (M : aM) (hb : b < 8) : ∃ M', fnA 258 [.inr (some 53), .inl (b : Int)] M = some (none, M') ∧ (∀ x, x < 8 → M' 77 x = wk T b 100000000 0 x) ∧ ∀ q, q ≠ 77 → M' q = M q := by
  rw [E_258]
  obtain ⟨M1, ⟨a1, a2⟩, ae⟩ := upM8 (fun i M' => run 0 258 2 [.inr (some 53), .inl (b : Int), .inl i] [] M') (fun i M' => (∀ x, x < i → M' 77 x = wk T b 100000000 0 x) ∧ ∀ q, q ≠ 77 → M' q = M q) (fun i M' hi hI => by
    obtain ⟨g1, g2⟩ := hI
    refine ⟨upM M' 77 i (wk T b 100000000 0 i), ?_, fun x hx => ?_, fun q hq => by rw [up_ne hq]; exact g2 q hq⟩
    · rw [B_258_2, if_neg (by omega)]
      unfold wk
      by_cases e : i = b
      · rw [if_pos (by omega), if_pos (by omega), if_pos e, Int.toNat_natCast]
      · rw [if_neg (by omega), if_pos (by omega), if_neg e, Int.toNat_natCast]
    · rw [up_r]
      by_cases e : x = i
      · rw [if_pos ⟨rfl, e⟩, e]
      · rw [if_neg (fun z => e z.2)]; exact g1 x (by omega)) (M := M) ⟨fun x hx => absurd hx (Nat.not_lt_zero x), fun _ _ => rfl⟩
  exact ⟨M1, by rw [ae, B_258_2, if_pos (by decide)], a1, a2⟩
theorem s257 (hR : TR M 54 T) (hT : TI T) {n : Nat} (h : ∀ x, x < 8 → M 77 x = wk T b 100000000 n x) : ∃ M', fnA 257 [.inr (some 53), .inl 1] M = some (none, M') ∧ (∀ x, x < 8 → M' 77 x = wk T b 100000000 (n + 1) x) ∧ ∀ q, q ≠ 77 → q ≠ 78 → M' q = M q := by
  rw [E_257]
  obtain ⟨s1, hs, he⟩ := upR (fun i (s : aM × aV × aV) => run 1 257 2 [.inr (some 53), .inl 1, .inl i, s.2.1, s.2.2] [] s.1) (fun i s => (∀ x, x < i → s.1 78 x = wk T b 100000000 (n + 1) x) ∧ ∀ q, q ≠ 78 → s.1 q = M q) 8 (by decide) (fun i s hi hs => by
    obtain ⟨M2, v3, v4⟩ := s
    dsimp only at hs ⊢
    obtain ⟨g1, g2⟩ := hs
    obtain ⟨s2, hs2, he2⟩ := upR (fun j (s : aM × aV) => run 1 257 17 [.inr (some 53), .inl 1, .inl (i : Int), .inl j, s.2] [] s.1) (fun j s => (∀ x, x < i → s.1 78 x = wk T b 100000000 (n + 1) x) ∧ s.1 78 i = mx (fun a => min (wk T b 100000000 n a) (T (8 + (8 * a + i)))) j ∧ ∀ q, q ≠ 78 → s.1 q = M q) 8 (by decide) (fun j s hj hs => by
      obtain ⟨M3, v⟩ := s
      dsimp only at hs ⊢
      obtain ⟨k1, k2, k3⟩ := hs
      have j0 : ¬ (8 : Int) ≤ (j : Int) := by omega
      have j1 : 0 ≤ (j : Int) ∧ (j : Int) < 8 := by omega
      have i1 : 0 ≤ (i : Int) ∧ (i : Int) < 8 := by omega
      have d := dI hT hj hi
      have wb := (wk_b hT (b := b) (u := 100000000) (by decide) n j hj).1
      have r77 : M3 77 j = wk T b 100000000 n j := by rw [k3 77 (by decide)]; exact h j hj
      have r54 : M3 54 (8 + (8 * j + i)) = T (8 + (8 * j + i)) := by rw [k3 54 (by decide)]; exact hR _ (by omega)
      have m0 := mx_0 (fun a => min (wk T b 100000000 n a) (T (8 + (8 * a + i)))) j
      by_cases hl : min (wk T b 100000000 n j) (T (8 + (8 * j + i))) < 1
      · refine ⟨(M3, .inl (min (wk T b 100000000 n j) (T (8 + (8 * j + i))))), ?_, k1, ?_, k3⟩
        · rw [B_257_17, if_neg j0, if_pos j1, s190 hj hi, bI_s, if_pos (by omega), s182, bI_s, Int.toNat_natCast, Int.toNat_natCast, r77, r54, if_pos hl]
        · show M3 78 i = _
          rw [k2, mx_s]
          omega
      · refine ⟨(upM M3 78 i (mx (fun a => min (wk T b 100000000 n a) (T (8 + (8 * a + i)))) (j + 1)), .inl (min (wk T b 100000000 n j) (T (8 + (8 * j + i))))), ?_, fun x hx => ?_, by dsimp only; rw [up_s], fun q hq => ?_⟩
        · rw [B_257_17, if_neg j0, if_pos j1, s190 hj hi, bI_s, if_pos (by omega), s182, bI_s, Int.toNat_natCast, Int.toNat_natCast, r77, r54, if_neg hl, if_pos i1, s183, bI_s, if_pos i1, Int.toNat_natCast, k2, ← mx_s]
        · dsimp only
          rw [up_j (by omega)]; exact k1 x hx
        · dsimp only
          rw [up_ne hq]; exact k3 q hq) 8 0 (upM M2 78 i 0, v4) (by omega) ⟨fun x hx => by dsimp only; rw [up_j (by omega)]; exact g1 x hx, by dsimp only; rw [up_s]; rfl, fun q hq => by dsimp only; rw [up_ne hq]; exact g2 q hq⟩
    obtain ⟨M3, v⟩ := s2
    dsimp only at hs2 he2
    obtain ⟨k1, k2, k3⟩ := hs2
    refine ⟨(M3, .inl 8, v), ?_, fun x hx => ?_, k3⟩
    · rw [B_257_2, if_neg (by omega), if_pos (by omega), Int.toNat_natCast]
      refine Eq.trans he2 ?_
      rw [B_257_17, if_pos (by decide)]
      rfl
    · show M3 78 x = _
      by_cases e : x = i
      · rw [e, k2]; rfl
      · exact k1 x (by omega)) 8 0 (M, .inr none, .inr none) (by omega) ⟨fun x hx => absurd hx (Nat.not_lt_zero x), fun _ _ => rfl⟩
  obtain ⟨M1, v3, v4⟩ := s1
  dsimp only at hs he
  obtain ⟨g1, g2⟩ := hs
  obtain ⟨M4, ⟨p1, p2⟩, pe⟩ := upM8 (fun i M' => run 1 257 81 [.inr (some 53), .inl 1, .inl i, v3, v4] [] M') (fun i M' => (∀ x, x < i → M' 77 x = wk T b 100000000 (n + 1) x) ∧ ∀ q, q ≠ 77 → M' q = M1 q) (fun i M' hi hI => by
    obtain ⟨k1, k2⟩ := hI
    refine ⟨upM M' 77 i (M' 78 i), ?_, fun x hx => ?_, fun q hq => by rw [up_ne hq]; exact k2 q hq⟩
    · rw [B_257_81, if_neg (by omega), if_pos (by omega), if_pos (by omega), Int.toNat_natCast]
    · rw [up_r]
      by_cases e : x = i
      · rw [if_pos ⟨rfl, e⟩, e, k2 78 (by decide)]; exact g1 i hi
      · rw [if_neg (fun z => e z.2)]; exact k1 x (by omega)) (M := M1) ⟨fun x hx => absurd hx (Nat.not_lt_zero x), fun _ _ => rfl⟩
  refine ⟨M4, ?_, p1, fun q h1 h2 => by rw [p2 q h1, g2 q h2]⟩
  refine Eq.trans he ?_
  rw [B_257_2]
  rw [if_pos (show (8 : Int) ≤ ((8 : Nat) : Int) by decide)]
  refine Eq.trans pe ?_
  rw [B_257_81, if_pos (by decide)]
theorem SM.rd {M M' : aM} (h : ∀ q, q ≠ 35 → q ≠ 77 → q ≠ 78 → M' q = M q) : SM M M' := by
  have h2 : ∀ q, keepQ q = true → q ≠ 35 ∧ q ≠ 77 ∧ q ≠ 78 := fun q hq => by
    unfold keepQ at hq
    simp only [Bool.or_eq_true, Bool.and_eq_true, decide_eq_true_eq, beq_iff_eq] at hq
    omega
  exact ⟨fun q hq => h q (h2 q hq).1 (h2 q hq).2.1 (h2 q hq).2.2, by rw [h 1 (by decide) (by decide) (by decide)], by rw [h 2 (by decide) (by decide) (by decide)], by rw [h 53 (by decide) (by decide) (by decide)], by rw [h 53 (by decide) (by decide) (by decide)], by rw [h 53 (by decide) (by decide) (by decide)]⟩
noncomputable def rgF (T : Nat → Int) (b : Nat) (n : Nat) : Bool := decide (0 < wk T b 1000 n b)
theorem c_ring (hW : WM W) (x y : Int) : OK2 W 153 259 [.inl x, .inl y] := fun M hI _ => by
  obtain ⟨T, hC, hR, hT, hZ⟩ := hI.1
  by_cases hx : tb (tk T) x
  · obtain ⟨b, hb, rfl⟩ := tbx hx
    by_cases hy : y = 0 ∨ y = 1
    · obtain ⟨M1, a1, a2, a3⟩ := s86 hC hb
      have hfs : ∀ (k i : Nat), i + k = 9 → 1 ≤ i → run 2 89 2 [.inr (some 34), .inl (b : Int), .inl (i : Int)] [] M1 = some (some (.inl (if fwd (rgF T b) i k = -1 then 0 else fwd (rgF T b) i k)), M1) := by
        intro k
        induction k with
        | zero => intro i h1 h2; rw [B_89_2, if_pos (by omega)]; rfl
        | succ k ih =>
          intro i h1 h2
          have hih := ih (i + 1) (by omega) (by omega)
          rw [B_89_2, if_neg (by omega), s88 M1 (by omega) hb, bI_s, a2 i b (by omega) hb, wr_s (by omega) (by omega)]
          unfold fwd
          by_cases h : wk T b 1000 i b ≤ 0
          · rw [if_pos h]
            have : ¬ rgF T b i = true := by unfold rgF; simp; omega
            rw [if_neg this]
            exact hih
          · rw [if_neg h]
            have : rgF T b i = true := by unfold rgF; simp; omega
            rw [if_pos this, if_neg (by omega)]
      have hrs : ∀ (k i : Nat), i + k = 9 → 1 ≤ i → ∀ M2, TR M2 54 T → (∀ z, z < 8 → M2 77 z = wk T b 100000000 (i - 1) z) → ∃ M3, run 2 259 26 [.inr (some 53), .inl (b : Int), .inl y, .inl (i : Int)] [] M2 = some (some (.inl (if fwd (rgF T b) i k = -1 then -2 else if y = 0 then fwd (rgF T b) i k else wk T b 1000 (fwd (rgF T b) i k).toNat b)), M3) ∧ ∀ q, q ≠ 77 → q ≠ 78 → M3 q = M2 q := by
        intro k
        induction k with
        | zero => intro i h1 h2 M2 hR2 h77; exact ⟨M2, by rw [B_259_26, if_pos (by omega)]; rfl, fun _ _ _ => rfl⟩
        | succ k ih =>
          intro i h1 h2 M2 hR2 h77
          obtain ⟨M3, b1, b2, b3⟩ := s257 hR2 hT h77
          rw [show i - 1 + 1 = i by omega] at b2
          have hu := wk_u hT (b := b) (u := 100000000) (v := 1000) (by decide) (by decide) i b hb (by omega)
          rw [B_259_26, if_neg (by omega), b1, bV_s, if_pos (by omega), Int.toNat_natCast, b2 b hb, hu, wr_s (by omega) (by omega)]
          unfold fwd
          by_cases h : wk T b 1000 i b ≤ 0
          · rw [if_pos h]
            have : ¬ rgF T b i = true := by unfold rgF; simp; omega
            rw [if_neg this]
            obtain ⟨M4, c1, c2⟩ := ih (i + 1) (by omega) (by omega) M3 (hR2.mv (b3 54 (by decide) (by decide))) (by rw [show i + 1 - 1 = i by omega]; exact b2)
            exact ⟨M4, c1, fun q g1 g2 => by rw [c2 q g1 g2, b3 q g1 g2]⟩
          · rw [if_neg h]
            have : rgF T b i = true := by unfold rgF; simp; omega
            refine ⟨M3, ?_, b3⟩
            rw [if_pos this, if_neg (show ¬ (i : Int) = -1 by omega)]
            by_cases hy0 : y = 0
            · rw [if_pos hy0, if_pos hy0]
            · rw [if_neg hy0, if_neg hy0, if_pos (show 0 ≤ (b : Int) ∧ (b : Int) < 8 by omega)]
              rfl
      obtain ⟨M2, b1, b2, b3⟩ := s258 (T := T) M1 hb
      obtain ⟨M3, c1, c2⟩ := hrs 8 1 (by omega) (by omega) M2 (hR.mv (by rw [b3 54 (by decide), a3 54 (by decide)])) b2
      refine ⟨if fwd (rgF T b) 1 8 = -1 then -2 else if y = 0 then fwd (rgF T b) 1 8 else wk T b 1000 (fwd (rgF T b) 1 8).toNat b, M1, M3, ?_, ?_, (SM.rd fun q g1 g2 g3 => by rw [c2 q g2 g3, b3 q g2, a3 q g1]).inv hW hI, by rw [c2 0 (by decide) (by decide), b3 0 (by decide), a3 0 (by decide)]⟩
      · have e1 : fnA 153 [.inr (some 1), .inl (b : Int), .inl y] M = run 4 153 22 [.inr (some 1), .inl (b : Int), .inl y, .inr none] [] M := by
          rw [E_153, s109 (Or.inl rfl) hC hT, bI_s, bI1_t hx, if_neg (by decide)]
          rcases hy with h | h
          · rw [if_pos h]
          · rw [if_neg (by omega), if_pos h]
        have hf : run 2 89 2 [.inr (some 34), .inl (b : Int), .inl 1] [] M1 = some (some (.inl (if fwd (rgF T b) 1 8 = -1 then 0 else fwd (rgF T b) 1 8)), M1) := hfs 8 1 (by omega) (by omega)
        rw [e1, B_153_22, a1, bV_s, E_89]
        rw [hf, bI_s]
        rcases fwd_c (f := rgF T b) 8 1 with g | ⟨m, g1, g2, g3, g4⟩
        · rw [if_pos g, if_pos rfl, if_pos g]
        · rw [g1, if_neg (show ¬ (m : Int) = -1 by omega), if_neg (show ¬ (m : Int) = 0 by omega), if_neg (show ¬ (m : Int) = -1 by omega)]
          by_cases hy0 : y = 0
          · rw [if_pos hy0, if_pos hy0]
          · rw [if_neg hy0, if_neg hy0, s88 M1 (by omega) hb, bI_s, a2 m b (by omega) hb, Int.toNat_natCast]
      · rw [E_259, s187 (hR.mv (a3 54 (by decide))) hT, bI_s, bI1_t hx, if_neg (by decide), s181, bI_s, bI1_t (by omega), if_neg (by decide), b1, bV_s]
        exact c1
    · refine ⟨-1, M, M, ?_, ?_, hI, rfl⟩
      · rw [E_153, s109 (Or.inl rfl) hC hT, bI_s, bI1_t hx, if_neg (by decide), if_neg (fun z => hy (Or.inl z)), if_neg (fun z => hy (Or.inr z))]
      · rw [E_259, s187 hR hT, bI_s, bI1_t hx, if_neg (by decide), s181, bI_s, bI1_f (by omega), if_pos rfl]
  · refine ⟨-1, M, M, ?_, ?_, hI, rfl⟩
    · rw [E_153, s109 (Or.inl rfl) hC hT, bI_s, bI1_f hx, if_pos rfl]
    · rw [E_259, s187 hR hT, bI_s, bI1_f hx, if_pos rfl]
/-- the widest of the walks and its steps -/
def rdB (T : Nat → Int) (b x : Nat) : Nat → Int × Int
  | 0 => (0, 0)
  | n + 1 => if wk T b 1000 (n + 1) x ≤ (rdB T b x n).1 then rdB T b x n else (wk T b 1000 (n + 1) x, ((n + 1 : Nat) : Int))
theorem rdB_s (x n : Nat) : rdB T b x (n + 1) = if wk T b 1000 (n + 1) x ≤ (rdB T b x n).1 then rdB T b x n else (wk T b 1000 (n + 1) x, ((n + 1 : Nat) : Int)) := rfl
theorem rdB_i (x : Nat) : ∀ n, (rdB T b x n = (0, 0) ∨ ∃ m, 1 ≤ m ∧ m ≤ n ∧ rdB T b x n = (wk T b 1000 m x, (m : Int)) ∧ 0 < wk T b 1000 m x) ∧ ∀ m, 1 ≤ m → m ≤ n → wk T b 1000 m x ≤ (rdB T b x n).1
  | 0 => ⟨Or.inl rfl, fun m h1 h2 => absurd h1 (by omega)⟩
  | n + 1 => by
    obtain ⟨h1, h2⟩ := rdB_i x n
    have h0 : 0 ≤ (rdB T b x n).1 := by
      rcases h1 with h | ⟨m, _, _, h, hp⟩
      · rw [h]; exact Int.le_refl _
      · rw [h]; exact Int.le_of_lt hp
    rw [rdB_s]
    by_cases h : wk T b 1000 (n + 1) x ≤ (rdB T b x n).1
    · rw [if_pos h]
      refine ⟨?_, fun m g1 g2 => ?_⟩
      · rcases h1 with h | ⟨m, a1, a2, a3, a4⟩
        · exact Or.inl h
        · exact Or.inr ⟨m, a1, by omega, a3, a4⟩
      · by_cases e : m = n + 1
        · rw [e]; exact h
        · exact h2 m g1 (by omega)
    · rw [if_neg h]
      refine ⟨Or.inr ⟨n + 1, by omega, by omega, rfl, by omega⟩, fun m g1 g2 => ?_⟩
      by_cases e : m = n + 1
      · rw [e]; exact Int.le_refl _
      · exact Int.le_trans (h2 m g1 (by omega)) (by show _ ≤ wk T b 1000 (n + 1) x; omega)
theorem rdB_8 (hT : TI T) (hb : b < 8) {x : Nat} (hx : x < 8) (hxb : x ≠ b) : rdB T b x 8 = rdB T b x 7 := by
  obtain ⟨h1, h2⟩ := rdB_i (T := T) (b := b) x 7
  have h0 : 0 ≤ (rdB T b x 7).1 := by
    rcases h1 with h | ⟨m, _, _, h, hp⟩
    · rw [h]; exact Int.le_refl _
    · rw [h]; exact Int.le_of_lt hp
  rw [rdB_s, if_pos (eight hT hb hx hxb h0 h2)]
theorem c_road (hW : WM W) (x y z : Int) : OK2 W 154 260 [.inl x, .inl y, .inl z] := fun M hI _ => by
  obtain ⟨T, hC, hR, hT, hZ⟩ := hI.1
  by_cases h : x ≠ y ∧ tb (tk T) x ∧ tb (tk T) y
  · obtain ⟨b, hb, rfl⟩ := tbx h.2.1
    obtain ⟨d, hd, rfl⟩ := tbx h.2.2
    have hbd : d ≠ b := fun e => h.1 (by rw [e])
    by_cases hz : z = 0 ∨ z = 1
    · obtain ⟨M1, a1, a2, a3⟩ := s86 hC hb
      obtain ⟨s1, hs1, he1⟩ := upR (fun i (s : Int × Int) => run 2 90 7 [.inr (some 34), .inl (d : Int), .inl s.2, .inl s.1, .inl (i + 1)] [] M1) (fun i s => s = rdB T b d i) 8 (by decide) (fun i s hi hs => by
        subst hs
        refine ⟨_, ?_, rfl⟩
        have e1 : (i : Int) + 1 = ((i + 1 : Nat) : Int) := rfl
        have e2 : wr ((i : Int) + 1) = ((i + 1 : Nat) : Int) := by rw [wr_s (by omega) (by omega)]; rfl
        have e3 : wr (((i + 1 : Nat) : Int) + 1) = ((i + 1 : Nat) : Int) + 1 := wr_s (by omega) (by omega)
        rw [e2, e1, B_90_7, if_neg (by omega), s88 M1 (by omega) hd, bI_s, a2 (i + 1) d (by omega) hd, e3, rdB_s]
        by_cases hl : wk T b 1000 (i + 1) d ≤ (rdB T b d i).1
        · rw [if_pos hl, if_pos hl]
        · rw [if_neg hl, if_neg hl, s88 M1 (by omega) hd, bI_s, a2 (i + 1) d (by omega) hd]) 8 0 (0, 0) (by omega) rfl
      subst hs1
      have hcl : fnA 90 [.inr (some 34), .inl (d : Int)] M1 = some (some (.inl (rdB T b d 8).2), M1) := by
        rw [E_90]
        refine Eq.trans he1 ?_
        rw [B_90_7, if_pos (by decide)]
      obtain ⟨M2, b1, b2, b3⟩ := s258 (T := T) M1 hb
      obtain ⟨s2, hs2, he2⟩ := upR (fun i (s : (Int × Int) × aM) => run 2 260 46 [.inr (some 53), .inl (b : Int), .inl (d : Int), .inl z, .inl s.1.1, .inl s.1.2, .inl (i + 1)] [] s.2) (fun i s => s.1 = rdB T b d i ∧ TR s.2 54 T ∧ (∀ x, x < 8 → s.2 77 x = wk T b 100000000 i x) ∧ ∀ q, q ≠ 77 → q ≠ 78 → s.2 q = M2 q) 7 (by decide) (fun i s hi hs => by
        obtain ⟨s, M3⟩ := s
        dsimp only at hs ⊢
        obtain ⟨rfl, g2, g3, g4⟩ := hs
        obtain ⟨M4, c1, c2, c3⟩ := s257 g2 hT g3
        have hu := wk_u hT (b := b) (u := 100000000) (v := 1000) (by decide) (by decide) (i + 1) d hd (by omega)
        have e1 : (i : Int) + 1 = ((i + 1 : Nat) : Int) := rfl
        have e2 : wr ((i : Int) + 1) = ((i + 1 : Nat) : Int) := by rw [wr_s (by omega) (by omega)]; rfl
        have e3 : wr (((i + 1 : Nat) : Int) + 1) = ((i + 1 : Nat) : Int) + 1 := wr_s (by omega) (by omega)
        have i1 : 0 ≤ (d : Int) ∧ (d : Int) < 8 := by omega
        refine ⟨(rdB T b d (i + 1), M4), ?_, rfl, g2.mv (c3 54 (by decide) (by decide)), c2, fun q h1 h2 => (c3 q h1 h2).trans (g4 q h1 h2)⟩
        dsimp only
        rw [e2, e1, B_260_46, if_neg (by omega), c1, bV_s, if_pos i1, Int.toNat_natCast, c2 d hd, hu, e3, rdB_s]
        by_cases hl : wk T b 1000 (i + 1) d ≤ (rdB T b d i).1
        · rw [if_pos hl, if_neg (by omega)]
        · rw [if_neg hl, if_pos (by omega), if_pos i1]) 7 0 ((0, 0), M2) (by omega) ⟨rfl, hR.mv ((b3 54 (by decide)).trans (a3 54 (by decide))), b2, fun _ _ _ => rfl⟩
      obtain ⟨s2, M3⟩ := s2
      dsimp only at hs2 he2
      obtain ⟨rfl, g2, g3, g4⟩ := hs2
      rw [rdB_8 hT hb hd hbd] at hcl
      have e1 : fnA 154 [.inr (some 1), .inl (b : Int), .inl (d : Int), .inl z] M = run 4 154 23 [.inr (some 1), .inl (b : Int), .inl (d : Int), .inl z, .inr none] [] M := by
        rw [E_154, s111 (Or.inl rfl) hC hT, bI_s, bI1_t h, if_neg (by decide)]
        rcases hz with g | g
        · rw [if_pos g]
        · rw [if_neg (by omega), if_pos g]
      refine ⟨if (rdB T b d 7).1 = 0 then -2 else if z = 0 then (rdB T b d 7).1 else (rdB T b d 7).2, M1, M3, ?_, ?_, (SM.rd fun q h1 h2 h3 => by rw [g4 q h2 h3, b3 q h2, a3 q h1]).inv hW hI, by rw [g4 0 (by decide) (by decide), b3 0 (by decide), a3 0 (by decide)]⟩
      · rw [e1, B_154_23, a1, bV_s, hcl, bI_s]
        rcases (rdB_i (T := T) (b := b) d 7).1 with e | ⟨m, m1, m2, e, m3⟩
        · rw [e, if_pos rfl, if_pos rfl]
        · rw [e]
          dsimp only
          rw [if_neg (show ¬ (m : Int) = 0 by omega), if_neg (show ¬ wk T b 1000 m d = 0 by omega)]
          by_cases hz0 : z = 0
          · rw [if_pos hz0, if_pos hz0, s88 M1 (by omega) hd, bI_s, a2 m d (by omega) hd]
          · rw [if_neg hz0, if_neg hz0]
      · have hR1 : TR M1 54 T := hR.mv (a3 54 (by decide))
        rw [E_260, s187 hR1 hT, bI_s, bI1_t h.2.1, if_neg (by decide), s187 hR1 hT, bI_s, bI1_t h.2.2, if_neg (by decide), if_neg h.1, s181, bI_s, bI1_t (by omega), if_neg (by decide), b1, bV_s]
        refine Eq.trans he2 ?_
        rw [B_260_46, if_pos (by decide)]
        by_cases e0 : (rdB T b d 7).1 = 0
        · rw [if_pos e0, if_pos e0]
        · rw [if_neg e0, if_neg e0]
          by_cases hz0 : z = 0
          · rw [if_pos hz0, if_pos hz0]
          · rw [if_neg hz0, if_neg hz0]
    · refine ⟨-1, M, M, ?_, ?_, hI, rfl⟩
      · rw [E_154, s111 (Or.inl rfl) hC hT, bI_s, bI1_t h, if_neg (by decide), if_neg (fun g => hz (Or.inl g)), if_neg (fun g => hz (Or.inr g))]
      · rw [E_260, s187 hR hT, bI_s, bI1_t h.2.1, if_neg (by decide), s187 hR hT, bI_s, bI1_t h.2.2, if_neg (by decide), if_neg h.1, s181, bI_s, bI1_f (by omega), if_pos rfl]
  · refine ⟨-1, M, M, ?_, ?_, hI, rfl⟩
    · rw [E_154, s111 (Or.inl rfl) hC hT, bI_s, bI1_f h, if_pos rfl]
    · rw [E_260, s187 hR hT, bI_s]
      by_cases h1 : tb (tk T) x
      · rw [bI1_t h1, if_neg (by decide), s187 hR hT, bI_s]
        by_cases h2 : tb (tk T) y
        · rw [bI1_t h2, if_neg (by decide), if_pos (Classical.byContradiction fun g => h ⟨g, h1, h2⟩)]
        · rw [bI1_f h2, if_pos rfl]
      · rw [bI1_f h1, if_pos rfl]
end RD
