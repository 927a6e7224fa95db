/-! blinks: the reference's tables, and the call. -/
section BLR
variable {M : aM} {m n : Nat}
/-- all but the three tables as it was -/
def BR (M M' : aM) : Prop := ∀ q, q ≠ 84 → q ≠ 85 → q ≠ 86 → M' q = M q
set_option maxHeartbeats 100000 in
theorem BR.rf : BR M M := fun _ _ _ _ => rfl
/-- what is laid, with the signs -/
def RT (M : aM) (n : Nat) (R : aM) (p s : Nat) : Prop := KT (sdI M n) (cL M) n 100000000 (R 84) (R 85) p s ∧ (p < n → GS (sdI M n) (cL M) 100000000 (R 85) p s (R 86 p)) ∧ ∀ q, p < q → q < n → GS (sdI M n) (cL M) 100000000 (R 85) q 8 (R 86 q)
set_option maxHeartbeats 100000 in
theorem s274s {R : aM} (h57 : R 57 = M 57) (h82 : R 82 = M 82) (h83 : R 83 = M 83) (hm : TP M m) (hn : n ≤ m) (hn60 : n ≤ 60) (hc : CDI M) (hb : ∀ j, j < n → M 3 j = 46 ∨ M 3 j = 45) {p : Nat} (hp : p ≤ n) : ∀ (k s : Nat) (R2 : aM) (v : aV), s + k = 8 → BR R R2 → RT M n R2 p s → ∃ R' v', run 2 274 42 [.inr (some 53), .inl (n : Int), .inl (p : Int), .inl (s : Int), v] [] R2 = run 2 274 2 [.inr (some 53), .inl (n : Int), .inl ((p : Int) - 1), .inl 8, v'] [] R' ∧ BR R R' ∧ RT M n R' p 8
  | 0, s, R2, v, h, h1, h2 => by
    have : s = 8 := by omega
    subst this
    refine ⟨R2, v, ?_, h1, h2⟩
    rw [B_274_42, if_pos (by decide), wr_s (by omega) (by omega)]
    rfl
  | k + 1, s, R2, v, h, h1, h2 => by
    have hs : s < 8 := by omega
    have b0 : ¬ (8 : Int) ≤ (s : Int) := by omega
    have ys : 0 ≤ (s : Int) ∧ (s : Int) < 8 := by omega
    have w : EqI (wr ((s : Int) + 1)) ((s + 1 : Nat) : Int) := w1p (by omega)
    obtain ⟨-, e82, l6, lb, e83⟩ := cL_i hc hs
    have f82 : EqI (R2 82 s) (cL M s : Int) := by rw [EqI, h1 82 (by decide) (by decide) (by decide), h82]; exact e82
    have f83 : EqI (R2 83 s) (bz (cB M s) (cL M s)) := by rw [EqI, h1 83 (by decide) (by decide) (by decide), h83]; exact e83
    clear e82 e83
    have ipl : p + cL M s < 2147483648 := by omega
    have isk : s + 1 + k = 8 := by omega
    have w1 : EqI (wr ((p : Int) + (cL M s : Int))) ((p + cL M s : Nat) : Int) := wad ipl
    obtain ⟨t1, t2, t3⟩ := h2
    have skip : sdI M n s p = 0 → RT M n R2 p (s + 1) := fun g => ⟨t1.skip g, fun hp => (t2 hp).skip g, t3⟩
    rw [B_274_42, if_neg b0, if_pos ys, Int.toNat_natCast, f82.e, w1.e, w.e]
    by_cases h0 : cL M s = 0
    · rw [if_pos (by rw [h0]; rfl)]
      exact s274s h57 h82 h83 hm hn hn60 hc hb hp k (s + 1) R2 _ isk h1 (skip (bI1_f (fun z => z.1 h0)))
    have h0i : ¬ (cL M s : Int) = 0 := by omega
    rw [if_neg h0i]
    by_cases hl : p + cL M s ≤ n
    case neg =>
      rw [if_pos (by omega)]
      exact s274s h57 h82 h83 hm hn hn60 hc hb hp k (s + 1) R2 _ isk h1 (skip (bI1_f (fun z => hl z.2.1)))
    have hpn : p < n := by omega
    have ipm : p + cL M s ≤ m := by omega
    have yp : 0 ≤ (p : Int) ∧ (p : Int) < 61 := by omega
    have yq : 0 ≤ ((p + cL M s : Nat) : Int) ∧ ((p + cL M s : Nat) : Int) < 61 := by omega
    have b1 : ¬ (n : Int) < ((p + cL M s : Nat) : Int) := nle hl
    have ibl : ∀ i, i < cL M s → p + i < n := fun i hi => by omega
    have h57' : R2 57 = M 57 := by rw [h1 57 (by decide) (by decide) (by decide), h57]
    have hz := bz_e (f := fun i => M 3 (p + i)) (g := cB M s) (n := cL M s) (fun i hi => hb (p + i) (ibl i hi)) lb
    rw [if_neg b1, s272 h57' hm (a := p) (n := cL M s) ipm l6, bI_s, if_pos ys, f83.e]
    by_cases hst : bz (fun i => M 3 (p + i)) (cL M s) = bz (cB M s) (cL M s)
    case neg =>
      rw [if_neg hst]
      exact s274s h57 h82 h83 hm hn hn60 hc hb hp k (s + 1) R2 _ isk h1 (skip (bI1_f (fun z => hst (hz.mpr z.2.2))))
    have hsd : sdI M n s p ≠ 0 := by
      unfold sdI
      rw [bI1_t ⟨h0, hl, hz.mp hst⟩]; decide
    rw [if_pos hst]
    clear hst
    obtain ⟨k1, k2, k3, k4⟩ := t1
    have c0 := k1 p (Nat.le_refl _) hp
    have c1 := k1 (p + cL M s) (Nat.le_add_right _ _) hl
    have w2 : EqI (wr (R2 84 p + R2 84 (p + cL M s))) (R2 84 p + R2 84 (p + cL M s)) := by
      clear f82 f83
      generalize R2 84 p = A at *
      generalize R2 84 (p + cL M s) = B at *
      exact wr_s (by omega) (by omega)
    have w3 : EqI (wr (R2 85 (p + cL M s) + 1)) (R2 85 (p + cL M s) + 1) := by
      clear f82 f83
      generalize R2 85 (p + cL M s) = B at *
      exact wr_s (by omega) (by omega)
    clear c0 c1
    rw [if_pos yp, if_pos yq, s182, bI_s, if_pos yp, if_pos yq, if_pos yp, Int.toNat_natCast, Int.toNat_natCast, w2.e, up_o (by decide), up_o (by decide), w3.e]
    have ep : EqI (R2 85 p) (tf (sdI M n) (cL M) 100000000 (R2 85) p s) := (k3 hpn).2
    by_cases g : R2 85 (p + cL M s) + 1 < R2 85 p
    · rw [if_pos g, if_pos yq, if_pos yp, if_pos yp]
      have hG : GS (sdI M n) (cL M) 100000000 (R2 85) p (s + 1) (s : Int) := GS.take hsd (by rw [← ep.e]; exact g)
      have ha : ∀ q, upM (upM (upM R2 84 p (min 1000000000 (R2 84 p + R2 84 (p + cL M s)))) 85 p (R2 85 (p + cL M s) + 1)) 86 p (s : Int) 84 q = upM R2 84 p (min 1000000000 (R2 84 p + R2 84 (p + cL M s))) 84 q := fun q => by rw [up_o (by decide), up_o (by decide)]
      have hb2 : ∀ q, q ≠ p → upM (upM (upM R2 84 p (min 1000000000 (R2 84 p + R2 84 (p + cL M s)))) 85 p (R2 85 (p + cL M s) + 1)) 86 p (s : Int) 85 q = R2 85 q := fun q hq => by rw [up_o (by decide), up_j hq, up_o (by decide)]
      have hb3 : upM (upM (upM R2 84 p (min 1000000000 (R2 84 p + R2 84 (p + cL M s)))) 85 p (R2 85 (p + cL M s) + 1)) 86 p (s : Int) 85 p = R2 85 (p + cL M s) + 1 := by rw [up_o (by decide), up_s]
      have hmn : R2 85 (p + cL M s) + 1 = min (R2 85 p) (R2 85 (p + cL M s) + 1) := by
        clear hb3
        omega
      refine s274s h57 h82 h83 hm hn hn60 hc hb hp k (s + 1) _ _ isk (fun q q1 q2 q3 => by rw [up_ne q3, up_ne q2, up_ne q1]; exact h1 q q1 q2 q3) ⟨?_, fun _ => ?_, fun q q1 q2 => ?_⟩
      · exact KT.take sdI_ok ⟨k1, k2, k3, k4⟩ hsd (fun q hq => by rw [ha, up_j hq]) hb2 (by rw [ha, up_s]) (hb3.trans hmn)
      · rw [up_s]
        exact GS.c sdI_ok hG (fun r r1 r2 => hb2 r (Nat.ne_of_gt r1))
      · rw [up_j (Nat.ne_of_gt q1), up_o (by decide), up_o (by decide)]
        exact GS.c sdI_ok (t3 q q1 q2) (fun r r1 r2 => hb2 r (Nat.ne_of_gt (Nat.lt_trans q1 r1)))
    · rw [if_neg g]
      have ha : ∀ q, upM R2 84 p (min 1000000000 (R2 84 p + R2 84 (p + cL M s))) 85 q = R2 85 q := fun q => by rw [up_o (by decide)]
      have ha' : upM R2 84 p (min 1000000000 (R2 84 p + R2 84 (p + cL M s))) 85 = R2 85 := funext ha
      have hmn : R2 85 p = min (R2 85 p) (R2 85 (p + cL M s) + 1) := by
        clear ha ha'
        omega
      refine s274s h57 h82 h83 hm hn hn60 hc hb hp k (s + 1) _ _ isk (fun q q1 q2 q3 => by rw [up_ne q1]; exact h1 q q1 q2 q3) ⟨?_, fun _ => ?_, fun q q1 q2 => ?_⟩
      · exact KT.take sdI_ok ⟨k1, k2, k3, k4⟩ hsd (fun q hq => up_j hq) (fun q _ => ha q) up_s (by rw [ha]; exact hmn)
      · rw [ha', up_o (by decide)]
        exact (t2 hpn).keep hsd (by rw [← ep.e]; exact g)
      · rw [ha', up_o (by decide)]
        exact t3 q q1 q2
set_option maxHeartbeats 100000 in
theorem s274p {R : aM} (h57 : R 57 = M 57) (h82 : R 82 = M 82) (h83 : R 83 = M 83) (hm : TP M m) (hn : n ≤ m) (hn60 : n ≤ 60) (hc : CDI M) (hb : ∀ j, j < n → M 3 j = 46 ∨ M 3 j = 45) : ∀ (p : Nat) (R2 : aM) (v w : aV), p ≤ n → BR R R2 → RT M n R2 p 8 → ∃ R', run 2 274 2 [.inr (some 53), .inl (n : Int), .inl ((p : Int) - 1), v, w] [] R2 = some (none, R') ∧ BR R R' ∧ RT M n R' 0 8
  | 0, R2, v, w, h, h1, h2 => ⟨R2, by rw [B_274_2, if_pos (by decide)], h1, h2⟩
  | p + 1, R2, v, w, h, h1, h2 => by
    have b0 : ¬ ((p + 1 : Nat) : Int) - 1 < 0 := by omega
    have e1 : ((p + 1 : Nat) : Int) - 1 = (p : Int) := by omega
    have g' : ¬ (p : Int) = (n : Int) := by omega
    have y : 0 ≤ (p : Int) ∧ (p : Int) < 61 := by omega
    have ha : ∀ q, upM (upM R2 84 p 0) 85 p 100000000 84 q = upM R2 84 p 0 84 q := fun q => by rw [up_o (by decide)]
    have hbq : ∀ q, q ≠ p → upM (upM R2 84 p 0) 85 p 100000000 85 q = R2 85 q := fun q hq => by rw [up_j hq, up_o (by decide)]
    obtain ⟨t1, t2, t3⟩ := h2
    obtain ⟨R3, v3, g1, g2, g3⟩ := s274s h57 h82 h83 hm hn hn60 hc hb (p := p) (by omega) 8 0 (upM (upM R2 84 p 0) 85 p 100000000) w (by omega) (fun q q1 q2 q3 => by rw [up_ne q2, up_ne q1]; exact h1 q q1 q2 q3) ⟨t1.next sdI_ok (by decide) (by omega) (fun q hq => by rw [ha, up_j hq]) hbq (by rw [ha, up_s]) up_s, fun _ => fun hl => absurd hl (Int.lt_irrefl _), fun q q1 q2 => by
      rw [up_o (by decide), up_o (by decide)]
      refine GS.c sdI_ok (u := R2 85) ?_ (fun r r1 r2 => hbq r (by omega))
      by_cases e : q = p + 1
      · subst e; exact t2 q2
      · exact t3 q (by omega) q2⟩
    obtain ⟨R', e2, e3⟩ := s274p h57 h82 h83 hm hn hn60 hc hb p R3 (.inl 8) v3 (by omega) g2 g3
    refine ⟨R', ?_, e3⟩
    rw [B_274_2, if_neg b0, e1, if_neg g', B_274_21, if_pos y, if_neg g', if_pos y, Int.toNat_natCast]
    exact g1.trans e2
set_option maxHeartbeats 100000 in
theorem s274 {R : aM} (h57 : R 57 = M 57) (h82 : R 82 = M 82) (h83 : R 83 = M 83) (hm : TP M m) (hn : n ≤ m) (hn60 : n ≤ 60) (hc : CDI M) (hb : ∀ j, j < n → M 3 j = 46 ∨ M 3 j = 45) : ∃ R', fnA 274 [.inr (some 53), .inl (n : Int)] R = some (none, R') ∧ BR R R' ∧ RT M n R' 0 8 := by
  have b0 : ¬ (n : Int) < 0 := by omega
  have y : 0 ≤ (n : Int) ∧ (n : Int) < 61 := by omega
  obtain ⟨R3, v3, g1, g2, g3⟩ := s274s h57 h82 h83 hm hn hn60 hc hb (p := n) (Nat.le_refl _) 8 0 (upM (upM R 84 n 1) 85 n 0) (.inr none) (by omega) (fun q q1 q2 q3 => by rw [up_ne q2, up_ne q1]) ⟨KT.end (by rw [up_o (by decide), up_s]) up_s (by decide) 0, fun h => absurd h (Nat.lt_irrefl _), fun q q1 q2 => absurd q2 (by omega)⟩
  obtain ⟨R', e2, e3, e4⟩ := s274p h57 h82 h83 hm hn hn60 hc hb n R3 (.inl 8) v3 (Nat.le_refl _) g2 g3
  refine ⟨R', ?_, e3, e4⟩
  rw [E_274, B_274_2, if_neg b0, if_pos rfl, B_274_21, if_pos y, if_pos rfl, if_pos y, Int.toNat_natCast]
  exact g1.trans e2
/- the class finds the same sign -/
set_option maxHeartbeats 100000 in
theorem s33 (hm : TP M m) (hn : n ≤ m) (hn60 : n ≤ 60) (hc : CDI M) {C R : aM} (hC : BF M C) (hK : KT (sdI M n) (cL M) n 1000000 (C 43) (C 44) 0 8) (hR : RT M n R 0 8) {p : Nat} (hp : p < n) (hf : C 44 p ≠ 1000000) : ∃ s : Nat, s < 8 ∧ fnA 33 [.inr (some 40), .inr (some 2), .inl (n : Int), .inl (p : Int)] C = some (some (.inl (s : Int)), C) ∧ R 86 p = (s : Int) ∧ p + cL M s ≤ n ∧ C 44 (p + cL M s) = C 44 p - 1 := by
  have hsm := KT.same sdI_ok hn60 hK hR.1
  have hsp := hsm n p (by omega) (by omega)
  have hgs : GS (sdI M n) (cL M) 100000000 (R 85) p 8 (R 86 p) := by
    by_cases e : p = 0
    · subst e; exact hR.2.1 hp
    · exact hR.2.2 p (by omega) hp
  have htf : R 85 p = tf (sdI M n) (cL M) 100000000 (R 85) p 8 := by
    by_cases e : p = 0
    · subst e; exact (hR.1.2.2.1 hp).2
    · exact (hR.1.2.2.2 p (by omega) hp).2
  have hle : C 44 p ≤ ((n - p : Nat) : Int) := by clear htf hgs; omega
  have heq : C 44 p = R 85 p := by clear htf hgs; omega
  have hlt : R 85 p < 100000000 := by clear htf hgs; omega
  obtain ⟨s, h1, h2, h3, h4, h5⟩ := hgs (by rw [← htf]; exact hlt)
  rw [← htf] at h4 h5
  clear htf hgs
  have hds := sdI_ok (M := M) (n := n) s p h3
  have hsr := hsm n (p + cL M s) hds.2 (by omega)
  have b1 := hR.1.1 (p + cL M s) (by omega) hds.2
  have hcs : C 44 (p + cL M s) = C 44 p - 1 := by omega
  refine ⟨s, h1, ?_, h2, hds.2, hcs⟩
  have bp := hK.1 p (Nat.zero_le _) (Nat.le_of_lt hp)
  have wp : EqI (wr (C 44 p - 1)) (C 44 p - 1) := by
    clear h4 h5 hcs b1 hsr hsp heq hle
    generalize C 44 p = A at *
    exact wr_s (by omega) (by omega)
  have hcs' : EqI (C 44 (p + cL M s)) (C 44 p - 1) := hcs
  have h5' : ∀ i, i < s → sdI M n i p ≠ 0 → C 44 (p + cL M i) ≠ C 44 p - 1 := fun i hi g => by
    have hdi := sdI_ok (M := M) (n := n) i p g
    have h6 := h5 i hi g
    have hsi := hsm n (p + cL M i) hdi.2 (by omega)
    omega
  have i1 : ∀ i, p + cL M i ≤ n → p + cL M i ≤ 60 := fun i hi => by omega
  have i0 : p ≤ 60 := by omega
  clear h4 h5 hcs b1 hsr hsp heq hle bp hlt hsm
  rw [E_33]
  have key : ∀ (k i : Nat), i + k = s → run 2 33 3 [.inr (some 40), .inr (some 2), .inl (n : Int), .inl (p : Int), .inl (i : Int)] [] C = some (some (.inl (s : Int)), C) := by
    intro k
    induction k with
    | zero =>
      intro i hi
      have : i = s := by omega
      subst this
      have h28 := s28 (n := n) (hC.tp hm) hn (hC.cdi hc) h1 (p := p) (Nat.le_of_lt hp)
      rw [hC.eS] at h28
      have h24 := s24 (hC.cdi hc) h1
      rw [hC.eL] at h24
      have b8 : ¬ (8 : Int) ≤ (i : Int) := by omega
      have w1 : EqI (wr ((p : Int) + (cL M i : Int))) ((p + cL M i : Nat) : Int) := wad (by have := i1 i hds.2; omega)
      rw [B_33_3, if_neg b8, h28, bI_s, if_neg h3, h24, bI_s, w1.e, s30 (i1 i hds.2), bI_s, s30 i0, bI_s, wp.e, if_pos hcs'.e]
    | succ k ih =>
      intro i hi
      have b8 : ¬ (8 : Int) ≤ (i : Int) := by omega
      have i8 : i < 8 := by omega
      have his : i < s := by omega
      have hik : i + 1 + k = s := by omega
      have w : EqI (wr ((i : Int) + 1)) ((i + 1 : Nat) : Int) := w1p (by omega)
      have h28 := s28 (n := n) (hC.tp hm) hn (hC.cdi hc) i8 (p := p) (Nat.le_of_lt hp)
      rw [hC.eS] at h28
      rw [B_33_3, if_neg b8, h28, bI_s, w.e]
      by_cases g : sdI M n i p = 0
      · rw [if_pos g]; exact ih (i + 1) hik
      · have hdi := sdI_ok (M := M) (n := n) i p g
        have h24 := s24 (hC.cdi hc) i8
        rw [hC.eL] at h24
        have w1 : EqI (wr ((p : Int) + (cL M i : Int))) ((p + cL M i : Nat) : Int) := wad (by have := i1 i hdi.2; omega)
        rw [if_neg g, h24, bI_s, w1.e, s30 (i1 i hdi.2), bI_s, s30 i0, bI_s, wp.e, if_neg (h5' i his g)]
        exact ih (i + 1) hik
  exact key s 0 (Nat.zero_add s)
/- both go the same way -/
set_option maxHeartbeats 100000 in
theorem blw (hm : TP M m) (hn : n ≤ m) (hn60 : n ≤ 60) (hc : CDI M) {C R : aM} (hC : BF M C) (h82 : R 82 = M 82) (hK : KT (sdI M n) (cL M) n 1000000 (C 43) (C 44) 0 8) (hR : RT M n R 0 8) {y : Nat} (hy : y < 60) : ∀ (k i p : Nat) (z : Int), i + k = y → p ≤ n → (y : Int) - (i : Int) < C 44 p → C 44 p ≠ 1000000 → ∃ v : Int, run 3 32 9 [.inr (some 40), .inr (some 2), .inl (n : Int), .inl (y : Int), .inl (p : Int), .inl z, .inl (i : Int)] [] C = some (some (.inl v), C) ∧ run 3 275 126 [.inr (some 53), .inl (n : Int), .inl (y : Int), .inl (p : Int), .inl (i : Int)] [] R = some (some (.inl v), R)
  | k, i, p, z, h, hp, hl, hf => by
    have hpn : p < n := by
      by_cases e : p = n
      · subst e; rw [hK.2.1.2] at hl; omega
      · omega
    obtain ⟨s, s1, s2, s3, s4, s5⟩ := s33 hm hn hn60 hc hC hK hR hpn hf
    have w : EqI (wr ((i : Int) + 1)) ((i + 1 : Nat) : Int) := w1p (by omega)
    have w1 : EqI (wr ((p : Int) + (cL M s : Int))) ((p + cL M s : Nat) : Int) := wad (by omega)
    have yp : 0 ≤ (p : Int) ∧ (p : Int) < 61 := by omega
    have b1 : ¬ (y : Int) < (i : Int) := by omega
    have b2 : ¬ (60 : Int) ≤ (i : Int) := by omega
    have h24 := s24 (hC.cdi hc) s1
    rw [hC.eL] at h24
    have e1 : run 3 32 9 [.inr (some 40), .inr (some 2), .inl (n : Int), .inl (y : Int), .inl (p : Int), .inl z, .inl (i : Int)] [] C = run 3 32 9 [.inr (some 40), .inr (some 2), .inl (n : Int), .inl (y : Int), .inl ((p + cL M s : Nat) : Int), .inl (s : Int), .inl ((i + 1 : Nat) : Int)] [] C := by
      rw [B_32_9, if_neg b1, if_neg b2, s2, bI_s, h24, bI_s, w1.e, w.e]
    match k, h with
    | 0, h =>
      have : i = y := by omega
      subst this
      have b3 : (i : Int) < ((i + 1 : Nat) : Int) := by omega
      refine ⟨(s : Int), ?_, ?_⟩
      · rw [e1, B_32_9, if_pos b3]
      · rw [B_275_126, if_pos (Int.le_refl _), if_pos yp, Int.toNat_natCast, s3]
    | k + 1, h =>
      have bp := hK.1 p (Nat.zero_le _) hp
      have j1 : i + 1 + k = y := by omega
      have j2 : (y : Int) - ((i + 1 : Nat) : Int) < C 44 (p + cL M s) := by omega
      have j3 : C 44 (p + cL M s) ≠ 1000000 := by omega
      obtain ⟨v, g1, g2⟩ := blw hm hn hn60 hc hC h82 hK hR hy k (i + 1) (p + cL M s) (s : Int) j1 s4 j2 j3
      refine ⟨v, e1.trans g1, ?_⟩
      have ys : 0 ≤ (s : Int) ∧ (s : Int) < 8 := by omega
      have b4 : ¬ (y : Int) ≤ (i : Int) := by omega
      rw [B_275_126, if_neg b4, if_pos yp, Int.toNat_natCast, s3, if_pos ys, Int.toNat_natCast, h82, (cL_i hc s1).2.1, w1.e, w.e]
      exact g2
end BLR
