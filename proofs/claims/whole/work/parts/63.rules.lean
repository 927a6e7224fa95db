/-! One rule, whole. -/
section RU3
variable {f : Nat → Int} {N : Nat}
def nxD (D : RU) (L : Nat) (c : Int) (x y : Nat × Nat × Nat) : RU := fun i => if i = L then (c, x, y) else D i
set_option maxHeartbeats 400000 in
theorem rule1 (hf : FT f N) {s : PS} {L : Nat} {D : RU} {M : aM} (hs : s.1 ≤ N) (ha : s.2.2.1 ≤ 2 * s.1) (hb : s.2.2.2.2 ≤ s.1) (hL : L ≤ 16) (hM : relC f N M s) (hC : CRU 18 M L D) (hD : RD s L D) : (∃ (e : Int) (M' : aM), e < 0 ∧ fnA 52 [.inr (some 17), .inr (some 2)] M = some (some (.inl 0), M') ∧ M' 2 5 = e ∧ CF PW M M' ∧ ∀ R, RRx f N s L D R → ∃ R', fnA 221 [.inr (some 53)] R = some (some (.inl 0), R') ∧ R' 53 7 = e ∧ RF PV DV R R') ∨ ∃ (s' : PS) (D' : RU) (M' : aM), L < 16 ∧ fnA 52 [.inr (some 17), .inr (some 2)] M = some (some (.inl 1), M') ∧ relC f N M' s' ∧ s'.1 ≤ N ∧ s'.2.2.1 ≤ 2 * s'.1 ∧ s'.2.2.2.2 ≤ s'.1 ∧ CRU 18 M' (L + 1) D' ∧ RD s' (L + 1) D' ∧ CF PW M M' ∧ ∀ R, RRx f N s L D R → ∃ R', fnA 221 [.inr (some 53)] R = some (some (.inl 1), R') ∧ RRx f N s' (L + 1) D' R' ∧ RF PV DV R R' := by
  have hN := hf.1
  rcases rule0 (D := D) hf hs ha hb hL hM hC.1 with h | ⟨s2, M3, gL, k1, k2, hp, k3, k4, k5, k6, k7, k8, k9, k10, k11, k12⟩
  · exact Or.inl h
  have yL : 0 ≤ (L : Int) ∧ (L : Int) < 16 := by omega
  have g1 : s.1 + 1 ≤ s2.1 := k3.1
  have g2 := k3.2.1
  have g3 : s2.2.2.1 + 2 * (s.1 + 1) ≤ s.2.2.1 + 2 * s2.1 := k3.2.2.1
  have g4 : s2.2.2.2.2 + (s.1 + 1) ≤ s.2.2.2.2 + s2.1 := k3.2.2.2.1
  have g5 : s.2.2.1 ≤ s2.2.2.1 := k3.2.2.2.2.1
  have g6 : s.2.2.2.2 ≤ s2.2.2.2.2 := k3.2.2.2.2.2
  have e45 : fnA 45 [.inr (some 18)] M3 = some (none, upM M3 21 L (s2.2.2.1 : Int)) := by
    rw [E_45 _ _ (Or.inl rfl), k5, if_neg (by omega), if_pos yL, Int.toNat_natCast, k2.2.1]
  have hM4 : relC f N (upM M3 21 L (s2.2.2.1 : Int)) s2 := relCu k2 (by decide) (fun z => absurd z (by decide))
  have hF4 : CF PW M (upM M3 21 L (s2.2.2.1 : Int)) := k10.pw (by omega)
  have eC : run 66 52 88 [.inr (some 17), .inr (some 2), .inl (f s.1)] [] M3 = bI (fnA 105 [.inr (some 2), .inl 40] (upM M3 21 L (s2.2.2.1 : Int))) fun w2 M2 => if w2 = 0 then some (some (.inl 0), M2) else bI (fnA 53 [.inr (some 17), .inr (some 2), .inl 1] M2) fun w3 M3 => if w3 = 0 then some (some (.inl 0), M3) else bI (fnA 105 [.inr (some 2), .inl 41] M3) fun w4 M4 => if w4 = 0 then some (some (.inl 0), M4) else bV (fnA 46 [.inr (some 18)] M4) fun M5 => some (some (.inl 1), M5) := by
    rw [B_52_88, e45, bV_s]
  have eR : ∀ R3 : aM, R3 53 12 = (L : Int) → R3 53 10 = (s2.2.2.2.2 : Int) → run 7 221 122 [.inr (some 53), .inl (f s.1)] [] R3 = bI (fnA 220 [.inr (some 53)] (upM R3 62 L (s2.2.2.2.2 : Int))) fun w1 M1 => if w1 = 0 then some (some (.inl 0), M1) else if 0 ≤ M1 53 12 ∧ M1 53 12 < 16 then some (some (.inl 1), upM (upM M1 63 (Int.toNat (M1 53 12)) (M1 53 10)) 53 12 (wr (((upM M1 63 (Int.toNat (M1 53 12)) (M1 53 10)) 53 12) + 1))) else none := fun R3 h1 h2 => by
    rw [B_221_122, h1, if_pos yL, Int.toNat_natCast, h2]
  have h220 := fun (R3 : aM) (hX : RX f N s2.1 R3) (h10 : R3 53 10 = (s2.2.2.2.2 : Int)) (h58 : R3 58 = s2.2.2.2.1) => s220 hf (n := 2460) (s := s2) (R := upM R3 62 L (s2.2.2.2.2 : Int)) g2 (by omega) (by omega) (hX.oq (by decide)) (by rw [up_o (by decide)]; exact h10) (by rw [up_ne (by decide)]; exact h58)
  by_cases gc : f s2.1 = 40
  case neg =>
    refine Or.inl ⟨flt 1 s2.1, upM (upM M3 21 L (s2.2.2.1 : Int)) 2 5 (flt 1 s2.1), flt_n (by decide), ?_, up_s, hF4.u2 (by omega), fun R hR => ?_⟩
    · rw [k1, eC, s105 hf hM4.1 (by omega), if_neg gc, bI_s, if_pos rfl]
    · obtain ⟨R3, r1, r2, r3, r4, r5, r6, r7, r8, r9, r10⟩ := k12 R hR
      exact ⟨_, by rw [r1, eR R3 r5 r3, (h220 R3 r2 r3 r4).1 gc, bI_s, if_pos rfl], up_s, (r10.pv (by omega)).u rfl⟩
  have hp2 : s2.1 < N := p240 hf (by omega)
  have hM5 := hM4.adv
  cases h : pC f 2460 3 1 (adv s2) with
  | none => exact absurd h (pC_tot hf 2460 3 1 (adv s2) (by decide) (by show s2.1 + 1 ≤ N; omega) (by show 10 * (N - (s2.1 + 1)) + 6 ≤ 2460; omega))
  | some r =>
    have hc := (cC hf 2460 3 1 (adv s2) r _ (by decide) (by decide) (by show s2.1 + 1 ≤ N; omega) (by show s2.2.2.1 ≤ 2 * (s2.1 + 1); omega) h hM5).2.2.2.1 rfl
    have eC2 : run 66 52 88 [.inr (some 17), .inr (some 2), .inl (f s.1)] [] M3 = bI (fnA 53 [.inr (some 17), .inr (some 2), .inl ((1 : Nat) : Int)] (upM (upM M3 21 L (s2.2.2.1 : Int)) 2 3 ((s2.1 + 1 : Nat) : Int))) fun w3 M3 => if w3 = 0 then some (some (.inl 0), M3) else bI (fnA 105 [.inr (some 2), .inl 41] M3) fun w4 M4 => if w4 = 0 then some (some (.inl 0), M4) else bV (fnA 46 [.inr (some 18)] M4) fun M5 => some (some (.inl 1), M5) := by
      rw [eC, s105 hf hM4.1 (by omega), if_pos gc, bI_s, if_neg (by decide)]
      rfl
    rcases r with e | t
    · obtain ⟨M', c1, c2, c3⟩ := hc
      refine Or.inl ⟨e, M', pC_neg f _ _ _ _ _ h, ?_, c2, (hF4.u2 (by omega)).tr c3.w, fun R hR => ?_⟩
      · rw [k1, eC2, c1, bI_s, if_pos rfl]
      · obtain ⟨R3, r1, r2, r3, r4, r5, r6, r7, r8, r9, r10⟩ := k12 R hR
        obtain ⟨R', m1, m2, m3, m4, m5⟩ := (h220 R3 r2 r3 r4).2 gc _ h
        exact ⟨R', by rw [r1, eR R3 r5 r3, m1, bI_s, if_pos rfl], m2, (r10.pv (by omega)).tr m3⟩
    · obtain ⟨M6, c1, c2, c3⟩ := hc
      have hg := pC_gr hf 2460 3 1 (adv s2) t (by show s2.1 + 1 ≤ N; omega) h
      have hfr : FRm s2 t := pC_fr hf 2460 3 1 (adv s2) t (by show s2.1 + 1 ≤ N; omega) h
      obtain ⟨d, dd1, dd2⟩ := (pC_ev hf 2460 3 1 (adv s2) t (by decide) (by decide) (by show s2.1 + 1 ≤ N; omega) h).1 (by omega)
      have htN := hg.2.1
      have hgt : GR N s2 t := hg.ad
      have t1 : s2.1 + 1 ≤ t.1 := hg.1
      have t3 : t.2.2.1 + 2 * (s2.1 + 1) ≤ s2.2.2.1 + 2 * t.1 := hg.2.2.1
      have t4 : t.2.2.2.2 + (s2.1 + 1) ≤ s2.2.2.2.2 + t.1 := hg.2.2.2.1
      have t5 : s2.2.2.1 ≤ t.2.2.1 := hg.2.2.2.2.1
      have t6 : s2.2.2.2.2 ≤ t.2.2.2.2 := hg.2.2.2.2.2
      by_cases gd : f t.1 = 41
      case neg =>
        refine Or.inl ⟨flt 1 t.1, upM M6 2 5 (flt 1 t.1), flt_n (by decide), ?_, up_s, ((hF4.u2 (by omega)).tr c3.w).u2 (by omega), fun R hR => ?_⟩
        · rw [k1, eC2, c1, bI_s, if_neg (by decide), s105 hf c2.1 (by omega), if_neg gd, bI_s, if_pos rfl]
        · obtain ⟨R3, r1, r2, r3, r4, r5, r6, r7, r8, r9, r10⟩ := k12 R hR
          obtain ⟨R', m1, m2, m3⟩ := ((h220 R3 r2 r3 r4).2 gc _ h).2 gd
          exact ⟨R', by rw [r1, eR R3 r5 r3, m1, bI_s, if_pos rfl], m2, (r10.pv (by omega)).tr m3⟩
      have hpt : t.1 < N := p240 hf (by omega)
      have hM7 := c2.adv
      have o6 : ∀ q, q = 19 ∨ q = 20 ∨ q = 21 ∨ q = 22 → M6 q = upM M3 21 L (s2.2.2.1 : Int) q := fun q hq => by
        rw [c3.1.1 q (by omega) (by rcases hq with rfl | rfl | rfl | rfl <;> rfl), up_ne (by omega)]
      have o65 : upM M6 2 3 ((t.1 + 1 : Nat) : Int) 18 5 = (L : Int) := by rw [up_o (by decide), c3.2, up_o (by decide), up_o (by decide)]; exact k5
      have e46 : fnA 46 [.inr (some 18)] (upM M6 2 3 ((t.1 + 1 : Nat) : Int)) = some (none, upM (upM (upM M6 2 3 ((t.1 + 1 : Nat) : Int)) 22 L (t.2.2.1 : Int)) 18 5 ((L + 1 : Nat) : Int)) := by
        rw [E_46 _ _ (Or.inl rfl), o65, if_neg (by omega), if_pos yL, Int.toNat_natCast, up_o (by decide), c2.2.1, up_o (by decide), o65, w1p (by omega)]
      have hM8 : relC f N (upM (upM (upM M6 2 3 ((t.1 + 1 : Nat) : Int)) 22 L (t.2.2.1 : Int)) 18 5 ((L + 1 : Nat) : Int)) (adv t) := relCu (relCu hM7 (by decide) (fun z => absurd z (by decide))) (by decide) (fun _ => by decide)
      have q19 : upM (upM (upM M6 2 3 ((t.1 + 1 : Nat) : Int)) 22 L (t.2.2.1 : Int)) 18 5 ((L + 1 : Nat) : Int) 19 = tset (M 19) L (f s.1) := by
        rw [up_ne (by decide), up_ne (by decide), up_ne (by decide), o6 19 (by omega), up_ne (by decide)]; exact k6
      have q20 : upM (upM (upM M6 2 3 ((t.1 + 1 : Nat) : Int)) 22 L (t.2.2.1 : Int)) 18 5 ((L + 1 : Nat) : Int) 20 = tset (M 20) L (s.2.2.1 : Int) := by
        rw [up_ne (by decide), up_ne (by decide), up_ne (by decide), o6 20 (by omega), up_ne (by decide)]; exact k7
      have q21 : upM (upM (upM M6 2 3 ((t.1 + 1 : Nat) : Int)) 22 L (t.2.2.1 : Int)) 18 5 ((L + 1 : Nat) : Int) 21 = tset (M 21) L (s2.2.2.1 : Int) := by
        rw [up_ne (by decide), up_ne (by decide), up_ne (by decide), o6 21 (by omega), up_q, k8]
      have q22 : upM (upM (upM M6 2 3 ((t.1 + 1 : Nat) : Int)) 22 L (t.2.2.1 : Int)) 18 5 ((L + 1 : Nat) : Int) 22 = tset (M 22) L (t.2.2.1 : Int) := by
        rw [up_ne (by decide), up_q, up_ne (by decide), o6 22 (by omega), up_ne (by decide), k9]
      refine Or.inr ⟨adv t, nxD D L (f s.1) (s.2.2.1, s2.2.2.1, t.2.2.1) (s.2.2.2.2, s2.2.2.2.2, t.2.2.2.2), _, gL, ?_, hM8, by show t.1 + 1 ≤ N; omega, by show t.2.2.1 ≤ 2 * (t.1 + 1); omega, by show t.2.2.2.2 ≤ t.1 + 1; omega, ⟨up_s, fun i hi => ?_⟩, fun i hi => ?_, ((((hF4.u2 (by omega)).tr c3.w).u2 (by omega)).pw (by omega)).pw (by omega), fun R hR => ?_⟩
      · rw [k1, eC2, c1, bI_s, if_neg (by decide), s105 hf c2.1 (by omega), if_pos gd, bI_s, if_neg (by decide), e46, bV_s]
      · rw [q19, q20, q21, q22]
        unfold nxD tset
        by_cases e : i = L
        · rw [if_pos e, if_pos e, if_pos e, if_pos e, if_pos e]; exact ⟨rfl, rfl, rfl, rfl⟩
        · rw [if_neg e, if_neg e, if_neg e, if_neg e, if_neg e]; exact hC.2 i (by omega)
      · by_cases e : i = L
        · have en : nxD D L (f s.1) (s.2.2.1, s2.2.2.1, t.2.2.1) (s.2.2.2.2, s2.2.2.2.2, t.2.2.2.2) i = (f s.1, (s.2.2.1, s2.2.2.1, t.2.2.1), (s.2.2.2.2, s2.2.2.2.2, t.2.2.2.2)) := by unfold nxD; rw [if_pos e]
          rw [en]
          refine ⟨t5, t6, Nat.le_refl _, Nat.le_refl _, fun z => ?_, d, by omega, dd2⟩
          obtain ⟨d', d1, d2⟩ := k11 z
          exact ⟨d', d1, d2.fm hfr⟩
        · have en : nxD D L (f s.1) (s.2.2.1, s2.2.2.1, t.2.2.1) (s.2.2.2.2, s2.2.2.2.2, t.2.2.2.2) i = D i := by unfold nxD; rw [if_neg e]
          rw [en]
          have hst : GR N s t := k3.ad.tr hgt
          exact (hD.fm (k4.tr hfr k3.ad) hst) i (by omega)
      · obtain ⟨R3, r1, r2, r3, r4, r5, r6, r7, r8, r9, r10⟩ := k12 R hR
        obtain ⟨R', m1, m2, m3, m4, m5, m6, m7⟩ := ((h220 R3 r2 r3 r4).2 gc _ h).1 gd
        have m7' : R' 53 12 = (L : Int) := by rw [m7, up_o (by decide)]; exact r5
        have p60 : upM (upM R' 63 L (t.2.2.2.2 : Int)) 53 12 ((L + 1 : Nat) : Int) 60 = tset (R 60) L (f s.1) := by
          rw [up_ne (by decide), up_ne (by decide), m6 60 (by decide) (by decide) (by decide), up_ne (by decide)]; exact r6
        have p61 : upM (upM R' 63 L (t.2.2.2.2 : Int)) 53 12 ((L + 1 : Nat) : Int) 61 = tset (R 61) L (s.2.2.2.2 : Int) := by
          rw [up_ne (by decide), up_ne (by decide), m6 61 (by decide) (by decide) (by decide), up_ne (by decide)]; exact r7
        have p62 : upM (upM R' 63 L (t.2.2.2.2 : Int)) 53 12 ((L + 1 : Nat) : Int) 62 = tset (R 62) L (s2.2.2.2.2 : Int) := by
          rw [up_ne (by decide), up_ne (by decide), m6 62 (by decide) (by decide) (by decide), up_q, r8]
        have p63 : upM (upM R' 63 L (t.2.2.2.2 : Int)) 53 12 ((L + 1 : Nat) : Int) 63 = tset (R 63) L (t.2.2.2.2 : Int) := by
          rw [up_ne (by decide), up_q, m6 63 (by decide) (by decide) (by decide), up_ne (by decide), r9]
        refine ⟨upM (upM R' 63 L (t.2.2.2.2 : Int)) 53 12 ((L + 1 : Nat) : Int), ?_, ⟨(m2.oq (by decide)).o (by decide), ?_, ?_, up_s, fun i hi => ?_⟩, (((r10.pv (by omega)).tr m5).pv (by omega)).u rfl⟩
        · rw [r1, eR R3 r5 r3, m1, bI_s, if_neg (by decide), m7', if_pos yL, Int.toNat_natCast, m3, up_o (by decide), m7', w1p (by omega)]
        · rw [up_j (by decide), up_o (by decide)]; exact m3
        · rw [up_ne (by decide), up_ne (by decide)]; exact m4
        · show _ ∧ upM (upM R' 63 L (t.2.2.2.2 : Int)) 53 12 ((L + 1 : Nat) : Int) 61 i = _ ∧ upM (upM R' 63 L (t.2.2.2.2 : Int)) 53 12 ((L + 1 : Nat) : Int) 62 i = _ ∧ upM (upM R' 63 L (t.2.2.2.2 : Int)) 53 12 ((L + 1 : Nat) : Int) 63 i = _
          rw [p60, p61, p62, p63]
          unfold nxD tset
          by_cases e : i = L
          · rw [if_pos e, if_pos e, if_pos e, if_pos e, if_pos e]; exact ⟨rfl, rfl, rfl, rfl⟩
          · rw [if_neg e, if_neg e, if_neg e, if_neg e, if_neg e]
            have := hR.2.2.2.2 i (by omega)
            exact this
end RU3
