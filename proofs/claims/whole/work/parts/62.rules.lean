/-! One rule: up to its condition, then whole. -/
section RU2
variable {f : Nat → Int} {N : Nat}
set_option maxHeartbeats 400000 in
theorem relCu {M : aM} {s : PS} (h : relC f N M s) {q j : Nat} {x : Int} (hq : q ≠ 2 ∧ q ≠ 3 ∧ q ≠ 23) (h6 : q = 18 → j ≠ 6) : relC f N (upM M q j x) s := by
  refine ⟨h.1.o ⟨hq.1, hq.2.1⟩, ?_, by rw [up_ne (Ne.symm hq.2.2)]; exact h.2.2⟩
  by_cases e : q = 18
  · subst e
    rw [up_j (Ne.symm (h6 rfl))]; exact h.2.1
  · rw [up_o (Ne.symm e)]; exact h.2.1
set_option maxHeartbeats 400000 in
theorem CF.pw {M M1 : aM} (h : CF PW M M1) {q j : Nat} {x : Int} (hq : 18 ≤ q ∧ q ≤ 23) : CF PW M (upM M1 q j x) := h.up (by omega) (PWp hq)
set_option maxHeartbeats 400000 in
theorem RF.pv {R R1 : aM} (h : RF PV DV R R1) {q j : Nat} {x : Int} (hq : 58 ≤ q ∧ q ≤ 63) : RF PV DV R (upM R1 q j x) := h.up (by omega) (PVp hq)
set_option maxHeartbeats 400000 in
theorem rule0 (hf : FT f N) {s : PS} {L : Nat} {D : RU} {M : aM} (hs : s.1 ≤ N) (ha : s.2.2.1 ≤ 2 * s.1) (hb : s.2.2.2.2 ≤ s.1) (hL : L ≤ 16) (hM : relC f N M s) (h5 : M 18 5 = (L : Int)) : (∃ (e : Int) (M' : aM), e < 0 ∧ fnA 52 [.inr (some 17), .inr (some 2)] M = some (some (.inl 0), M') ∧ M' 2 5 = e ∧ CF PW M M' ∧ ∀ R, RRx f N s L D R → ∃ R', fnA 221 [.inr (some 53)] R = some (some (.inl 0), R') ∧ R' 53 7 = e ∧ RF PV DV R R') ∨ ∃ (s2 : PS) (M3 : aM), L < 16 ∧ fnA 52 [.inr (some 17), .inr (some 2)] M = run 66 52 88 [.inr (some 17), .inr (some 2), .inl (f s.1)] [] M3 ∧ relC f N M3 s2 ∧ s.1 < N ∧ GR N (adv s) s2 ∧ FRm s s2 ∧ M3 18 5 = (L : Int) ∧ M3 19 = tset (M 19) L (f s.1) ∧ M3 20 = tset (M 20) L (s.2.2.1 : Int) ∧ M3 21 = M 21 ∧ M3 22 = M 22 ∧ CF PW M M3 ∧ (f s.1 ≠ 120 → ∃ d, d ≤ 32 ∧ EVs s2 false s.2.2.1 s.2.2.2.2 s2.2.2.1 s2.2.2.2.2 d) ∧ ∀ R, RRx f N s L D R → ∃ R3, fnA 221 [.inr (some 53)] R = run 7 221 122 [.inr (some 53), .inl (f s.1)] [] R3 ∧ RX f N s2.1 R3 ∧ R3 53 10 = (s2.2.2.2.2 : Int) ∧ R3 58 = s2.2.2.2.1 ∧ R3 53 12 = (L : Int) ∧ R3 60 = tset (R 60) L (f s.1) ∧ R3 61 = tset (R 61) L (s.2.2.2.2 : Int) ∧ R3 62 = R 62 ∧ R3 63 = R 63 ∧ RF PV DV R R3 := by
  have hN := hf.1
  by_cases gc : isR (f s.1)
  case neg =>
    have n1 : ¬ f s.1 = 102 := fun z => gc (Or.inl z)
    have n2 : ¬ f s.1 = 119 := fun z => gc (Or.inr (Or.inl z))
    have n3 : ¬ f s.1 = 113 := fun z => gc (Or.inr (Or.inr (Or.inl z)))
    have n4 : ¬ f s.1 = 105 := fun z => gc (Or.inr (Or.inr (Or.inr (Or.inl z))))
    have n5 : ¬ f s.1 = 120 := fun z => gc (Or.inr (Or.inr (Or.inr (Or.inr z))))
    have h1 := cfail (k := 1) (p := s.1) (by decide) (by omega) hM.1.2.1
    refine Or.inl ⟨flt 1 s.1, _, flt_n (by decide), ?_, up_s, CF.rf.u2 (by omega), fun R hR => ?_⟩
    · rw [E_52, s101 hf hM.1, bI_s, if_neg n1, if_neg n2, if_neg n3, if_neg n4, if_neg n5]
      exact h1
    · have h204 := s204 (k := 1) (p := s.1) (by decide) (by omega) R
      have h204' : fnA 204 [.inr (some 53), .inl 1, .inl (s.1 : Int)] R = some (some (.inl 0), upM R 53 7 (flt 1 s.1)) := h204
      refine ⟨_, ?_, up_s, RF.rf.u rfl⟩
      rw [E_221, s202 hf hR.1, bI_s, if_neg n1, if_neg n2, if_neg n3, if_neg n4, if_neg n5, hR.1.2.1, h204', bI_s, if_pos (Or.inl rfl)]
  have hp : s.1 < N := p240 hf (by unfold isR at gc; omega)
  have eC : fnA 52 [.inr (some 17), .inr (some 2)] M = run 66 52 41 [.inr (some 17), .inr (some 2), .inl (f s.1)] [] M := by
    rw [E_52, s101 hf hM.1, bI_s]
    by_cases n1 : f s.1 = 102
    · rw [if_pos n1]
    rw [if_neg n1]
    by_cases n2 : f s.1 = 119
    · rw [if_pos n2]
    rw [if_neg n2]
    by_cases n3 : f s.1 = 113
    · rw [if_pos n3]
    rw [if_neg n3]
    by_cases n4 : f s.1 = 105
    · rw [if_pos n4]
    rw [if_neg n4, if_pos ((((gc.resolve_left n1).resolve_left n2).resolve_left n3).resolve_left n4)]
  have eR : ∀ R, RRx f N s L D R → fnA 221 [.inr (some 53)] R = run 7 221 45 [.inr (some 53), .inl (f s.1)] [] R := fun R hR => by
    rw [E_221, s202 hf hR.1, bI_s]
    by_cases n1 : f s.1 = 102
    · rw [if_pos n1]
    rw [if_neg n1]
    by_cases n2 : f s.1 = 119
    · rw [if_pos n2]
    rw [if_neg n2]
    by_cases n3 : f s.1 = 113
    · rw [if_pos n3]
    rw [if_neg n3]
    by_cases n4 : f s.1 = 105
    · rw [if_pos n4]
    rw [if_neg n4, if_pos ((((gc.resolve_left n1).resolve_left n2).resolve_left n3).resolve_left n4)]
  by_cases gL : L < 16
  case neg =>
    have h4 := cfail (k := 4) (p := s.1) (by decide) (by omega) hM.1.2.1
    refine Or.inl ⟨flt 4 s.1, _, flt_n (by decide), ?_, up_s, CF.rf.u2 (by omega), fun R hR => ?_⟩
    · rw [eC, B_52_41, h5, if_neg (by omega)]
      exact h4
    · have h204 := s204 (k := 4) (p := s.1) (by decide) (by omega) R
      have h204' : fnA 204 [.inr (some 53), .inl 4, .inl (s.1 : Int)] R = some (some (.inl 0), upM R 53 7 (flt 4 s.1)) := h204
      refine ⟨_, ?_, up_s, RF.rf.u rfl⟩
      rw [eR R hR, B_221_45, hR.2.2.2.1, if_pos (by omega), hR.1.2.1, h204', bI_s, if_pos (Or.inl rfl)]
  have yL : 0 ≤ (L : Int) ∧ (L : Int) < 16 := by omega
  -- the class up to the sum
  have hM1 := hM.adv
  have e44 : fnA 44 [.inr (some 18), .inl (f s.1)] (upM M 2 3 ((s.1 + 1 : Nat) : Int)) = some (none, upM (upM (upM M 2 3 ((s.1 + 1 : Nat) : Int)) 19 L (f s.1)) 20 L (s.2.2.1 : Int)) := by
    rw [E_44 _ _ _ (Or.inl rfl), up_o (by decide), h5, if_neg (by omega), if_pos yL, Int.toNat_natCast, up_o (by decide), up_o (by decide), h5, if_pos yL, Int.toNat_natCast, up_o (by decide), up_o (by decide), hM.2.1]
  have hM2 : relC f N (upM (upM (upM M 2 3 ((s.1 + 1 : Nat) : Int)) 19 L (f s.1)) 20 L (s.2.2.1 : Int)) (adv s) := relCu (relCu hM1 (by decide) (fun z => absurd z (by decide))) (by decide) (fun z => absurd z (by decide))
  have hF2 : CF PW M (upM (upM (upM M 2 3 ((s.1 + 1 : Nat) : Int)) 19 L (f s.1)) 20 L (s.2.2.1 : Int)) := ((CF.rf.u2 (by omega)).pw (by omega)).pw (by omega)
  have c5 : upM (upM (upM M 2 3 ((s.1 + 1 : Nat) : Int)) 19 L (f s.1)) 20 L (s.2.2.1 : Int) 18 5 = (L : Int) := by rw [up_o (by decide), up_o (by decide), up_o (by decide)]; exact h5
  have c19 : upM (upM (upM M 2 3 ((s.1 + 1 : Nat) : Int)) 19 L (f s.1)) 20 L (s.2.2.1 : Int) 19 = tset (M 19) L (f s.1) := by rw [up_ne (by decide), up_q, up_ne (by decide)]
  have c20 : upM (upM (upM M 2 3 ((s.1 + 1 : Nat) : Int)) 19 L (f s.1)) 20 L (s.2.2.1 : Int) 20 = tset (M 20) L (s.2.2.1 : Int) := by rw [up_q, up_ne (by decide), up_ne (by decide)]
  have c21 : ∀ q, q = 21 ∨ q = 22 → upM (upM (upM M 2 3 ((s.1 + 1 : Nat) : Int)) 19 L (f s.1)) 20 L (s.2.2.1 : Int) q = M q := fun q hq => by rw [up_ne (by omega), up_ne (by omega), up_ne (by omega)]
  have eC2 : run 66 52 41 [.inr (some 17), .inr (some 2), .inl (f s.1)] [] M = if f s.1 = 120 then run 66 52 88 [.inr (some 17), .inr (some 2), .inl (f s.1)] [] (upM (upM (upM M 2 3 ((s.1 + 1 : Nat) : Int)) 19 L (f s.1)) 20 L (s.2.2.1 : Int)) else bI (fnA 58 [.inr (some 17), .inr (some 2), .inl ((0 : Nat) : Int)] (upM (upM (upM M 2 3 ((s.1 + 1 : Nat) : Int)) 19 L (f s.1)) 20 L (s.2.2.1 : Int))) fun w3 M3 => if w3 = 0 then some (some (.inl 0), M3) else run 66 52 88 [.inr (some 17), .inr (some 2), .inl (f s.1)] [] M3 := by
    rw [B_52_41, h5, if_pos (by omega), s102 (p := s.1) (by omega) hM.1.2.1, bV_s, e44, bV_s]
    rfl
  -- the reference up to the sum
  have hRR : ∀ R, RRx f N s L D R → ∃ R2, rQ f N R2 (adv s) 0 0 [] ∧ R2 53 12 = (L : Int) ∧ R2 60 = tset (R 60) L (f s.1) ∧ R2 61 = tset (R 61) L (s.2.2.2.2 : Int) ∧ R2 62 = R 62 ∧ R2 63 = R 63 ∧ RF PV DV R R2 ∧ run 7 221 45 [.inr (some 53), .inl (f s.1)] [] R = if f s.1 = 120 then run 7 221 122 [.inr (some 53), .inl (f s.1)] [] R2 else bI (fnA 215 [.inr (some 53)] R2) fun w1 M1 => if w1 = 0 then some (some (.inl 0), M1) else run 7 221 122 [.inr (some 53), .inl (f s.1)] [] M1 := fun R hR => by
    obtain ⟨r1, r2, r3, r4, r5⟩ := hR
    have o1 : upM R 60 L (f s.1) 53 5 = (s.1 : Int) := by rw [up_o (by decide)]; exact r1.2.1
    have o2 : upM (upM R 60 L (f s.1)) 53 5 ((s.1 + 1 : Nat) : Int) 53 12 = (L : Int) := by rw [up_j (by decide), up_o (by decide)]; exact r4
    have o3 : upM (upM R 60 L (f s.1)) 53 5 ((s.1 + 1 : Nat) : Int) 53 10 = (s.2.2.2.2 : Int) := by rw [up_j (by decide), up_o (by decide)]; exact r2
    refine ⟨upM (upM (upM (upM (upM R 60 L (f s.1)) 53 5 ((s.1 + 1 : Nat) : Int)) 61 L (s.2.2.2.2 : Int)) 53 9 0) 53 11 0, ⟨((((r1.oq (by decide)).st (s.1 + 1)).oq (by decide)).o (by decide)).o (by decide), ?_, up_s, trivial, s.2.2.2.2, ?_, ?_⟩, ?_, ?_, ?_, ?_, ?_, ?_, ?_⟩
    · rw [up_j (by decide), up_s]; rfl
    · rw [up_j (by decide), up_j (by decide), up_o (by decide)]; exact o3
    · rw [up_ne (by decide), up_ne (by decide), up_ne (by decide), up_ne (by decide), up_ne (by decide), r3]; rfl
    · rw [up_j (by decide), up_j (by decide), up_o (by decide)]; exact o2
    · rw [up_ne (by decide), up_ne (by decide), up_ne (by decide), up_ne (by decide), up_q]
    · rw [up_ne (by decide), up_ne (by decide), up_q, up_ne (by decide), up_ne (by decide)]
    · rw [up_ne (by decide), up_ne (by decide), up_ne (by decide), up_ne (by decide), up_ne (by decide)]
    · rw [up_ne (by decide), up_ne (by decide), up_ne (by decide), up_ne (by decide), up_ne (by decide)]
    · exact ((((RF.rf.pv (by omega)).u rfl).pv (by omega)).u rfl).u rfl
    · rw [B_221_45, r4, if_neg (by omega), if_pos yL, Int.toNat_natCast, o1, w1p (by omega), o2, if_pos yL, Int.toNat_natCast, o3]
  by_cases gx : f s.1 = 120
  · refine Or.inr ⟨adv s, _, gL, ?_, hM2, hp, GR.rf (by show s.1 + 1 ≤ N; omega), FRm.rf, c5, c19, c20, c21 21 (by omega), c21 22 (by omega), hF2, fun z => absurd gx z, fun R hR => ?_⟩
    · rw [eC, eC2, if_pos gx]
    · obtain ⟨R2, q1, q2, q3, q4, q5, q6, q7, q8⟩ := hRR R hR
      obtain ⟨d1, d2, d3, d4, -, d6⟩ := q1.L
      exact ⟨R2, by rw [eR R hR, q8, if_pos gx], d1, d4, d6, q2, q3, q4, q5, q6, q7⟩
  · rw [if_neg gx] at eC2
    cases h : pS f 2450 3 0 (adv s) with
    | none => exact absurd h (pS_tot hf 2450 3 0 (adv s) (by decide) (by show s.1 + 1 ≤ N; omega) (by show 10 * (N - (s.1 + 1)) + 3 ≤ 2450; omega))
    | some r =>
      have hc := (cS hf 2450 3 0 (adv s) r _ (by decide) (by decide) (by show s.1 + 1 ≤ N; omega) (by show s.2.2.1 ≤ 2 * (s.1 + 1); omega) h hM2).2.2.2.1 rfl
      have hr := fun (R2 : aM) (hQ : rQ f N R2 (adv s) 0 0 []) => s215 hf (n := 2450) (o := 0) (w0 := 0) (s := adv s) (r := r) (R := R2) (by decide) (by show s.1 + 1 ≤ N; omega) (by show s.2.2.2.2 ≤ s.1 + 1; omega) (Nat.zero_le _) h hQ (by
        show ¬ inS 1 (tp R2 0)
        unfold tp inS; rw [if_pos rfl]; omega)
      rcases r with e | s2
      · obtain ⟨M', c1, c2, c3⟩ := hc
        refine Or.inl ⟨e, M', pS_neg f _ _ _ _ _ h, ?_, c2, hF2.tr c3.w, fun R hR => ?_⟩
        · rw [eC, eC2, c1, bI_s, if_pos rfl]
        · obtain ⟨R2, q1, q2, q3, q4, q5, q6, q7, q8⟩ := hRR R hR
          obtain ⟨R', m1, m2, m3⟩ := hr R2 q1
          exact ⟨R', by rw [eR R hR, q8, if_neg gx, m1, bI_s, if_pos rfl], m2, q7.tr m3.v⟩
      · obtain ⟨M3, c1, c2, c3⟩ := hc
        have hg := pS_gr hf 2450 3 0 (adv s) s2 (by show s.1 + 1 ≤ N; omega) h
        have hfr : FRm s s2 := pS_fr hf 2450 3 0 (adv s) s2 (by show s.1 + 1 ≤ N; omega) h
        obtain ⟨d, dd1, dd2⟩ := (pS_ev hf 2450 3 0 (adv s) s2 (by decide) (by decide) (by show s.1 + 1 ≤ N; omega) h).2.2.2.1 rfl
        have o3 : ∀ q, q = 19 ∨ q = 20 ∨ q = 21 ∨ q = 22 → M3 q = upM (upM (upM M 2 3 ((s.1 + 1 : Nat) : Int)) 19 L (f s.1)) 20 L (s.2.2.1 : Int) q := fun q hq => c3.1.1 q (by omega) (by rcases hq with rfl | rfl | rfl | rfl <;> rfl)
        refine Or.inr ⟨s2, M3, gL, ?_, c2, hp, hg, hfr, by rw [c3.2]; exact c5, by rw [o3 19 (by omega)]; exact c19, by rw [o3 20 (by omega)]; exact c20, by rw [o3 21 (by omega)]; exact c21 21 (by omega), by rw [o3 22 (by omega)]; exact c21 22 (by omega), hF2.tr c3.w, fun _ => ⟨d, by omega, dd2⟩, fun R hR => ?_⟩
        · rw [eC, eC2, c1, bI_s, if_neg (by decide)]
        · obtain ⟨R2, q1, q2, q3, q4, q5, q6, q7, q8⟩ := hRR R hR
          obtain ⟨R3, m1, m2, m3⟩ := hr R2 q1
          obtain ⟨d1, d2, d3, d4, -, d6⟩ := m2.L
          have kq : ∀ q, q ≠ 53 → q ≠ 58 → q ≠ 59 → R3 q = R2 q := fun q a b c => m3.1.1 q a (by unfold PRs; simp [b, c])
          exact ⟨R3, by rw [eR R hR, q8, if_neg gx, m1, bI_s, if_neg (by decide)], d1, d4, d6, by rw [m3.1.2 12 rfl]; exact q2, by rw [kq 60 (by decide) (by decide) (by decide)]; exact q3, by rw [kq 61 (by decide) (by decide) (by decide)]; exact q4, by rw [kq 62 (by decide) (by decide) (by decide)]; exact q5, by rw [kq 63 (by decide) (by decide) (by decide)]; exact q6, q7.tr m3.v⟩
end RU2
