/-! law, in both. -/
section CLX
set_option maxHeartbeats 400000 in
theorem isW18 : isW 18 := Or.inl rfl
set_option maxHeartbeats 400000 in
theorem c_law (x : Int) : OK2 Wl 137 223 [.inl x] := fun M hI _ => by
  obtain ⟨m, hm⟩ := hI.2.2.1
  have m1 := hm.1
  have m2 := hm.2.1
  have m3 := hm.2.2.1
  by_cases hx : 1 ≤ x ∧ x ≤ 240
  case neg =>
    refine ⟨-1, M, M, ?_, ?_, hI, rfl⟩
    · rw [E_137]
      by_cases h1 : x < 1
      · rw [if_pos h1]
      · rw [if_neg h1, if_pos (by omega)]
    · rw [E_223, s181, bI_s, bI1_f hx, if_pos rfl]
  by_cases hxm : x ≤ (m : Int)
  case neg =>
    refine ⟨-1, M, M, ?_, ?_, hI, rfl⟩
    · rw [E_137, if_neg (by omega), if_neg (by omega), if_neg (by omega)]
    · rw [E_223, s181, bI_s, bI1_t hx, if_neg (by decide), if_neg (by omega)]
  obtain ⟨n, hn, rfl⟩ : ∃ n : Nat, n ≤ 240 ∧ x = (n : Int) := ⟨x.toNat, by omega, by omega⟩
  have hf := txf_ok hm (n := n) (by omega) (by omega)
  let M2 := upM (upM (upM (upM (upM M 2 2 (n : Int)) 2 3 0) 2 5 0) 18 5 0) 18 6 0
  have hM2 : ∀ q, q ≠ 2 → q ≠ 18 → M2 q = M q := fun q b1 b2 => by
    show upM (upM (upM (upM (upM M 2 2 (n : Int)) 2 3 0) 2 5 0) 18 5 0) 18 6 0 q = M q
    rw [up_ne b2, up_ne b2, up_ne b1, up_ne b1, up_ne b1]
  have h2j : ∀ j, M2 2 j = upM (upM (upM M 2 2 (n : Int)) 2 3 0) 2 5 0 2 j := fun j => by
    show upM (upM (upM (upM (upM M 2 2 (n : Int)) 2 3 0) 2 5 0) 18 5 0) 18 6 0 2 j = _
    rw [up_o (by decide), up_o (by decide)]
  have hX : CX (txf M n) n 0 M2 := by
    refine ⟨?_, ?_, fun i hi => ?_, m, ?_, by omega, m3⟩
    · rw [h2j, up_j (by decide), up_j (by decide), up_s]
    · rw [h2j, up_j (by decide), up_s]; rfl
    · rw [hM2 3 (by decide) (by decide)]
      unfold txf; rw [if_pos hi]
    · rw [h2j, up_j (by decide), up_j (by decide), up_j (by decide)]; exact m1
  have hRel : relC (txf M n) n M2 (0, M 23, 0, M 58, 0) := ⟨hX, up_s, hM2 23 (by decide) (by decide)⟩
  have hCR : CRU 18 M2 0 (fun _ => (0, (0, 0, 0), (0, 0, 0))) := ⟨by
    show upM (upM (upM (upM (upM M 2 2 (n : Int)) 2 3 0) 2 5 0) 18 5 0) 18 6 0 18 5 = _
    rw [up_j (by decide), up_s]; rfl, fun i hi => by omega⟩
  have hRDD : RD (0, M 23, 0, M 58, 0) 0 (fun _ => (0, (0, 0, 0), (0, 0, 0))) := fun i hi => by omega
  have eC : fnA 137 [.inr (some 1), .inl (n : Int)] M = bI (run 67 51 14 [.inr (some 17), .inr (some 2), .inl (n : Int), .inl ((0 : Nat) : Int)] [] M2) fun w1 M1 => bV (fnA 94 [.inr (some 2)] M1) fun M2 => if w1 < 0 then some (some (.inl w1), M2) else bV (fnA 43 [.inr (some 47), .inr (some 18)] M2) fun M3 => some (some (.inl w1), M3) := by
    rw [E_137, if_neg (by omega), if_neg (by omega), if_pos (by omega), E_51, E_99, bV_s, E_42 _ _ isW18, bV_s]
    rfl
  have eR : ∀ Q : aM, Q 53 4 = (m : Int) → Q 57 = M 57 → Q 58 = M 58 → ∃ R0, RRx (txf M n) n (0, M 23, 0, M 58, 0) 0 (fun _ => (0, (0, 0, 0), (0, 0, 0))) R0 ∧ fnA 223 [.inr (some 53), .inl (n : Int)] Q = bI (fnA 221 [.inr (some 53)] R0) (fun w3 M3 => run 8 223 31 [.inr (some 53), .inl (n : Int), .inl w3, .inr none] [] M3) ∧ (∀ q, q ≠ 53 → R0 q = Q q) ∧ R0 53 49 = Q 53 49 ∧ R0 53 13 = Q 53 13 := fun Q h4 h57 h58 => by
    have hq : ∀ q, q ≠ 53 → upM (upM (upM (upM Q 53 5 0) 53 6 (n : Int)) 53 10 0) 53 12 0 q = Q q := fun q q1 => by rw [up_ne q1, up_ne q1, up_ne q1, up_ne q1]
    refine ⟨upM (upM (upM (upM Q 53 5 0) 53 6 (n : Int)) 53 10 0) 53 12 0, ⟨⟨?_, ?_, fun i hi => ?_⟩, ?_, ?_, ?_, fun i hi => by omega⟩, ?_, hq, ?_, ?_⟩
    · rw [up_j (by decide), up_j (by decide), up_s]
    · rw [up_j (by decide), up_j (by decide), up_j (by decide), up_s]; rfl
    · rw [hq 57 (by decide), h57, ← (hm.2.2.2 i (by omega)).1]
      unfold txf; rw [if_pos hi]
    · rw [up_j (by decide), up_s]; rfl
    · exact (hq 58 (by decide)).trans h58
    · rw [up_s]; rfl
    · rw [E_223, s181, bI_s, bI1_t hx, if_neg (by decide), h4, if_pos (by omega), E_222, bV_s]
    · rw [up_j (by decide), up_j (by decide), up_j (by decide), up_j (by decide)]
    · rw [up_j (by decide), up_j (by decide), up_j (by decide), up_j (by decide)]
  have hk : ∀ q, keepQ q = true → q ≠ 2 ∧ ¬ (18 ≤ q ∧ q ≤ 23) ∧ q ≠ 53 ∧ ¬ (58 ≤ q ∧ q ≤ 63) := fun q hq => by
    unfold keepQ at hq
    simp only [Bool.or_eq_true, Bool.and_eq_true, decide_eq_true_eq, beq_iff_eq] at hq
    omega
  have hPW : ∀ q, ¬ (18 ≤ q ∧ q ≤ 23) → PW q = false := fun q hq => by unfold PW; simpa using hq
  have hPV : ∀ q, ¬ (58 ≤ q ∧ q ≤ 63) → PV q = false := fun q hq => by unfold PV; simpa using hq
  rcases lloop hf (n : Int) 16 0 (0, M 23, 0, M 58, 0) (fun _ => (0, (0, 0, 0), (0, 0, 0))) M2 (by omega) (Nat.zero_le _) (Nat.zero_le _) (Nat.zero_le _) hRel hCR hRDD with ⟨e, M3, q1, q2, q3, q4⟩ | ⟨s', L', D', M3, q1, q2, q3, q4, q5, q6, q7, q8, q9⟩
  · have hM3 : ∀ q, q ≠ 2 → ¬ (18 ≤ q ∧ q ≤ 23) → M3 q = M q := fun q b1 b2 => by
      rw [q3.1 q b1 (hPW q b2)]; exact hM2 q b1 (by omega)
    obtain ⟨R0, r1, r2, r3, r4, r5⟩ := eR (upM M3 2 1 0) (by rw [up_o (by decide), hM3 53 (by decide) (by decide)]; exact m2) (by rw [up_ne (by decide)]; exact hM3 57 (by decide) (by decide)) (by rw [up_ne (by decide)]; exact hM3 58 (by decide) (by decide))
    obtain ⟨R1, w, s1, s2, R2, s3, s4, s5⟩ := q4 R0 r1
    have h53 : ∀ j, DV j = false → j ≠ 4 → upM R2 53 4 0 53 j = R0 53 j := fun j hj h4 => by rw [up_j h4]; exact s5.2 j hj
    have hq2 : ∀ q, q ≠ 2 → ¬ (18 ≤ q ∧ q ≤ 23) → q ≠ 53 → ¬ (58 ≤ q ∧ q ≤ 63) → upM R2 53 4 0 q = M q := fun q b1 b2 b3 b4 => by
      rw [up_ne b3, s5.1 q b3 (hPV q b4), r3 q b3, up_ne b1]; exact hM3 q b1 b2
    have hkq : ∀ q, keepQ q = true → upM R2 53 4 0 q = M q := fun q hq => by
      obtain ⟨k1, k2, k3, k4⟩ := hk q hq
      exact hq2 q k1 k2 k3 k4
    refine ⟨e, upM M3 2 1 0, upM R2 53 4 0, ?_, ?_, ?_, hq2 0 (by decide) (by decide) (by decide) (by decide)⟩
    · rw [eC, q2, bI_s, E_94, bV_s, if_pos q1]
    · rw [r2, s1, bI_s, s3, B_223_71, if_pos rfl, up_j (by decide), s4]
    · refine hI.law (WM_l M _ (fun q hq => hkq q (kqL hq)) ?_ (by rw [hkq 81 rfl]) hI.2.2.2.2) (fun q hq _ => hkq q hq) (by rw [hq2 1 (by decide) (by decide) (by decide) (by decide)]) ?_ ⟨?_, up_s⟩
      · rw [h53 13 rfl (by decide), r5, up_o (by decide), hM3 53 (by decide) (by decide)]
      · rw [h53 49 rfl (by decide), r4, up_o (by decide), hM3 53 (by decide) (by decide)]
      · rw [up_o (by decide), s5.1 2 (by decide) rfl, r3 2 (by decide), up_s]
  · have hM3 : ∀ q, q ≠ 2 → ¬ (18 ≤ q ∧ q ≤ 23) → M3 q = M q := fun q b1 b2 => by
      rw [q8.1 q b1 (hPW q b2)]; exact hM2 q b1 (by omega)
    obtain ⟨M4, d1, d2, d3, d4, d5⟩ := s43 (upM M3 2 1 0)
    have hM4 : ∀ q, q ≠ 2 → ¬ (18 ≤ q ∧ q ≤ 23) → ¬ (47 ≤ q ∧ q ≤ 52) → M4 q = M q := fun q b1 b2 b3 => by
      rw [d2 q b3, up_ne b1]; exact hM3 q b1 b2
    obtain ⟨R0, r1, r2, r3, r4, r5⟩ := eR M4 (by rw [hM4 53 (by decide) (by decide) (by decide)]; exact m2) (hM4 57 (by decide) (by decide) (by decide)) (hM4 58 (by decide) (by decide) (by decide))
    obtain ⟨R1, w, s1, s2, R2, s3, s4, s5⟩ := q9 R0 r1
    have p10 : upM (upM R2 53 4 0) 53 13 (L' : Int) 53 10 = (s'.2.2.2.2 : Int) := by rw [up_j (by decide), up_j (by decide)]; exact s4.2.1
    obtain ⟨R3, t1, t2, t3, t4⟩ := r95 (x := (n : Int)) (by omega : s'.2.2.2.2 ≤ 260) s'.2.2.2.2 0 (upM (upM R2 53 4 0) 53 13 (L' : Int)) (by omega) p10
    have p12 : R3 53 12 = (L' : Int) := by rw [t2 53 (by decide), up_j (by decide), up_j (by decide)]; exact s4.2.2.2.1
    obtain ⟨R4, u1, u2, u3, u4⟩ := r123 (x := (n : Int)) q2 L' 0 R3 (by omega) p12
    have hR4 : ∀ q, q ≠ 53 → ¬ (64 ≤ q ∧ q ≤ 68) → R4 q = R2 q := fun q b1 b2 => by
      rw [u2 q (by omega) (by omega) (by omega) (by omega), t2 q (by omega), up_ne b1, up_ne b1]
    have hRR : ∀ q, q ≠ 53 → ¬ (64 ≤ q ∧ q ≤ 68) → ¬ (58 ≤ q ∧ q ≤ 63) → R4 q = M4 q := fun q b1 b2 b3 => by
      rw [hR4 q b1 b2, s5.1 q b1 (hPV q b3)]; exact r3 q b1
    have hq2 : ∀ q, q ≠ 2 → ¬ (18 ≤ q ∧ q ≤ 23) → ¬ (47 ≤ q ∧ q ≤ 52) → q ≠ 53 → ¬ (58 ≤ q ∧ q ≤ 63) → ¬ (64 ≤ q ∧ q ≤ 68) → R4 q = M q := fun q b1 b2 b3 b4 b5 b6 => by
      rw [hRR q b4 b6 b5]; exact hM4 q b1 b2 b3
    have h53 : ∀ j, R4 53 j = upM (upM R2 53 4 0) 53 13 (L' : Int) 53 j := fun j => by rw [u2 53 (by decide) (by decide) (by decide) (by decide), t2 53 (by decide)]
    have hkq : ∀ q, keepQ q = true → lawQ q = false → R4 q = M q := fun q hq hl => by
      obtain ⟨k1, k2, k3, k4⟩ := hk q hq
      unfold lawQ at hl
      simp only [Bool.or_eq_false_iff, Bool.and_eq_false_iff, decide_eq_false_iff_not] at hl
      exact hq2 q k1 k2 (by omega) k3 k4 (by omega)
    have c47 : ∀ q, 47 ≤ q → q ≤ 52 → R4 q = M4 q := fun q b1 b2 => hRR q (by omega) (by omega) (by omega)
    have c18 : ∀ q, 18 ≤ q → q ≤ 23 → upM M3 2 1 0 q = M3 q := fun q b1 b2 => up_ne (by omega)
    refine ⟨(L' : Int), M4, R4, ?_, ?_, ?_, hq2 0 (by decide) (by decide) (by decide) (by decide) (by decide) (by decide)⟩
    · rw [eC, q1, bI_s, E_94, bV_s, if_neg (by omega), d1, bV_s]
    · rw [r2, s1, bI_s, s3, B_223_71, if_neg (by decide), up_j (by decide), s4.2.2.2.1]
      exact t1.trans u1
    · refine hI.law ⟨?_, L', D', q2, ⟨?_, fun i hi => ?_⟩, ?_, fun i hi => ?_, fun i hi => ?_⟩ hkq (by rw [hq2 1 (by decide) (by decide) (by decide) (by decide) (by decide) (by decide)]) ?_ ⟨?_, ?_⟩
      · rw [hkq 81 rfl rfl]; exact hI.2.2.2.2.1
      · rw [c47 47 (by decide) (by decide), d3, c18 18 (by decide) (by decide)]; exact q6.1
      · obtain ⟨x1, x2, x3, x4⟩ := d4 i (by omega)
        rw [c47 48 (by decide) (by decide), c47 49 (by decide) (by decide), c47 50 (by decide) (by decide), c47 51 (by decide) (by decide), x1, x2, x3, x4, c18 19 (by decide) (by decide), c18 20 (by decide) (by decide), c18 21 (by decide) (by decide), c18 22 (by decide) (by decide)]
        exact q6.2 i hi
      · rw [h53, up_s]
      · obtain ⟨x1, x2, x3, x4⟩ := u4 i (Nat.zero_le _) hi
        have hz : ∀ q, q ≠ 53 → q ≠ 64 → R3 q = R2 q := fun q b1 b2 => by rw [t2 q b2, up_ne b1, up_ne b1]
        rw [x1, x2, x3, x4, hz 60 (by decide) (by decide), hz 61 (by decide) (by decide), hz 62 (by decide) (by decide), hz 63 (by decide) (by decide)]
        exact s4.2.2.2.2 i hi
      · obtain ⟨y1, y2, y3, y4, y5, y6⟩ := q7 i hi
        have hg : ∀ j, j < s'.2.2.1 → R4 52 j = s'.2.1 j := fun j hj => by
          rw [c47 52 (by decide) (by decide), d5 j (by omega), c18 23 (by decide) (by decide), q5.2.2]
        have hh : ∀ j, j < s'.2.2.2.2 → R4 64 j = s'.2.2.2.1 j := fun j hj => by
          rw [u2 64 (by decide) (by decide) (by decide) (by decide), t4 j (Nat.zero_le _) hj, up_ne (by decide), up_ne (by decide), s4.2.2.1]
        refine ⟨y1, y2, by show _ ≤ 480; omega, by show _ ≤ 260; omega, fun z => ?_, ?_⟩
        · obtain ⟨d, e1, e2⟩ := y5 z
          exact ⟨d, e1, EV.mv e2 (fun j _ j2 => hg j (by omega)) (fun j _ j2 => hh j (by omega))⟩
        · obtain ⟨d, e1, e2⟩ := y6
          exact ⟨d, e1, EV.mv e2 (fun j _ j2 => hg j (by omega)) (fun j _ j2 => hh j (by omega))⟩
      · rw [h53, up_j (by decide), up_j (by decide), s5.2 49 rfl, r4, hM4 53 (by decide) (by decide) (by decide)]
      · rw [hRR 2 (by decide) (by decide) (by decide), d2 2 (by decide), up_s]
      · rw [h53, up_j (by decide), up_s]
end CLX
