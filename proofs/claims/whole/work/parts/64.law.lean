/-! The whole text of a law. -/
section LAW
variable {f : Nat → Int} {N : Nat}
set_option maxHeartbeats 400000 in
theorem RRx.adv {s : PS} {L : Nat} {D : RU} {R : aM} (h : RRx f N s L D R) : RRx f N (adv s) L D (upM R 53 5 ((s.1 + 1 : Nat) : Int)) := ⟨h.1.st (s.1 + 1), by rw [up_j (by decide)]; exact h.2.1, by rw [up_ne (by decide)]; exact h.2.2.1, by rw [up_j (by decide)]; exact h.2.2.2.1, fun i hi => by
  rw [up_o (by decide), up_o (by decide), up_o (by decide), up_o (by decide)]; exact h.2.2.2.2 i hi⟩
set_option maxHeartbeats 400000 in
theorem CRU.u2 {k : Nat} {M : aM} {L : Nat} {D : RU} (h : CRU k M L D) {j : Nat} {x : Int} (hk : 3 ≤ k) : CRU k (upM M 2 j x) L D := ⟨by rw [up_o (by omega)]; exact h.1, fun i hi => by
  rw [up_o (by omega), up_o (by omega), up_o (by omega), up_o (by omega)]; exact h.2 i hi⟩
def LEnd (f : Nat → Int) (N : Nat) (x : Int) (s : PS) (L : Nat) (D : RU) (M : aM) (y : aX) : Prop := (∃ (e : Int) (M' : aM), e < 0 ∧ y = some (some (.inl e), M') ∧ CF PW M M' ∧ ∀ R, RRx f N s L D R → ∃ R' w, fnA 221 [.inr (some 53)] R = some (some (.inl w), R') ∧ (w = 0 ∨ w = 1) ∧ ∃ R'', run 8 223 31 [.inr (some 53), .inl x, .inl w, .inr none] [] R' = run 8 223 71 [.inr (some 53), .inl x, .inl 0, .inr none] [] R'' ∧ R'' 53 7 = e ∧ RF PV DV R R'') ∨ ∃ (s' : PS) (L' : Nat) (D' : RU) (M' : aM), y = some (some (.inl (L' : Int)), M') ∧ L' ≤ 16 ∧ s'.2.2.1 ≤ 480 ∧ s'.2.2.2.2 ≤ 240 ∧ relC f N M' s' ∧ CRU 18 M' L' D' ∧ RD s' L' D' ∧ CF PW M M' ∧ ∀ R, RRx f N s L D R → ∃ R' w, fnA 221 [.inr (some 53)] R = some (some (.inl w), R') ∧ (w = 0 ∨ w = 1) ∧ ∃ R'', run 8 223 31 [.inr (some 53), .inl x, .inl w, .inr none] [] R' = run 8 223 71 [.inr (some 53), .inl x, .inl 1, .inr none] [] R'' ∧ RRx f N s' L' D' R'' ∧ RF PV DV R R''
set_option maxHeartbeats 400000 in
theorem lloop (hf : FT f N) (x : Int) : ∀ (k L : Nat) (s : PS) (D : RU) (M : aM), L + k = 16 → s.1 ≤ N → s.2.2.1 ≤ 2 * s.1 → s.2.2.2.2 ≤ s.1 → relC f N M s → CRU 18 M L D → RD s L D → LEnd f N x s L D M (run 67 51 14 [.inr (some 17), .inr (some 2), .inl x, .inl (L : Int)] [] M) := by
  intro k
  induction k with
  | zero =>
    intro L s D M hL hs ha hb hM hC hD
    have hN := hf.1
    have b0 : ¬ (16 : Int) < (L : Int) := by omega
    rcases rule1 hf hs ha hb (by omega) hM hC hD with ⟨e, M', h1, h2, h3, h4, h5⟩ | ⟨s', D', M', h1, h2⟩
    · refine Or.inl ⟨e, M', h1, ?_, h4, fun R hR => ?_⟩
      · rw [B_51_14, if_neg b0, h2, bI_s, if_pos rfl, h3]
      · obtain ⟨R', r1, r2, r3⟩ := h5 R hR
        exact ⟨R', 0, r1, Or.inl rfl, R', by rw [B_223_31, if_pos rfl], r2, r3⟩
    · omega
  | succ k ih =>
    intro L s D M hL hs ha hb hM hC hD
    have hN := hf.1
    have b0 : ¬ (16 : Int) < (L : Int) := by omega
    have wL : wr ((L : Int) + 1) = ((L + 1 : Nat) : Int) := w1p (by omega)
    rcases rule1 hf hs ha hb (by omega) hM hC hD with ⟨e, M', h1, h2, h3, h4, h5⟩ | ⟨s', D', M', h1, h2, h3, h4, h5, h6, h7, h8, h9, h10⟩
    · refine Or.inl ⟨e, M', h1, ?_, h4, fun R hR => ?_⟩
      · rw [B_51_14, if_neg b0, h2, bI_s, if_pos rfl, h3]
      · obtain ⟨R', r1, r2, r3⟩ := h5 R hR
        exact ⟨R', 0, r1, Or.inl rfl, R', by rw [B_223_31, if_pos rfl], r2, r3⟩
    · by_cases gp : s'.1 < N
      case neg =>
        refine Or.inr ⟨s', L + 1, D', M', ?_, by omega, by omega, by omega, h3, h7, h8, h9, fun R hR => ?_⟩
        · rw [B_51_14, if_neg b0, h2, bI_s, if_neg (by decide), s100 h3.1, bI_s, if_neg gp, if_neg (by decide), h7.1]
        · obtain ⟨R', r1, r2, r3⟩ := h10 R hR
          exact ⟨R', 1, r1, Or.inr rfl, R', by rw [B_223_31, if_neg (by decide), r2.1.1, r2.1.2.1, if_pos (by omega)], r2, r3⟩
      have e1 : run 67 51 14 [.inr (some 17), .inr (some 2), .inl x, .inl (L : Int)] [] M = bI (fnA 105 [.inr (some 2), .inl 59] M') fun w3 M3 => if w3 = 0 then some (some (.inl (M3 2 5)), M3) else run 67 51 14 [.inr (some 17), .inr (some 2), .inl x, .inl ((L + 1 : Nat) : Int)] [] M3 := by
        rw [B_51_14, if_neg b0, h2, bI_s, if_neg (by decide), s100 h3.1, bI_s, if_pos gp, if_pos rfl, wL]
      have e2 : ∀ R', RX f N s'.1 R' → run 8 223 31 [.inr (some 53), .inl x, .inl 1, .inr none] [] R' = bI (fnA 205 [.inr (some 53), .inl 59] R') fun w1 M1 => if w1 = 0 then run 8 223 31 [.inr (some 53), .inl x, .inl 0, .inr none] [] M1 else bI (fnA 221 [.inr (some 53)] M1) fun w2 M2 => if w2 = 0 then run 8 223 31 [.inr (some 53), .inl x, .inl 0, .inr none] [] M2 else run 8 223 31 [.inr (some 53), .inl x, .inl 1, .inr none] [] M2 := fun R' hR => by
        rw [B_223_31, if_neg (by decide), hR.1, hR.2.1, if_neg (by omega)]
      by_cases gc : f s'.1 = 59
      case neg =>
        refine Or.inl ⟨flt 1 s'.1, upM M' 2 5 (flt 1 s'.1), flt_n (by decide), ?_, h9.u2 (by omega), fun R hR => ?_⟩
        · rw [e1, s105 hf h3.1 (by omega), if_neg gc, bI_s, if_pos rfl, up_s]
        · obtain ⟨R', r1, r2, r3⟩ := h10 R hR
          refine ⟨R', 1, r1, Or.inr rfl, upM R' 53 7 (flt 1 s'.1), ?_, up_s, r3.u rfl⟩
          rw [e2 R' r2.1, s205 hf r2.1 (by omega), if_neg gc, bI_s, if_pos rfl, B_223_31, if_pos rfl]
      have e1' : run 67 51 14 [.inr (some 17), .inr (some 2), .inl x, .inl (L : Int)] [] M = run 67 51 14 [.inr (some 17), .inr (some 2), .inl x, .inl ((L + 1 : Nat) : Int)] [] (upM M' 2 3 ((s'.1 + 1 : Nat) : Int)) := by
        rw [e1, s105 hf h3.1 (by omega), if_pos gc, bI_s, if_neg (by decide)]
      have hRR : ∀ R, RRx f N s L D R → ∃ R' R1, fnA 221 [.inr (some 53)] R = some (some (.inl 1), R') ∧ RF PV DV R R1 ∧ RRx f N (adv s') (L + 1) D' R1 ∧ run 8 223 31 [.inr (some 53), .inl x, .inl 1, .inr none] [] R' = bI (fnA 221 [.inr (some 53)] R1) fun w2 M2 => if w2 = 0 then run 8 223 31 [.inr (some 53), .inl x, .inl 0, .inr none] [] M2 else run 8 223 31 [.inr (some 53), .inl x, .inl 1, .inr none] [] M2 := fun R hR => by
        obtain ⟨R', r1, r2, r3⟩ := h10 R hR
        refine ⟨R', upM R' 53 5 ((s'.1 + 1 : Nat) : Int), r1, r3.u rfl, r2.adv, ?_⟩
        rw [e2 R' r2.1, s205 hf r2.1 (by omega), if_pos gc, bI_s, if_neg (by decide)]
      have hw : ∀ (w : Int) (R1 R2 : aM), (w = 0 ∨ w = 1) → fnA 221 [.inr (some 53)] R1 = some (some (.inl w), R2) → (bI (fnA 221 [.inr (some 53)] R1) fun w2 M2 => if w2 = 0 then run 8 223 31 [.inr (some 53), .inl x, .inl 0, .inr none] [] M2 else run 8 223 31 [.inr (some 53), .inl x, .inl 1, .inr none] [] M2) = run 8 223 31 [.inr (some 53), .inl x, .inl w, .inr none] [] R2 := fun w R1 R2 hw h => by
        rw [h, bI_s]
        rcases hw with rfl | rfl
        · rw [if_pos rfl]
        · rw [if_neg (by decide)]
      have hD2 : RD (adv s') (L + 1) D' := fun i hi => h8 i hi
      rcases ih (L + 1) (adv s') D' _ (by omega) (by show s'.1 + 1 ≤ N; omega) (by show s'.2.2.1 ≤ 2 * (s'.1 + 1); omega) (by show s'.2.2.2.2 ≤ s'.1 + 1; omega) h3.adv (h7.u2 (by decide)) hD2 with ⟨e, M3, q1, q2, q3, q4⟩ | ⟨s3, L3, D3, M3, q1, q2, q3, q4, q5, q6, q7, q8, q9⟩
      · refine Or.inl ⟨e, M3, q1, e1'.trans q2, (h9.u2 (by omega)).tr q3, fun R hR => ?_⟩
        obtain ⟨R', R1, a1, a2, a3, a4⟩ := hRR R hR
        obtain ⟨R2, w, b1, b2, R3, b3, b4, b5⟩ := q4 R1 a3
        exact ⟨R', 1, a1, Or.inr rfl, R3, a4.trans ((hw w R1 R2 b2 b1).trans b3), b4, a2.tr b5⟩
      · refine Or.inr ⟨s3, L3, D3, M3, e1'.trans q1, q2, q3, q4, q5, q6, q7, (h9.u2 (by omega)).tr q8, fun R hR => ?_⟩
        obtain ⟨R', R1, a1, a2, a3, a4⟩ := hRR R hR
        obtain ⟨R2, w, b1, b2, R3, b3, b4, b5⟩ := q9 R1 a3
        exact ⟨R', 1, a1, Or.inr rfl, R3, a4.trans ((hw w R1 R2 b2 b1).trans b3), b4, a2.tr b5⟩
end LAW
