/-! ledger: all lines, and the call. -/
section LDC
variable {f : Nat → Int} {n : Nat}
set_option maxHeartbeats 300000 in
theorem INV.town {W : aM → Prop} (hW : WM W) {M M' : aM} (hI : INV W M) (hT : TW M') (h : ∀ q, keepQ q = true → ¬ (4 ≤ q ∧ q ≤ 7) → q ≠ 54 → M' q = M q) (h1 : M' 1 13 = M 1 13) (h49 : M' 53 49 = M 53 49) (h13 : M' 53 13 = M 53 13) (ht : (M' 2 1 = M 2 1 ∧ M' 53 4 = M 53 4) ∨ (M' 2 1 = 0 ∧ M' 53 4 = 0)) : INV W M' := by
  have hL : ∀ q, lawQ q = true → M' q = M q := fun q hq => h q (kqL hq) (by
    unfold lawQ at hq
    simp only [Bool.or_eq_true, Bool.and_eq_true, decide_eq_true_eq] at hq
    omega) (by intro e; subst e; exact absurd hq (by decide))
  refine ⟨hT, hI.2.1.mv h1 h49 (fun q a b => h q (kq1 (by omega) b) (by omega) (by omega)) (h 56 rfl (by decide) (by decide)), ?_, hI.2.2.2.1.mv (h 41 rfl (by decide) (by decide)) (h 42 rfl (by decide) (by decide)) (h 82 rfl (by decide) (by decide)) (h 83 rfl (by decide) (by decide)), hW M M' hL h13 (by rw [h 81 rfl (by decide) (by decide)]) hI.2.2.2.2⟩
  obtain ⟨m, hm⟩ := hI.2.2.1
  rcases ht with ⟨a, b⟩ | ⟨a, b⟩
  · exact ⟨m, hm.mv a b (h 3 rfl (by decide) (by decide)) (h 57 rfl (by decide) (by decide))⟩
  · exact ⟨0, a, b, by decide, fun i hi => absurd hi (by omega)⟩
set_option maxHeartbeats 300000 in
theorem s100 {M : aM} {p : Nat} (hX : CX f n p M) : fnA 100 [.inr (some 2)] M = some (some (.inl (if p < n then 0 else 1)), M) := by
  rw [E_100, hX.2.1, hX.1]
  by_cases g : p < n
  · rw [if_pos (by omega), if_pos g]
  · rw [if_neg (by omega), if_neg g]
/- all lines: what the class does at M, the reference does wherever it stands alike -/
set_option maxHeartbeats 300000 in
theorem sloop (hf : FT f n) (x : Int) : ∀ (k p L : Nat) (T : Nat → Int) (M : aM), L + k = 20 → p ≤ n → CX f n p M → TC M 12 T → TI T → TZ T → (∃ (e : Int) (M' : aM), e < 0 ∧ run 5 63 8 [.inr (some 16), .inr (some 2), .inl x, .inr (some 12), .inl (L : Int)] [] M = some (some (.inl e), M') ∧ CF PL M M' ∧ ∀ R, RLn f n T p L R → ∃ R' w, fnA 232 [.inr (some 53)] R = some (some (.inl w), R') ∧ (w = 0 ∨ w = 1) ∧ ∃ R'', run 4 233 46 [.inr (some 53), .inl x, .inl w] [] R' = run 4 233 86 [.inr (some 53), .inl x, .inl 0] [] R'' ∧ R'' 53 7 = e ∧ RF PR DR R R'') ∨ ∃ (T' : Nat → Int) (M' : aM) (c : Nat), run 5 63 8 [.inr (some 16), .inr (some 2), .inl x, .inr (some 12), .inl (L : Int)] [] M = some (some (.inl (c : Int)), M') ∧ TC M' 12 T' ∧ TI T' ∧ TZ T' ∧ CF PL M M' ∧ ∀ R, RLn f n T p L R → ∃ R' w, fnA 232 [.inr (some 53)] R = some (some (.inl w), R') ∧ (w = 0 ∨ w = 1) ∧ ∃ R'', run 4 233 46 [.inr (some 53), .inl x, .inl w] [] R' = run 4 233 86 [.inr (some 53), .inl x, .inl 1] [] R'' ∧ TR R'' 71 T' ∧ R'' 53 28 = (c : Int) ∧ RF PR DR R R'' := by
  intro k
  induction k with
  | zero =>
    intro p L T M hL hp hX hC hT hZ
    have hn := hf.1
    have b0 : ¬ (20 : Int) < (L : Int) := by omega
    rcases sline hf hT hZ hX hC (by omega) (by omega : L ≤ 20) with ⟨e, M', h1, h2, h3, h4, h5⟩ | ⟨p', T', M', h1, h2, h3, h4, h5, h6, h7, h8, h9⟩
    · refine Or.inl ⟨e, M', h1, ?_, h4, fun R hR => ?_⟩
      · rw [B_63_8 _ _ _ _ t12, if_neg b0, h2, bI_s, if_pos rfl, h3]
      · obtain ⟨R', r1, r2, r3⟩ := h5 R hR
        exact ⟨R', 0, r1, Or.inl rfl, R', by rw [B_233_46, if_pos rfl], r2, r3⟩
    · omega
  | succ k ih =>
    intro p L T M hL hp hX hC hT hZ
    have hn := hf.1
    have b0 : ¬ (20 : Int) < (L : Int) := by omega
    have wL : wr ((L : Int) + 1) = ((L + 1 : Nat) : Int) := w1p (by omega)
    rcases sline hf hT hZ hX hC (by omega) (by omega : L ≤ 20) with ⟨e, M', h1, h2, h3, h4, h5⟩ | ⟨p', T', M', h1, h2, h3, h4, h5, h6, h7, h8, h9⟩
    · refine Or.inl ⟨e, M', h1, ?_, h4, fun R hR => ?_⟩
      · rw [B_63_8 _ _ _ _ t12, if_neg b0, h2, bI_s, if_pos rfl, h3]
      · obtain ⟨R', r1, r2, r3⟩ := h5 R hR
        exact ⟨R', 0, r1, Or.inl rfl, R', by rw [B_233_46, if_pos rfl], r2, r3⟩
    · by_cases gp : p' < n
      case neg =>
        refine Or.inr ⟨T', M', L + 1, ?_, h4, h5, h6, h8, fun R hR => ?_⟩
        · rw [B_63_8 _ _ _ _ t12, if_neg b0, h2, bI_s, if_neg (by decide), s100 h3, bI_s, if_neg gp, if_neg (by decide), wL]
        · obtain ⟨R', r1, r2, r3, r4, r5⟩ := h9 R hR
          exact ⟨R', 1, r1, Or.inr rfl, R', by rw [B_233_46, if_neg (by decide), r2.1, r2.2.1, if_pos (by omega)], r3, r4, r5⟩
      have e1 : run 5 63 8 [.inr (some 16), .inr (some 2), .inl x, .inr (some 12), .inl (L : Int)] [] M = bI (fnA 105 [.inr (some 2), .inl 59] M') fun w3 M3 => if w3 = 0 then some (some (.inl (M3 2 5)), M3) else run 5 63 8 [.inr (some 16), .inr (some 2), .inl x, .inr (some 12), .inl ((L + 1 : Nat) : Int)] [] M3 := by
        rw [B_63_8 _ _ _ _ t12, if_neg b0, h2, bI_s, if_neg (by decide), s100 h3, bI_s, if_pos gp, if_pos rfl, wL]
      have e2 : ∀ R', RX f n p' R' → run 4 233 46 [.inr (some 53), .inl x, .inl 1] [] R' = bI (fnA 205 [.inr (some 53), .inl 59] R') fun w1 M1 => if w1 = 0 then run 4 233 46 [.inr (some 53), .inl x, .inl 0] [] M1 else bI (fnA 232 [.inr (some 53)] M1) fun w2 M2 => if w2 = 0 then run 4 233 46 [.inr (some 53), .inl x, .inl 0] [] M2 else run 4 233 46 [.inr (some 53), .inl x, .inl 1] [] M2 := fun R' hR => by
        rw [B_233_46, if_neg (by decide), hR.1, hR.2.1, if_neg (by omega)]
      by_cases gc : f p' = 59
      case neg =>
        refine Or.inl ⟨flt 1 p', upM M' 2 5 (flt 1 p'), flt_n (by decide), ?_, h8.u2 (by omega), fun R hR => ?_⟩
        · rw [e1, s105 hf h3 (by omega), if_neg gc, bI_s, if_pos rfl, up_s]
        · obtain ⟨R', r1, r2, r3, r4, r5⟩ := h9 R hR
          refine ⟨R', 1, r1, Or.inr rfl, upM R' 53 7 (flt 1 p'), ?_, up_s, r5.u rfl⟩
          rw [e2 R' r2, s205 hf r2 (by omega), if_neg gc, bI_s, if_pos rfl, B_233_46, if_pos rfl]
      have hX2 : CX f n (p' + 1) (upM M' 2 3 ((p' + 1 : Nat) : Int)) := h3.st (p' + 1)
      have hC2 : TC (upM M' 2 3 ((p' + 1 : Nat) : Int)) 12 T' := h4.mv (up_ne (by decide)) (up_ne (by decide)) (up_ne (by decide)) (up_ne (by decide))
      have e1' : run 5 63 8 [.inr (some 16), .inr (some 2), .inl x, .inr (some 12), .inl (L : Int)] [] M = run 5 63 8 [.inr (some 16), .inr (some 2), .inl x, .inr (some 12), .inl ((L + 1 : Nat) : Int)] [] (upM M' 2 3 ((p' + 1 : Nat) : Int)) := by
        rw [e1, s105 hf h3 (by omega), if_pos gc, bI_s, if_neg (by decide)]
      have hRR : ∀ R, RLn f n T p L R → ∃ R' R1, fnA 232 [.inr (some 53)] R = some (some (.inl 1), R') ∧ RF PR DR R R1 ∧ RLn f n T' (p' + 1) (L + 1) R1 ∧ run 4 233 46 [.inr (some 53), .inl x, .inl 1] [] R' = bI (fnA 232 [.inr (some 53)] R1) fun w2 M2 => if w2 = 0 then run 4 233 46 [.inr (some 53), .inl x, .inl 0] [] M2 else run 4 233 46 [.inr (some 53), .inl x, .inl 1] [] M2 := fun R hR => by
        obtain ⟨R', r1, r2, r3, r4, r5⟩ := h9 R hR
        have hF : RF PR DR R (upM R' 53 5 ((p' + 1 : Nat) : Int)) := r5.u rfl
        refine ⟨R', upM R' 53 5 ((p' + 1 : Nat) : Int), r1, hF, ⟨r2.st (p' + 1), r3.mv (up_ne (by decide)), by rw [up_j (by decide)]; exact r4, ?_⟩, ?_⟩
        · obtain ⟨T0, t1, t2, t3⟩ := hR.2.2.2
          exact ⟨T0, t1.mv (hF.1 54 (by decide) rfl), t2, t3.trans h7.symm⟩
        · rw [e2 R' r2, s205 hf r2 (by omega), if_pos gc, bI_s, if_neg (by decide)]
      have hw : ∀ (w : Int) (R1 R2 : aM), (w = 0 ∨ w = 1) → fnA 232 [.inr (some 53)] R1 = some (some (.inl w), R2) → (bI (fnA 232 [.inr (some 53)] R1) fun w2 M2 => if w2 = 0 then run 4 233 46 [.inr (some 53), .inl x, .inl 0] [] M2 else run 4 233 46 [.inr (some 53), .inl x, .inl 1] [] M2) = run 4 233 46 [.inr (some 53), .inl x, .inl w] [] R2 := fun w R1 R2 hw h => by
        rw [h, bI_s]
        rcases hw with rfl | rfl
        · rw [if_pos rfl]
        · rw [if_neg (by decide)]
      rcases ih (p' + 1) (L + 1) T' _ (by omega) gp hX2 hC2 h5 h6 with ⟨e, M3, q1, q2, q3, q4⟩ | ⟨T3, M3, c, q1, q2, q3, q4, q5, q6⟩
      · refine Or.inl ⟨e, M3, q1, e1'.trans q2, (h8.u2 (by omega)).tr q3, fun R hR => ?_⟩
        obtain ⟨R', R1, a1, a2, a3, a4⟩ := hRR R hR
        obtain ⟨R2, w, b1, b2, R3, b3, b4, b5⟩ := q4 R1 a3
        exact ⟨R', 1, a1, Or.inr rfl, R3, a4.trans ((hw w R1 R2 b2 b1).trans b3), b4, a2.tr b5⟩
      · refine Or.inr ⟨T3, M3, c, e1'.trans q1, q2, q3, q4, (h8.u2 (by omega)).tr q5, fun R hR => ?_⟩
        obtain ⟨R', R1, a1, a2, a3, a4⟩ := hRR R hR
        obtain ⟨R2, w, b1, b2, R3, b3, b4, b5, b6⟩ := q6 R1 a3
        exact ⟨R', 1, a1, Or.inr rfl, R3, a4.trans ((hw w R1 R2 b2 b1).trans b3), b4, b5, a2.tr b6⟩
def txf (M : aM) (n : Nat) (i : Nat) : Int := if i < n then M 3 i else -1
set_option maxHeartbeats 300000 in
theorem txf_ok {M : aM} {m n : Nat} (hm : TP M m) (hn : n ≤ m) (h240 : n ≤ 240) : FT (txf M n) n := by
  refine ⟨h240, fun i hi => ?_, fun i hi => ?_⟩
  · have := (hm.2.2.2 i (by omega)).2
    unfold txf; rw [if_pos hi]; exact this
  · unfold txf; rw [if_neg (by omega)]
set_option maxHeartbeats 300000 in
theorem c_ledger {W : aM → Prop} (hW : WM W) (x : Int) : OK2 W 138 233 [.inl x] := fun M hI _ => by
  obtain ⟨T, hC, hR, hT, hZ⟩ := hI.1
  obtain ⟨m, hm⟩ := hI.2.2.1
  have m1 := hm.1
  have m2 := hm.2.1
  have m3 := hm.2.2.1
  by_cases hx : 1 ≤ x ∧ x ≤ 120
  case neg =>
    refine ⟨-1, M, M, ?_, ?_, hI, rfl⟩
    · rw [E_138]
      by_cases h1 : x < 1
      · rw [if_pos h1]
      · rw [if_neg h1, if_pos (by omega)]
    · rw [E_233, s181, bI_s, bI1_f hx, if_pos rfl]
  by_cases hxm : x ≤ (m : Int)
  case neg =>
    refine ⟨-1, M, M, ?_, ?_, hI, rfl⟩
    · rw [E_138, if_neg (by omega), if_neg (by omega), if_neg (by omega)]
    · rw [E_233, s181, bI_s, bI1_t hx, if_neg (by decide), if_neg (by omega)]
  obtain ⟨n, hn, rfl⟩ : ∃ n : Nat, n ≤ 120 ∧ x = (n : Int) := ⟨x.toNat, by omega, by omega⟩
  have hf := txf_ok hm (n := n) (by omega) (by omega)
  obtain ⟨M1, a1, a2, a3⟩ := s108 t12 (Or.inl rfl) (by decide : 12 ≠ 4) M
  have hm1 : ∀ q, q ≠ 12 → q ≠ 13 → q ≠ 14 → q ≠ 15 → M1 q = M q := a3
  let M2 := upM (upM (upM M1 2 2 (n : Int)) 2 3 0) 2 5 0
  have hM2 : ∀ q, q ≠ 2 → q ≠ 12 → q ≠ 13 → q ≠ 14 → q ≠ 15 → M2 q = M q := fun q b1 b2 b3 b4 b5 => by
    show upM (upM (upM M1 2 2 (n : Int)) 2 3 0) 2 5 0 q = M q
    rw [up_ne b1, up_ne b1, up_ne b1]; exact hm1 q b2 b3 b4 b5
  have hM21 : M2 2 1 = (m : Int) := by
    show upM (upM (upM M1 2 2 (n : Int)) 2 3 0) 2 5 0 2 1 = _
    rw [up_j (by decide), up_j (by decide), up_j (by decide), hm1 2 (by decide) (by decide) (by decide) (by decide)]; exact m1
  have hX : CX (txf M n) n 0 M2 := by
    refine ⟨?_, ?_, fun i hi => ?_, m, hM21, by omega, m3⟩
    · show upM (upM (upM M1 2 2 (n : Int)) 2 3 0) 2 5 0 2 2 = _
      rw [up_j (by decide), up_j (by decide), up_s]
    · show upM (upM (upM M1 2 2 (n : Int)) 2 3 0) 2 5 0 2 3 = _
      rw [up_j (by decide), up_s]; rfl
    · rw [hM2 3 (by decide) (by decide) (by decide) (by decide) (by decide)]
      unfold txf; rw [if_pos hi]
  have hC2 : TC M2 12 T := (a2 T hC).mv (by show upM (upM (upM M1 2 2 (n : Int)) 2 3 0) 2 5 0 12 = _; rw [up_ne (by decide), up_ne (by decide), up_ne (by decide)]) (by show upM (upM (upM M1 2 2 (n : Int)) 2 3 0) 2 5 0 13 = _; rw [up_ne (by decide), up_ne (by decide), up_ne (by decide)]) (by show upM (upM (upM M1 2 2 (n : Int)) 2 3 0) 2 5 0 14 = _; rw [up_ne (by decide), up_ne (by decide), up_ne (by decide)]) (by show upM (upM (upM M1 2 2 (n : Int)) 2 3 0) 2 5 0 15 = _; rw [up_ne (by decide), up_ne (by decide), up_ne (by decide)])
  have e63 : fnA 63 [.inr (some 16), .inr (some 2), .inl (n : Int), .inr (some 12)] M1 = run 5 63 8 [.inr (some 16), .inr (some 2), .inl (n : Int), .inr (some 12), .inl 0] [] M2 := by
    rw [E_63 _ _ _ t12, E_99, bV_s]
  have eC : fnA 138 [.inr (some 1), .inl (n : Int)] M = bI (run 5 63 8 [.inr (some 16), .inr (some 2), .inl (n : Int), .inr (some 12), .inl 0] [] M2) fun w2 M2 => bV (fnA 94 [.inr (some 2)] M2) fun M3 => if w2 < 0 then some (some (.inl w2), M3) else bV (fnA 108 [.inr (some 4), .inr (some 12)] M3) fun M4 => some (some (.inl w2), M4) := by
    rw [E_138, if_neg (by omega), if_neg (by omega), if_pos (by omega), a1, bV_s, e63]
  -- the reference begins
  have eR : ∀ N : aM, N 53 4 = (m : Int) → N 54 = M 54 → N 57 = M 57 → ∃ R0, RLn (txf M n) n T 0 0 R0 ∧ fnA 233 [.inr (some 53), .inl (n : Int)] N = bI (fnA 232 [.inr (some 53)] R0) (fun w4 M4 => run 4 233 46 [.inr (some 53), .inl (n : Int), .inl w4] [] M4) ∧ (∀ q, q ≠ 53 → q ≠ 71 → R0 q = N q) ∧ R0 53 49 = N 53 49 ∧ R0 53 13 = N 53 13 := fun N h4 h54 h57 => by
    obtain ⟨R0, b1, b2, b3⟩ := s186 (a := 54) (b := 71) (Or.inl rfl) (Or.inr (Or.inr (Or.inr rfl))) (by decide) (upM (upM (upM (upM (upM N 53 5 0) 53 6 (n : Int)) 53 10 0) 53 12 0) 53 28 0)
    have h53 : ∀ j, R0 53 j = upM (upM (upM (upM (upM N 53 5 0) 53 6 (n : Int)) 53 10 0) 53 12 0) 53 28 0 53 j := fun j => by rw [b3 53 (by decide)]
    have hq : ∀ q, q ≠ 53 → q ≠ 71 → R0 q = N q := fun q q1 q2 => by rw [b3 q q2, up_ne q1, up_ne q1, up_ne q1, up_ne q1, up_ne q1]
    refine ⟨R0, ⟨⟨?_, ?_, fun i hi => ?_⟩, ?_, ?_, T, ?_, hT, rfl⟩, ?_, hq, ?_, ?_⟩
    · rw [h53, up_j (by decide), up_j (by decide), up_j (by decide), up_s]
    · rw [h53, up_j (by decide), up_j (by decide), up_j (by decide), up_j (by decide), up_s]; rfl
    · rw [hq 57 (by decide) (by decide), h57, ← (hm.2.2.2 i (by omega)).1]
      unfold txf; rw [if_pos hi]
    · intro j hj
      rw [b2 j hj, up_o (by decide), up_o (by decide), up_o (by decide), up_o (by decide), up_o (by decide), h54]; exact hR j hj
    · rw [h53, up_s]; rfl
    · exact hR.mv (by rw [hq 54 (by decide) (by decide), h54])
    · rw [E_233, s181, bI_s, bI1_t hx, if_neg (by decide), h4, if_pos (by omega), E_222, bV_s, b1, bV_s]
    · rw [h53, up_j (by decide), up_j (by decide), up_j (by decide), up_j (by decide), up_j (by decide)]
    · rw [h53, up_j (by decide), up_j (by decide), up_j (by decide), up_j (by decide), up_j (by decide)]
  have z0 : run 5 63 8 [.inr (some 16), .inr (some 2), .inl (n : Int), .inr (some 12), .inl 0] [] M2 = run 5 63 8 [.inr (some 16), .inr (some 2), .inl (n : Int), .inr (some 12), .inl ((0 : Nat) : Int)] [] M2 := rfl
  have hk : ∀ q, keepQ q = true → q ≠ 2 ∧ q ≠ 12 ∧ q ≠ 13 ∧ q ≠ 14 ∧ q ≠ 15 ∧ q ≠ 16 ∧ q ≠ 53 ∧ q ≠ 71 := fun q hq => by
    refine ⟨?_, ?_, ?_, ?_, ?_, ?_, ?_, ?_⟩ <;> (intro e; subst e; exact absurd hq (by decide))
  rcases sloop hf (n : Int) 20 0 0 T M2 (by omega) (Nat.zero_le _) hX hC2 hT hZ with ⟨e, M3, q1, q2, q3, q4⟩ | ⟨T', M3, c, q1, q2, q3, q4, q5, q6⟩
  · have hM3 : ∀ q, q ≠ 2 → ¬ (12 ≤ q ∧ q ≤ 16) → M3 q = M q := fun q b1 b2 => by
      rw [q3.1 q b1 (by unfold PL; simpa using b2)]; exact hM2 q b1 (by omega) (by omega) (by omega) (by omega)
    obtain ⟨R0, r1, r2, r3, r4, r5⟩ := eR (upM M3 2 1 0) (by rw [up_o (by decide), hM3 53 (by decide) (by decide)]; exact m2) (by rw [up_ne (by decide)]; exact hM3 54 (by decide) (by decide)) (by rw [up_ne (by decide)]; exact hM3 57 (by decide) (by decide))
    obtain ⟨R1, w, s1, s2, R2, s3, s4, s5⟩ := q4 R0 r1
    have h53 : ∀ j, DR j = false → j ≠ 4 → upM R2 53 4 0 53 j = R0 53 j := fun j hj h4 => by rw [up_j h4]; exact s5.2 j hj
    have hq2 : ∀ q, q ≠ 2 → ¬ (12 ≤ q ∧ q ≤ 16) → q ≠ 53 → q ≠ 71 → upM R2 53 4 0 q = M q := fun q b1 b2 b3 b4 => by
      rw [up_ne b3, s5.1 q b3 (by unfold PR; simpa using b4), r3 q b3 b4, up_ne b1]; exact hM3 q b1 b2
    refine ⟨e, upM M3 2 1 0, upM R2 53 4 0, ?_, ?_, ?_, hq2 0 (by decide) (by decide) (by decide) (by decide)⟩
    · rw [eC, z0, q2, bI_s, E_94, bV_s, if_pos q1]
    · rw [r2, s1, bI_s, s3, B_233_86, if_pos rfl, up_j (by decide), s4]
    · refine INV.town hW hI (hI.1.mv (fun q b1 b2 => hq2 q (by omega) (by omega) (by omega) (by omega)) (hq2 54 (by decide) (by decide) (by decide) (by decide))) (fun q b1 _ _ => ?_) (by rw [hq2 1 (by decide) (by decide) (by decide) (by decide)]) ?_ ?_ (Or.inr ⟨?_, up_s⟩)
      · obtain ⟨k1, k2, k3, k4, k5, k6, k7, k8⟩ := hk q b1
        exact hq2 q k1 (by omega) k7 k8
      · rw [h53 49 rfl (by decide), r4, up_o (by decide), hM3 53 (by decide) (by decide)]
      · rw [h53 13 rfl (by decide), r5, up_o (by decide), hM3 53 (by decide) (by decide)]
      · rw [up_o (by decide), s5.1 2 (by decide) rfl, r3 2 (by decide) (by decide), up_s]
  · have hM3 : ∀ q, q ≠ 2 → ¬ (12 ≤ q ∧ q ≤ 16) → M3 q = M q := fun q b1 b2 => by
      rw [q5.1 q b1 (by unfold PL; simpa using b2)]; exact hM2 q b1 (by omega) (by omega) (by omega) (by omega)
    obtain ⟨M4, d1, d2, d3⟩ := s108 (k := 4) (t := 12) (Or.inl rfl) t12 (by decide : 4 ≠ 12) (upM M3 2 1 0)
    have hM4 : ∀ q, q ≠ 2 → ¬ (12 ≤ q ∧ q ≤ 16) → ¬ (4 ≤ q ∧ q ≤ 7) → M4 q = M q := fun q b1 b2 b3 => by
      rw [d3 q (by omega) (by omega) (by omega) (by omega), up_ne b1]; exact hM3 q b1 b2
    have hC4 : TC M4 4 T' := d2 T' (q2.mv (up_ne (by decide)) (up_ne (by decide)) (up_ne (by decide)) (up_ne (by decide)))
    obtain ⟨R0, r1, r2, r3, r4, r5⟩ := eR M4 (by rw [hM4 53 (by decide) (by decide) (by decide)]; exact m2) (hM4 54 (by decide) (by decide) (by decide)) (hM4 57 (by decide) (by decide) (by decide))
    obtain ⟨R1, w, s1, s2, R2, s3, s4, s5, s6⟩ := q6 R0 r1
    obtain ⟨R3, t1, t2, t3⟩ := s186 (a := 71) (b := 54) (Or.inr (Or.inr (Or.inr rfl))) (Or.inl rfl) (by decide) (upM R2 53 4 0)
    have hq2 : ∀ q, q ≠ 2 → ¬ (12 ≤ q ∧ q ≤ 16) → ¬ (4 ≤ q ∧ q ≤ 7) → q ≠ 53 → q ≠ 71 → q ≠ 54 → R3 q = M q := fun q b1 b2 b3 b4 b5 b6 => by
      rw [t3 q b6, up_ne b4, s6.1 q b4 (by unfold PR; simpa using b5), r3 q b4 b5]; exact hM4 q b1 b2 b3
    have h53 : ∀ j, DR j = false → j ≠ 4 → R3 53 j = R0 53 j := fun j hj h4 => by rw [t3 53 (by decide), up_j h4]; exact s6.2 j hj
    have hC3 : TC R3 4 T' := by
      have hh : ∀ q, 4 ≤ q → q ≤ 7 → R3 q = M4 q := fun q b1 b2 => by rw [t3 q (by omega), up_ne (by omega), s6.1 q (by omega) (by unfold PR; simp; omega), r3 q (by omega) (by omega)]
      exact hC4.mv (hh 4 (by decide) (by decide)) (hh 5 (by decide) (by decide)) (hh 6 (by decide) (by decide)) (hh 7 (by decide) (by decide))
    have hR3 : TR R3 54 T' := TR.cp (a := 71) (M := upM R2 53 4 0) (s4.mv (up_ne (by decide))) t2
    refine ⟨(c : Int), M4, R3, ?_, ?_, ?_, hq2 0 (by decide) (by decide) (by decide) (by decide) (by decide) (by decide)⟩
    · rw [eC, z0, q1, bI_s, E_94, bV_s, if_neg (by omega), d1, bV_s]
    · rw [r2, s1, bI_s, s3, B_233_86, if_neg (by decide), t1, bV_s, t3 53 (by decide), up_j (by decide), s5]
    · refine INV.town hW hI ⟨T', hC3, hR3, q3, q4⟩ (fun q b1 b2 b3 => ?_) (by rw [hq2 1 (by decide) (by decide) (by decide) (by decide) (by decide) (by decide)]) ?_ ?_ (Or.inr ⟨?_, ?_⟩)
      · obtain ⟨k1, k2, k3, k4, k5, k6, k7, k8⟩ := hk q b1
        exact hq2 q k1 (by omega) b2 k7 k8 b3
      · rw [h53 49 rfl (by decide), r4, hM4 53 (by decide) (by decide) (by decide)]
      · rw [h53 13 rfl (by decide), r5, hM4 53 (by decide) (by decide) (by decide)]
      · rw [t3 2 (by decide), up_o (by decide), s6.1 2 (by decide) rfl, r3 2 (by decide) (by decide), d3 2 (by decide) (by decide) (by decide) (by decide), up_s]
      · rw [t3 53 (by decide), up_s]
end LDC
