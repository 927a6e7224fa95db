/-! ledger: a line, from its first sign on. -/
section LDN
variable {f : Nat → Int} {n : Nat} {T : Nat → Int}
set_option maxHeartbeats 300000 in
theorem LN.go {L : Nat} {M M1 : aM} {cl cl' : aX} {P P1 : aM → Prop} {rf rf1 : aM → aX} (h : LN f n T L M1 cl' P1 rf1) (hc : cl = cl') (hF : CF PL M M1) (hr : ∀ R, P R → ∃ R1, RF PR DR R R1 ∧ P1 R1 ∧ rf R = rf1 R1) : LN f n T L M cl P rf := by
  rcases h with ⟨e, M', h1, h2, h3, h4, h5⟩ | ⟨p', T', M', h1, h2, h3, h4, h5, h6, h7, h8, h9⟩
  · refine Or.inl ⟨e, M', h1, hc.trans h2, h3, hF.tr h4, fun R hR => ?_⟩
    obtain ⟨R1, r1, r2, r3⟩ := hr R hR
    obtain ⟨R', q1, q2, q3⟩ := h5 R1 r2
    exact ⟨R', r3.trans q1, q2, r1.tr q3⟩
  · refine Or.inr ⟨p', T', M', h1, hc.trans h2, h3, h4, h5, h6, h7, hF.tr h8, fun R hR => ?_⟩
    obtain ⟨R1, r1, r2, r3⟩ := hr R hR
    obtain ⟨R', q1, q2, q3, q4, q5⟩ := h9 R1 r2
    exact ⟨R', r3.trans q1, q2, q3, q4, r1.tr q5⟩
set_option maxHeartbeats 300000 in
theorem s229 {R : aM} {p : Nat} (hf : FT f n) (hX : RX f n p R) (hp : p < 900) : fnA 229 [.inr (some 53)] R = if 0 ≤ f p - 97 ∧ f p - 97 ≤ 7 then some (some (.inl 1), upM R 53 8 (f p - 97)) else some (some (.inl 0), upM R 53 7 (flt 1 p)) := by
  have hb := hf.b p
  have w : wr (f p - 97) = f p - 97 := wr_s (by omega) (by omega)
  rw [E_229, s202 hf hX, bI_s, w, s181, bI_s]
  by_cases g : 0 ≤ f p - 97 ∧ f p - 97 ≤ 7
  · rw [bI1_t g, if_neg (by decide), if_pos g]
  · have h204 := s204 (k := 1) (p := p) (by decide) (by omega) R
    have h204' : fnA 204 [.inr (some 53), .inl 1, .inl (p : Int)] R = some (some (.inl 0), upM R 53 7 (flt 1 p)) := h204
    rw [bI1_f g, if_pos rfl, hX.2.1, h204', bI_s, if_pos (Or.inl rfl), if_neg g]
/- the other one of a line -/
set_option maxHeartbeats 300000 in
theorem s65 {M : aM} {q b o : Nat} (hf : FT f n) (hT : TI T) (hX : CX f n q M) (hC : TC M 12 T) (hq : q < 900) (ho : f q - 97 = (o : Int)) (ho8 : o < 8) : fnA 65 [.inr (some 16), .inr (some 2), .inr (some 12), .inl (b : Int)] M = if (ok T).testBit o = true then (if (o : Int) = (b : Int) then some (some (.inl 0), upM (upM M 16 0 (o : Int)) 2 5 (flt 6 q)) else if f (q + 1) = 58 then some (some (.inl 1), upM (upM (upM M 16 0 (o : Int)) 2 3 ((q + 1 : Nat) : Int)) 2 3 ((q + 1 + 1 : Nat) : Int)) else some (some (.inl 0), upM (upM (upM M 16 0 (o : Int)) 2 3 ((q + 1 : Nat) : Int)) 2 5 (flt 1 (q + 1)))) else some (some (.inl 0), upM (upM M 16 0 (o : Int)) 2 5 (flt 7 q)) := by
  have w : wr (f q - 97) = (o : Int) := by rw [ho]; exact wr_s (by omega) (by omega)
  have hX1 : CX f n q (upM M 16 0 (o : Int)) := hX.o (by decide)
  have hC1 : TC (upM M 16 0 (o : Int)) 12 T := hC.mv (up_ne (by decide)) (up_ne (by decide)) (up_ne (by decide)) (up_ne (by decide))
  have h103 : ∀ k : Nat, k < 100 → fnA 103 [.inr (some 2), .inl (k : Int)] (upM M 16 0 (o : Int)) = some (some (.inl 0), upM (upM M 16 0 (o : Int)) 2 5 (flt k q)) := fun k hk => s103 hk (by omega) hX1.2.1
  have h7 : fnA 103 [.inr (some 2), .inl 7] (upM M 16 0 (o : Int)) = some (some (.inl 0), upM (upM M 16 0 (o : Int)) 2 5 (flt 7 q)) := h103 7 (by decide)
  have h6 : fnA 103 [.inr (some 2), .inl 6] (upM M 16 0 (o : Int)) = some (some (.inl 0), upM (upM M 16 0 (o : Int)) 2 5 (flt 6 q)) := h103 6 (by decide)
  rw [E_65 _ _ _ t12, s101 hf hX, bI_s, w, up_s, s177n ho8, bI_s, if_neg (by decide), up_s, s110 t12 hC1 hT, bI_s]
  by_cases g : (ok T).testBit o = true
  · rw [bI1_t ((tb_n ho8).mpr g), if_neg (by decide), up_s, if_pos g]
    by_cases g2 : (o : Int) = (b : Int)
    · rw [if_pos g2, if_pos g2, h6, bI_s, if_pos (Or.inl rfl)]
    · have hX2 : CX f n (q + 1) (upM (upM M 16 0 (o : Int)) 2 3 ((q + 1 : Nat) : Int)) := hX1.st (q + 1)
      rw [if_neg g2, if_neg g2, s102 (p := q) (by omega) hX1.2.1, bV_s, s105 hf hX2 (by omega)]
      by_cases g3 : f (q + 1) = 58
      · rw [if_pos g3, bI_s, if_pos (Or.inr rfl)]
      · rw [if_neg g3, bI_s, if_pos (Or.inl rfl)]
  · rw [bI1_f (fun z => g ((tb_n ho8).mp z)), if_pos rfl, if_neg g, h7, bI_s, if_pos (Or.inl rfl)]
set_option maxHeartbeats 300000 in
theorem sline (hf : FT f n) (hT : TI T) (hZ : TZ T) {p L : Nat} {M : aM} (hX : CX f n p M) (hC : TC M 12 T) (hp : p < 800) (hL : L ≤ 20) : LN f n T L M (fnA 64 [.inr (some 16), .inr (some 2), .inr (some 12), .inl (L : Int)] M) (RLn f n T p L) (fun R => fnA 232 [.inr (some 53)] R) := by
  have hb0 := hf.b p
  have w : wr (f p - 97) = f p - 97 := wr_s (by omega) (by omega)
  have h103 : ∀ (M : aM) (q k : Nat), q < 900 → k < 100 → M 2 3 = (q : Int) → fnA 103 [.inr (some 2), .inl (k : Int)] M = some (some (.inl 0), upM M 2 5 (flt k q)) := fun M q k hq hk h => s103 hk (by omega) h
  by_cases gb : 0 ≤ f p - 97 ∧ f p - 97 ≤ 7
  case neg =>
    have h1 : fnA 103 [.inr (some 2), .inl 1] M = some (some (.inl 0), upM M 2 5 (flt 1 p)) := h103 M p 1 (by omega) (by decide) hX.2.1
    refine LN.bad (k := 1) (q := p) (by decide) (M2 := M) ?_ CF.rf (fun R hR => ⟨R, RF.rf, ?_⟩)
    · rw [E_64 _ _ _ t12, s101 hf hX, bI_s, w, s177, bI_s, bI1_f (by omega), if_pos rfl, h1, bI_s, if_pos (Or.inl rfl)]
    · show fnA 232 _ R = _
      rw [E_232, s229 hf hR.1 (by omega), if_neg gb, bI_s, if_pos rfl]
  obtain ⟨b, hb8, hb⟩ : ∃ b : Nat, b < 8 ∧ f p - 97 = (b : Int) := ⟨(f p - 97).toNat, by omega, by omega⟩
  have ix : (f p - 97).toNat = b := by omega
  have rb : ∀ R, RX f n p R → fnA 229 [.inr (some 53)] R = some (some (.inl 1), upM R 53 8 (b : Int)) := fun R hR => by rw [s229 hf hR (by omega), if_pos gb, hb]
  by_cases gL : L < 20
  case neg =>
    have h4 : fnA 103 [.inr (some 2), .inl 4] M = some (some (.inl 0), upM M 2 5 (flt 4 p)) := h103 M p 4 (by omega) (by decide) hX.2.1
    refine LN.bad (k := 4) (q := p) (by decide) (M2 := M) ?_ CF.rf (fun R hR => ⟨upM R 53 8 (b : Int), RF.rf.u rfl, ?_⟩)
    · rw [E_64 _ _ _ t12, s101 hf hX, bI_s, w, hb, s177n hb8, bI_s, if_neg (by decide), if_neg (by omega), h4, bI_s, if_pos (Or.inl rfl)]
    · have h204 := s204 (k := 4) (p := p) (by decide) (by omega) (upM R 53 8 (b : Int))
      have h204' : fnA 204 [.inr (some 53), .inl 4, .inl (p : Int)] (upM R 53 8 (b : Int)) = some (some (.inl 0), upM (upM R 53 8 (b : Int)) 53 7 (flt 4 p)) := h204
      show fnA 232 _ R = _
      rw [E_232, rb R hR.1, bI_s, if_neg (by decide), up_j (by decide), if_pos (by rw [hR.2.2.1]; omega), up_j (by decide), hR.1.2.1, h204', bI_s, if_pos (Or.inl rfl)]
  have op : ∀ R, RLn f n T p L R → ∀ (M1 : aM) (o : Nat), o < 8 → M1 54 = R 54 → fnA 188 [.inr (some 53), .inl (o : Int)] M1 = some (some (.inl (if (ok T).testBit o = true then 1 else 0)), M1) := fun R hR M1 o ho h54 => by
    obtain ⟨T0, t1, t2, t3⟩ := hR.2.2.2
    rw [s188 (t1.mv h54) t2, t3]
    by_cases g : (ok T).testBit o = true
    · rw [bI1_t ((tb_n ho).mpr g), if_pos g]
    · rw [bI1_f (fun z => g ((tb_n ho).mp z)), if_neg g]
  have er0 : ∀ R, RLn f n T p L R → fnA 232 [.inr (some 53)] R = bI (fnA 188 [.inr (some 53), .inl (b : Int)] (upM R 53 8 (b : Int))) fun w2 M2 => if w2 = 0 then bI (fnA 204 [.inr (some 53), .inl 7, .inl (M2 53 5)] M2) fun w5 M5 => if w5 = 0 ∨ w5 = 1 then some (some (.inl w5), M5) else none else bI (fnA 202 [.inr (some 53)] (upM M2 53 5 (wr ((M2 53 5) + 1)))) fun w3 M3 => if w3 = 62 then run 3 232 106 [.inr (some 53), .inl (p : Int), .inl (b : Int), .inl w3, .inr none, .inr none] [] M3 else if w3 = 43 then run 3 232 106 [.inr (some 53), .inl (p : Int), .inl (b : Int), .inl w3, .inr none, .inr none] [] M3 else if w3 = 45 then run 3 232 106 [.inr (some 53), .inl (p : Int), .inl (b : Int), .inl w3, .inr none, .inr none] [] M3 else if w3 = 33 then run 3 232 106 [.inr (some 53), .inl (p : Int), .inl (b : Int), .inl w3, .inr none, .inr none] [] M3 else bI (fnA 204 [.inr (some 53), .inl 1, .inl (M3 53 5)] M3) fun w4 M4 => if w4 = 0 ∨ w4 = 1 then some (some (.inl w4), M4) else none := fun R hR => by
    have h28 := hR.2.2.1
    rw [E_232, rb R hR.1, bI_s, if_neg (by decide), up_j (by decide), if_neg (by rw [h28]; omega), up_s, hR.1.2.1]
  by_cases gob : (ok T).testBit b = true
  case neg =>
    have h7 : fnA 103 [.inr (some 2), .inl 7] M = some (some (.inl 0), upM M 2 5 (flt 7 p)) := h103 M p 7 (by omega) (by decide) hX.2.1
    refine LN.bad (k := 7) (q := p) (by decide) (M2 := M) ?_ CF.rf (fun R hR => ⟨upM R 53 8 (b : Int), RF.rf.u rfl, ?_⟩)
    · rw [E_64 _ _ _ t12, s101 hf hX, bI_s, w, hb, s177n hb8, bI_s, if_neg (by decide), if_pos (by omega), s110 t12 hC hT, bI_s, bI1_f (fun z => gob ((tb_n hb8).mp z)), if_pos rfl, h7, bI_s, if_pos (Or.inl rfl)]
    · have h204 := s204 (k := 7) (p := p) (by decide) (by omega) (upM R 53 8 (b : Int))
      have h204' : fnA 204 [.inr (some 53), .inl 7, .inl (p : Int)] (upM R 53 8 (b : Int)) = some (some (.inl 0), upM (upM R 53 8 (b : Int)) 53 7 (flt 7 p)) := h204
      show fnA 232 _ R = _
      rw [er0 R hR, op R hR _ b hb8 (up_ne (by decide)), bI_s, if_neg gob, if_pos rfl, up_j (by decide), hR.1.2.1, h204', bI_s, if_pos (Or.inl rfl)]
  -- the kind
  have hX4 : CX f n (p + 1) (upM M 2 3 ((p + 1 : Nat) : Int)) := hX.st (p + 1)
  have hF4 : CF PL M (upM M 2 3 ((p + 1 : Nat) : Int)) := CF.rf.u2 (by omega)
  have ec0 : fnA 64 [.inr (some 16), .inr (some 2), .inr (some 12), .inl (L : Int)] M = if f (p + 1) = 62 then run 4 64 86 [.inr (some 16), .inr (some 2), .inr (some 12), .inl (L : Int), .inl (p : Int), .inl (b : Int), .inl (f (p + 1)), .inr none] [.inl 1] (upM M 2 3 ((p + 1 : Nat) : Int)) else if f (p + 1) = 33 then run 4 64 86 [.inr (some 16), .inr (some 2), .inr (some 12), .inl (L : Int), .inl (p : Int), .inl (b : Int), .inl (f (p + 1)), .inr none] [.inl 1] (upM M 2 3 ((p + 1 : Nat) : Int)) else run 4 64 86 [.inr (some 16), .inr (some 2), .inr (some 12), .inl (L : Int), .inl (p : Int), .inl (b : Int), .inl (f (p + 1)), .inr none] [.inl 0] (upM M 2 3 ((p + 1 : Nat) : Int)) := by
    rw [E_64 _ _ _ t12, s101 hf hX, bI_s, w, hb, s177n hb8, bI_s, if_neg (by decide), if_pos (by omega), s110 t12 hC hT, bI_s, bI1_t ((tb_n hb8).mpr gob), if_neg (by decide), s102 (by omega) hX.2.1, bV_s, s101 hf hX4, bI_s, hX.2.1]
  have er1 : ∀ R, RLn f n T p L R → ∃ R3, R3 = upM (upM R 53 8 (b : Int)) 53 5 ((p + 1 : Nat) : Int) ∧ RX f n (p + 1) R3 ∧ RF PR DR R R3 ∧ fnA 232 [.inr (some 53)] R = if f (p + 1) = 62 then run 3 232 106 [.inr (some 53), .inl (p : Int), .inl (b : Int), .inl (f (p + 1)), .inr none, .inr none] [] R3 else if f (p + 1) = 43 then run 3 232 106 [.inr (some 53), .inl (p : Int), .inl (b : Int), .inl (f (p + 1)), .inr none, .inr none] [] R3 else if f (p + 1) = 45 then run 3 232 106 [.inr (some 53), .inl (p : Int), .inl (b : Int), .inl (f (p + 1)), .inr none, .inr none] [] R3 else if f (p + 1) = 33 then run 3 232 106 [.inr (some 53), .inl (p : Int), .inl (b : Int), .inl (f (p + 1)), .inr none, .inr none] [] R3 else bI (fnA 204 [.inr (some 53), .inl 1, .inl (R3 53 5)] R3) fun w4 M4 => if w4 = 0 ∨ w4 = 1 then some (some (.inl w4), M4) else none := fun R hR => by
    have hX3 : RX f n (p + 1) (upM (upM R 53 8 (b : Int)) 53 5 ((p + 1 : Nat) : Int)) := (hR.1.o (by decide)).st (p + 1)
    refine ⟨_, rfl, hX3, (RF.rf.u rfl).u rfl, ?_⟩
    rw [er0 R hR, op R hR _ b hb8 (up_ne (by decide)), bI_s, if_pos gob, if_neg (by decide), up_j (by decide), hR.1.2.1, w1p (by omega), s202 hf hX3, bI_s]
  by_cases gk : kd (f (p + 1))
  case neg =>
    have k1 : ¬ f (p + 1) = 33 := fun z => gk (Or.inl z)
    have k2 : ¬ f (p + 1) = 62 := fun z => gk (Or.inr (Or.inl z))
    have k3 : ¬ f (p + 1) = 43 := fun z => gk (Or.inr (Or.inr (Or.inl z)))
    have k4 : ¬ f (p + 1) = 45 := fun z => gk (Or.inr (Or.inr (Or.inr z)))
    have h1 : fnA 103 [.inr (some 2), .inl 1] (upM M 2 3 ((p + 1 : Nat) : Int)) = some (some (.inl 0), upM (upM M 2 3 ((p + 1 : Nat) : Int)) 2 5 (flt 1 (p + 1))) := h103 _ (p + 1) 1 (by omega) (by decide) up_s
    refine LN.bad (k := 1) (q := p + 1) (by decide) (M2 := upM M 2 3 ((p + 1 : Nat) : Int)) ?_ hF4 (fun R hR => ?_)
    · rw [ec0, if_neg k2, if_neg k1, B_64_86 _ _ _ _ _ _ _ t12, if_pos rfl, if_neg k3, if_neg k4, h1, bI_s, if_pos (Or.inl rfl)]
    · obtain ⟨R3, r0, r1, r2, r3⟩ := er1 R hR
      have h204 := s204 (k := 1) (p := p + 1) (by decide) (by omega) R3
      have h204' : fnA 204 [.inr (some 53), .inl 1, .inl ((p + 1 : Nat) : Int)] R3 = some (some (.inl 0), upM R3 53 7 (flt 1 (p + 1))) := h204
      refine ⟨R3, r2, ?_⟩
      show fnA 232 _ R = _
      rw [r3, if_neg k2, if_neg k3, if_neg k4, if_neg k1, r1.2.1, h204', bI_s, if_pos (Or.inl rfl)]
  have er2 : ∀ R, RLn f n T p L R → ∃ R3, R3 = upM (upM R 53 8 (b : Int)) 53 5 ((p + 1 : Nat) : Int) ∧ RX f n (p + 1) R3 ∧ RF PR DR R R3 ∧ fnA 232 [.inr (some 53)] R = run 3 232 106 [.inr (some 53), .inl (p : Int), .inl (b : Int), .inl (f (p + 1)), .inr none, .inr none] [] R3 := fun R hR => by
    obtain ⟨R3, r0, r1, r2, r3⟩ := er1 R hR
    refine ⟨R3, r0, r1, r2, r3.trans ?_⟩
    by_cases k2 : f (p + 1) = 62
    · rw [if_pos k2]
    · rw [if_neg k2]
      by_cases k3 : f (p + 1) = 43
      · rw [if_pos k3]
      · rw [if_neg k3]
        by_cases k4 : f (p + 1) = 45
        · rw [if_pos k4]
        · rw [if_neg k4]
          have k1 : f (p + 1) = 33 := by
            rcases gk with z | z | z | z
            · exact z
            · exact absurd z k2
            · exact absurd z k3
            · exact absurd z k4
          rw [if_pos k1]
  have hX5 : CX f n (p + 2) (upM (upM M 2 3 ((p + 1 : Nat) : Int)) 2 3 ((p + 2 : Nat) : Int)) := hX4.st (p + 2)
  have hF5 : CF PL M (upM (upM M 2 3 ((p + 1 : Nat) : Int)) 2 3 ((p + 2 : Nat) : Int)) := hF4.u2 (by omega)
  have hC5 : TC (upM (upM M 2 3 ((p + 1 : Nat) : Int)) 2 3 ((p + 2 : Nat) : Int)) 12 T := hC.mv (by rw [up_ne (by decide), up_ne (by decide)]) (by rw [up_ne (by decide), up_ne (by decide)]) (by rw [up_ne (by decide), up_ne (by decide)]) (by rw [up_ne (by decide), up_ne (by decide)])
  have e113 : ∀ x7 : Int, run 4 64 113 [.inr (some 16), .inr (some 2), .inr (some 12), .inl (L : Int), .inl (p : Int), .inl (b : Int), .inl (f (p + 1)), .inl x7] [] (upM M 2 3 ((p + 1 : Nat) : Int)) = if x7 = 0 then run 4 64 135 [.inr (some 16), .inr (some 2), .inr (some 12), .inl (L : Int), .inl (p : Int), .inl (b : Int), .inl (f (p + 1)), .inl x7] [] (upM (upM M 2 3 ((p + 1 : Nat) : Int)) 2 3 ((p + 2 : Nat) : Int)) else bI (fnA 65 [.inr (some 16), .inr (some 2), .inr (some 12), .inl (b : Int)] (upM (upM M 2 3 ((p + 1 : Nat) : Int)) 2 3 ((p + 2 : Nat) : Int))) fun w2 M2 => if w2 = 0 then some (some (.inl 0), M2) else run 4 64 135 [.inr (some 16), .inr (some 2), .inr (some 12), .inl (L : Int), .inl (p : Int), .inl (b : Int), .inl (f (p + 1)), .inl x7] [] M2 := fun x7 => by
    rw [B_64_113 _ _ _ _ _ _ _ t12, s102 (p := p + 1) (by omega) up_s, bV_s]
  have hRk : ∀ R3 : aM, RX f n (p + 1) R3 → R3 53 5 = ((p + 1 : Nat) : Int) ∧ wr (R3 53 5 + 1) = ((p + 2 : Nat) : Int) := fun R3 h => ⟨h.2.1, by rw [h.2.1]; exact w1p (a := p + 1) (by omega)⟩
  by_cases gt : f (p + 1) = 33 ∨ f (p + 1) = 62
  case neg =>
    have k1 : ¬ f (p + 1) = 33 := fun z => gt (Or.inl z)
    have k2 : ¬ f (p + 1) = 62 := fun z => gt (Or.inr z)
    have hfin := lfin hf hT hZ (p := p) (q := p + 2) (b := b) (o := b) (L := L) (k := f (p + 1)) (x7 := 0) hX5 hC5 (by omega) (by omega) hb8 hb8 gL gob (fun z => absurd z gt) gk
    refine hfin.go ?_ hF5 (fun R hR => ?_)
    · rw [ec0, if_neg k2, if_neg k1, B_64_86 _ _ _ _ _ _ _ t12, if_pos rfl]
      have e0 := e113 0
      rw [if_pos rfl] at e0
      rcases gk with z | z | z | z
      · exact absurd z k1
      · exact absurd z k2
      · rw [if_pos z]; exact e0
      · rw [if_neg (by rw [z]; decide), if_pos z]; exact e0
    · obtain ⟨R3, r0, r1, r2, r3⟩ := er2 R hR
      have hk2 := hRk R3 r1
      refine ⟨upM R3 53 5 ((p + 2 : Nat) : Int), r2.u rfl, ⟨r1.st (p + 2), ?_, ?_⟩, ?_⟩
      · rw [r0]; exact hR.2.1.mv (by rw [up_ne (by decide), up_ne (by decide), up_ne (by decide)])
      · rw [r0, up_j (by decide), up_j (by decide), up_j (by decide)]; exact hR.2.2.1
      · show fnA 232 _ R = _
        rw [r3, B_232_106, if_neg k2, if_neg k1, hk2.2]
  -- two of them
  have ec2 : fnA 64 [.inr (some 16), .inr (some 2), .inr (some 12), .inl (L : Int)] M = bI (fnA 65 [.inr (some 16), .inr (some 2), .inr (some 12), .inl (b : Int)] (upM (upM M 2 3 ((p + 1 : Nat) : Int)) 2 3 ((p + 2 : Nat) : Int))) fun w2 M2 => if w2 = 0 then some (some (.inl 0), M2) else run 4 64 135 [.inr (some 16), .inr (some 2), .inr (some 12), .inl (L : Int), .inl (p : Int), .inl (b : Int), .inl (f (p + 1)), .inl 1] [] M2 := by
    have e1 := e113 1
    rw [if_neg (by decide)] at e1
    rw [ec0]
    by_cases k2 : f (p + 1) = 62
    · rw [if_pos k2, B_64_86 _ _ _ _ _ _ _ t12, if_neg (by decide)]; exact e1
    · rw [if_neg k2, if_pos (gt.resolve_right k2), B_64_86 _ _ _ _ _ _ _ t12, if_neg (by decide)]; exact e1
  have er3 : ∀ R, RLn f n T p L R → ∃ R4, RX f n (p + 2) R4 ∧ TR R4 71 T ∧ R4 53 28 = (L : Int) ∧ R4 54 = R 54 ∧ RF PR DR R R4 ∧ fnA 232 [.inr (some 53)] R = run 3 232 131 [.inr (some 53), .inl (p : Int), .inl (b : Int), .inl (f (p + 1)), .inl (b : Int), .inr none] [] R4 := fun R hR => by
    obtain ⟨R3, r0, r1, r2, r3⟩ := er2 R hR
    have hk2 := hRk R3 r1
    refine ⟨upM R3 53 5 ((p + 2 : Nat) : Int), r1.st (p + 2), ?_, ?_, ?_, r2.u rfl, ?_⟩
    · rw [r0]; exact hR.2.1.mv (by rw [up_ne (by decide), up_ne (by decide), up_ne (by decide)])
    · rw [r0, up_j (by decide), up_j (by decide), up_j (by decide)]; exact hR.2.2.1
    · rw [r0, up_ne (by decide), up_ne (by decide), up_ne (by decide)]
    · rw [r3, B_232_106]
      by_cases k2 : f (p + 1) = 62
      · rw [if_pos k2, hk2.2]
      · rw [if_neg k2, if_pos (gt.resolve_right k2), hk2.2]
  generalize hM5 : upM (upM M 2 3 ((p + 1 : Nat) : Int)) 2 3 ((p + 2 : Nat) : Int) = M5 at *
  have hb2 := hf.b (p + 2)
  have w2 : wr (f (p + 2) - 97) = f (p + 2) - 97 := wr_s (by omega) (by omega)
  by_cases go : 0 ≤ f (p + 2) - 97 ∧ f (p + 2) - 97 ≤ 7
  case neg =>
    have hX6 : CX f n (p + 2) (upM M5 16 0 (f (p + 2) - 97)) := hX5.o (by decide)
    have h1 : fnA 103 [.inr (some 2), .inl 1] (upM M5 16 0 (f (p + 2) - 97)) = some (some (.inl 0), upM (upM M5 16 0 (f (p + 2) - 97)) 2 5 (flt 1 (p + 2))) := h103 _ (p + 2) 1 (by omega) (by decide) hX6.2.1
    refine LN.bad (k := 1) (q := p + 2) (by decide) (M2 := upM M5 16 0 (f (p + 2) - 97)) ?_ (hF5.up (by decide) (PLp (by decide))) (fun R hR => ?_)
    · rw [ec2, E_65 _ _ _ t12, s101 hf hX5, bI_s, w2, up_s, s177, bI_s, bI1_f (by omega), if_pos rfl, h1, bI_s, if_pos (Or.inl rfl), bI_s, if_pos rfl]
    · obtain ⟨R4, r1, r2, r3, r4, r5, r6⟩ := er3 R hR
      refine ⟨R4, r5, ?_⟩
      show fnA 232 _ R = _
      rw [r6, B_232_131, s229 hf r1 (by omega), if_neg go, bI_s, if_pos rfl]
  obtain ⟨o, ho8, ho⟩ : ∃ o : Nat, o < 8 ∧ f (p + 2) - 97 = (o : Int) := ⟨(f (p + 2) - 97).toNat, by omega, by omega⟩
  have e65 := s65 (b := b) hf hT hX5 hC5 (by omega) ho ho8
  have er4 : ∀ R, RLn f n T p L R → ∃ R4, RX f n (p + 2) R4 ∧ TR R4 71 T ∧ R4 53 28 = (L : Int) ∧ RF PR DR R R4 ∧ fnA 232 [.inr (some 53)] R = if (ok T).testBit o = true then (if (o : Int) = (b : Int) then bI (fnA 204 [.inr (some 53), .inl 6, .inl ((p + 2 : Nat) : Int)] (upM R4 53 8 (o : Int))) fun w4 M4 => if w4 = 0 ∨ w4 = 1 then some (some (.inl w4), M4) else none else bI (fnA 205 [.inr (some 53), .inl 58] (upM (upM R4 53 8 (o : Int)) 53 5 ((p + 2 + 1 : Nat) : Int))) fun w3 M3 => if w3 = 0 then some (some (.inl 0), M3) else run 3 232 204 [.inr (some 53), .inl (p : Int), .inl (b : Int), .inl (f (p + 1)), .inl (o : Int), .inr none] [] M3) else bI (fnA 204 [.inr (some 53), .inl 7, .inl ((p + 2 : Nat) : Int)] (upM R4 53 8 (o : Int))) fun w5 M5 => if w5 = 0 ∨ w5 = 1 then some (some (.inl w5), M5) else none := fun R hR => by
    obtain ⟨R4, r1, r2, r3, r4, r5, r6⟩ := er3 R hR
    refine ⟨R4, r1, r2, r3, r5, ?_⟩
    rw [r6, B_232_131, s229 hf r1 (by omega), if_pos go, bI_s, if_neg (by decide), ho, up_s, op R hR _ o ho8 (by rw [up_ne (by decide)]; exact r4), bI_s]
    by_cases g : (ok T).testBit o = true
    · rw [if_pos g, if_neg (by decide), if_pos g]
      by_cases g2 : (o : Int) = (b : Int)
      · rw [if_pos g2, if_pos g2, up_j (by decide), r1.2.1]
      · rw [if_neg g2, if_neg g2, up_j (by decide), r1.2.1, w1p (by omega)]
    · rw [if_neg g, if_pos rfl, if_neg g, up_j (by decide), r1.2.1]
  have hF6 : CF PL M (upM M5 16 0 (o : Int)) := hF5.up (by decide) (PLp (by decide))
  have h204 : ∀ (k q : Nat) (R : aM), k < 100 → q < 1000 → fnA 204 [.inr (some 53), .inl (k : Int), .inl (q : Int)] R = some (some (.inl 0), upM R 53 7 (flt k q)) := fun k q R hk hq => s204 hk hq R
  by_cases goo : (ok T).testBit o = true
  case neg =>
    rw [if_neg goo] at e65
    refine LN.bad (k := 7) (q := p + 2) (by decide) (M2 := upM M5 16 0 (o : Int)) (by rw [ec2, e65, bI_s, if_pos rfl]) hF6 (fun R hR => ?_)
    obtain ⟨R4, r1, r2, r3, r5, r6⟩ := er4 R hR
    rw [if_neg goo] at r6
    have h7 : fnA 204 [.inr (some 53), .inl 7, .inl ((p + 2 : Nat) : Int)] (upM R4 53 8 (o : Int)) = _ := h204 7 (p + 2) _ (by decide) (by omega)
    refine ⟨upM R4 53 8 (o : Int), r5.u rfl, ?_⟩
    show fnA 232 _ R = _
    rw [r6, h7, bI_s, if_pos (Or.inl rfl)]
  rw [if_pos goo] at e65
  by_cases gs : (o : Int) = (b : Int)
  · rw [if_pos gs] at e65
    refine LN.bad (k := 6) (q := p + 2) (by decide) (M2 := upM M5 16 0 (o : Int)) (by rw [ec2, e65, bI_s, if_pos rfl]) hF6 (fun R hR => ?_)
    obtain ⟨R4, r1, r2, r3, r5, r6⟩ := er4 R hR
    rw [if_pos goo, if_pos gs] at r6
    have h6 : fnA 204 [.inr (some 53), .inl 6, .inl ((p + 2 : Nat) : Int)] (upM R4 53 8 (o : Int)) = _ := h204 6 (p + 2) _ (by decide) (by omega)
    refine ⟨upM R4 53 8 (o : Int), r5.u rfl, ?_⟩
    show fnA 232 _ R = _
    rw [r6, h6, bI_s, if_pos (Or.inl rfl)]
  rw [if_neg gs] at e65
  by_cases gc : f (p + 2 + 1) = 58
  case neg =>
    rw [if_neg gc] at e65
    refine LN.bad (k := 1) (q := p + 2 + 1) (by decide) (M2 := upM (upM M5 16 0 (o : Int)) 2 3 ((p + 2 + 1 : Nat) : Int)) (by rw [ec2, e65, bI_s, if_pos rfl]) (hF6.u2 (by omega)) (fun R hR => ?_)
    obtain ⟨R4, r1, r2, r3, r5, r6⟩ := er4 R hR
    rw [if_pos goo, if_neg gs, s205 hf ((r1.o (by decide)).st (p + 2 + 1)) (by omega), if_neg gc, bI_s, if_pos rfl] at r6
    exact ⟨upM (upM R4 53 8 (o : Int)) 53 5 ((p + 2 + 1 : Nat) : Int), (r5.u rfl).u rfl, r6⟩
  rw [if_pos gc] at e65
  have hX7 : CX f n (p + 2 + 1 + 1) (upM (upM (upM M5 16 0 (o : Int)) 2 3 ((p + 2 + 1 : Nat) : Int)) 2 3 ((p + 2 + 1 + 1 : Nat) : Int)) := ((hX5.o (by decide)).st (p + 2 + 1)).st (p + 2 + 1 + 1)
  have hC7 : TC (upM (upM (upM M5 16 0 (o : Int)) 2 3 ((p + 2 + 1 : Nat) : Int)) 2 3 ((p + 2 + 1 + 1 : Nat) : Int)) 12 T := hC5.mv (by rw [up_ne (by decide), up_ne (by decide), up_ne (by decide)]) (by rw [up_ne (by decide), up_ne (by decide), up_ne (by decide)]) (by rw [up_ne (by decide), up_ne (by decide), up_ne (by decide)]) (by rw [up_ne (by decide), up_ne (by decide), up_ne (by decide)])
  have hfin := lfin hf hT hZ (p := p) (q := p + 2 + 1 + 1) (b := b) (o := o) (L := L) (k := f (p + 1)) (x7 := 1) hX7 hC7 (by omega) (by omega) hb8 ho8 gL gob (fun _ => ⟨by rw [up_o (by decide), up_o (by decide), up_s], fun z => gs (by rw [z]), goo⟩) gk
  refine hfin.go (by rw [ec2, e65, bI_s, if_neg (by decide)]) ((hF6.u2 (by omega)).u2 (by omega)) (fun R hR => ?_)
  obtain ⟨R4, r1, r2, r3, r5, r6⟩ := er4 R hR
  rw [if_pos goo, if_neg gs, s205 hf ((r1.o (by decide)).st (p + 2 + 1)) (by omega), if_pos gc, bI_s, if_neg (by decide)] at r6
  refine ⟨_, ((r5.u rfl).u rfl).u rfl, ⟨((r1.o (by decide)).st (p + 2 + 1)).st (p + 2 + 1 + 1), ?_, ?_⟩, r6⟩
  · exact r2.mv (by rw [up_ne (by decide), up_ne (by decide), up_ne (by decide)])
  · rw [up_j (by decide), up_j (by decide), up_j (by decide)]; exact r3
end LDN
