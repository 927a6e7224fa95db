/-! Months, one after another. -/
section MOH
variable {g h : Nat → Int} {L : Nat} {D : RU} {k : Nat}
set_option maxHeartbeats 400000 in
theorem mlp1 (hk : isT k) (hB : LBx g h L D) : ∀ (n i : Nat), i + n = 8 → ∀ T M R v5 v6 v7 v8, MRl g h L D k T M R → ∃ T' M' R', run 5 71 3 [.inr (some 26), .inr (some k), .inr (some 47), .inr (some 24), .inl (i : Int), v5, v6, v7, v8] [] M = some (none, M') ∧ run 4 238 2 [.inr (some 53), .inl (i : Int), .inr none] [] R = run 4 238 29 [.inr (some 53), .inl ((0 : Nat) : Int), .inr none] [] R' ∧ MSl g h L D k T M R T' M' R' := by
  intro n
  induction n with
  | zero =>
    intro i hi T M R v5 v6 v7 v8 hM
    refine ⟨T, M, R, ?_, ?_, MSl.rf hM⟩
    · rw [B_71_3 _ _ _ _ _ _ _ _ hk isW47, if_pos (by omega)]
    · rw [B_238_2, if_pos (by omega)]; rfl
  | succ n ih =>
    intro i hi T M R v5 v6 v7 v8 hM
    have wb := w1p (a := i) (by omega)
    by_cases hbo : (ok T).testBit i = true
    · obtain ⟨T1, M1, R1, w5, w6, w7, w8, x1, x2, x3⟩ := earn1 hk hB hM (by omega) hbo v5 v6 v7 v8
      obtain ⟨T2, M2, R2, y1, y2, y3⟩ := ih (i + 1) (by omega) T1 M1 R1 w5 w6 w7 w8 x3.1
      refine ⟨T2, M2, R2, x1.trans y1, ?_, x3.tr y3⟩
      rw [B_238_2, if_neg (by omega), s188 hM.2.1 hM.2.2.1, bI_s, bI1_t ((tb_n (by omega)).2 hbo), if_neg (by decide), x2, bV_s, wb]; exact y2
    · have n0 : ¬ tb (ok T) (i : Int) := fun z => hbo ((tb_n (by omega)).1 z)
      obtain ⟨T2, M2, R2, y1, y2, y3⟩ := ih (i + 1) (by omega) T M R v5 v6 v7 v8 hM
      refine ⟨T2, M2, R2, ?_, ?_, y3⟩
      · rw [B_71_3 _ _ _ _ _ _ _ _ hk isW47, if_neg (by omega), s110 hk hM.1 hM.2.2.1, bI_s, bI1_f n0, if_pos rfl, wb]; exact y1
      · rw [B_238_2, if_neg (by omega), s188 hM.2.1 hM.2.2.1, bI_s, bI1_f n0, if_pos rfl, wb]; exact y2
set_option maxHeartbeats 400000 in
theorem mlp2i (hk : isT k) (hB : LBx g h L D) {a : Nat} (ha : a < 8) : ∀ (n e : Nat), e + n = 8 → ∀ T M R v6 v7, MRl g h L D k T M R → ∃ T' M' R' v5' v6' v7' v2', run 5 72 13 [.inr (some 26), .inr (some k), .inr (some 47), .inr (some 24), .inl (a : Int), .inl (e : Int), v6, v7] [] M = run 5 72 3 [.inr (some 26), .inr (some k), .inr (some 47), .inr (some 24), .inl ((a + 1 : Nat) : Int), v5', v6', v7'] [] M' ∧ run 4 238 37 [.inr (some 53), .inl (a : Int), .inl (e : Int)] [] R = run 4 238 29 [.inr (some 53), .inl ((a + 1 : Nat) : Int), v2'] [] R' ∧ MSl g h L D k T M R T' M' R' := by
  intro n
  induction n with
  | zero =>
    intro e he T M R v6 v7 hM
    have wa := w1p (a := a) (by omega)
    refine ⟨T, M, R, .inl (e : Int), v6, v7, .inl (e : Int), ?_, ?_, MSl.rf hM⟩
    · rw [B_72_13 _ _ _ _ _ _ _ hk isW47, if_pos (by omega), wa]
    · rw [B_238_37, if_pos (by omega), wa]
  | succ n ih =>
    intro e he T M R v6 v7 hM
    obtain ⟨T1, M1, R1, w6, w7, x1, x2, x3⟩ := grow1 hk hB hM ha (by omega : e < 8) v6 v7
    obtain ⟨T2, M2, R2, u5, u6, u7, u2, y1, y2, y3⟩ := ih (e + 1) (by omega) T1 M1 R1 w6 w7 x3.1
    exact ⟨T2, M2, R2, u5, u6, u7, u2, x1.trans y1, x2.trans y2, x3.tr y3⟩
set_option maxHeartbeats 400000 in
theorem mlp2 (hk : isT k) (hB : LBx g h L D) : ∀ (n a : Nat), a + n = 8 → ∀ T M R v5 v6 v7 v2, MRl g h L D k T M R → ∃ T' M' R' v2', run 5 72 3 [.inr (some 26), .inr (some k), .inr (some 47), .inr (some 24), .inl (a : Int), v5, v6, v7] [] M = some (none, M') ∧ run 4 238 29 [.inr (some 53), .inl (a : Int), v2] [] R = run 4 238 76 [.inr (some 53), .inl ((0 : Nat) : Int), v2'] [] R' ∧ MSl g h L D k T M R T' M' R' := by
  intro n
  induction n with
  | zero =>
    intro a ha T M R v5 v6 v7 v2 hM
    refine ⟨T, M, R, v2, ?_, ?_, MSl.rf hM⟩
    · rw [B_72_3 _ _ _ _ _ _ _ hk isW47, if_pos (by omega)]
    · rw [B_238_29, if_pos (by omega)]; rfl
  | succ n ih =>
    intro a ha T M R v5 v6 v7 v2 hM
    obtain ⟨T1, M1, R1, w5, w6, w7, w2, x1, x2, x3⟩ := mlp2i hk hB (by omega : a < 8) 8 0 (by omega) T M R v6 v7 hM
    obtain ⟨T2, M2, R2, u2, y1, y2, y3⟩ := ih (a + 1) (by omega) T1 M1 R1 w5 w6 w7 w2 x3.1
    refine ⟨T2, M2, R2, u2, ?_, ?_, x3.tr y3⟩
    · rw [B_72_3 _ _ _ _ _ _ _ hk isW47, if_neg (by omega)]; exact x1.trans y1
    · rw [B_238_29, if_neg (by omega)]; exact x2.trans y2
set_option maxHeartbeats 400000 in
theorem mlp3 (hk : isT k) (hB : LBx g h L D) : ∀ (n i : Nat), i + n = 8 → ∀ T M R v2, MRl g h L D k T M R → ∃ T' M' R', run 5 73 3 [.inr (some 26), .inr (some k), .inr (some 47), .inr (some 24), .inl (i : Int)] [] M = some (none, M') ∧ run 4 238 76 [.inr (some 53), .inl (i : Int), v2] [] R = some (none, upM R' 54 138 (wr ((R' 54 138) + 1))) ∧ MSl g h L D k T M R T' M' R' := by
  intro n
  induction n with
  | zero =>
    intro i hi T M R v2 hM
    refine ⟨T, M, R, ?_, ?_, MSl.rf hM⟩
    · rw [B_73_3 _ _ _ _ hk isW47, if_pos (by omega)]
    · rw [B_238_76, if_pos (by omega)]
  | succ n ih =>
    intro i hi T M R v2 hM
    obtain ⟨T1, M1, R1, x1, x2, x3⟩ := shut1 hk hB hM (by omega : i < 8) v2
    obtain ⟨T2, M2, R2, y1, y2, y3⟩ := ih (i + 1) (by omega) T1 M1 R1 v2 x3.1
    exact ⟨T2, M2, R2, x1.trans y1, x2.trans y2, x3.tr y3⟩
set_option maxHeartbeats 400000 in
theorem mloop (hk : isT k) (hB : LBx g h L D) {m : Nat} (hm : m ≤ 60) : ∀ (n i : Nat), i + n = m → ∀ T M R, MRl g h L D k T M R → ∃ T' M' R', run 6 70 13 [.inr (some 26), .inr (some k), .inr (some 47), .inr (some 24), .inl (m : Int), .inl (i : Int)] [] M = some (none, M') ∧ run 5 239 12 [.inr (some 53), .inl (m : Int), .inl (i : Int)] [] R = some (none, R') ∧ MRl g h L D k T' M' R' ∧ CFM k M M' ∧ RFM R R' := by
  have k0 : k + 3 ≤ 15 ∧ 4 ≤ k := by unfold isT at hk; omega
  intro n
  induction n with
  | zero =>
    intro i hi T M R hM
    refine ⟨T, M, R, ?_, ?_, hM, fun _ _ _ _ _ => rfl, ⟨fun _ _ _ _ _ => rfl, fun _ _ _ => rfl⟩⟩
    · rw [B_70_13 _ _ _ _ _ hk isW47, if_pos (by omega)]
    · rw [B_239_12, if_pos (by omega)]
  | succ n ih =>
    intro i hi T M R hM
    have wb := w1p (a := i) (by omega)
    have c5 : M k 5 = T 138 := hM.1.2.2.2.2.2.1
    have r5 : R 54 138 = T 138 := hM.2.1 138 (by decide)
    by_cases gt : (9999 : Int) ≤ T 138
    · refine ⟨T, M, R, ?_, ?_, hM, fun _ _ _ _ _ => rfl, ⟨fun _ _ _ _ _ => rfl, fun _ _ _ => rfl⟩⟩
      · rw [B_70_13 _ _ _ _ _ hk isW47, if_neg (by omega), c5, if_pos gt]
      · rw [B_239_12, if_neg (by omega), r5, if_pos gt]
    obtain ⟨T1, M1, R1, x1, x2, x3⟩ := mlp1 hk hB 8 0 (by omega) T M R (.inr none) (.inr none) (.inr none) (.inr none) hM
    obtain ⟨T2, M2, R2, v2, y1, y2, y3⟩ := mlp2 hk hB 8 0 (by omega) T1 M1 R1 (.inr none) (.inr none) (.inr none) (.inr none) x3.1
    obtain ⟨T3, M3, R3, z1, z2, z3⟩ := mlp3 hk hB 8 0 (by omega) T2 M2 R2 v2 y3.1
    have hS := (x3.tr y3).tr z3
    have hT8 := hS.1.2.2.1.2.2.2.2.2.2.1
    have e138 : T3 138 = T 138 := hS.2.2.2
    have wt : wr (T3 138 + 1) = T3 138 + 1 := wr_s (by omega) (by omega)
    have d5 : M3 k 5 = T3 138 := hS.1.1.2.2.2.2.2.1
    have s5 : R3 54 138 = T3 138 := hS.1.2.1 138 (by decide)
    have hM4 : MRl g h L D k (tset T3 138 (T3 138 + 1)) (upM M3 k 5 (T3 138 + 1)) (upM R3 54 138 (T3 138 + 1)) := by
      refine ⟨hS.1.1.mon _, hS.1.2.1.set 138 _, hS.1.2.2.1.set (by omega) (by omega) (by omega) (by omega) (by omega) (by omega), hS.1.2.2.2.1.set (by decide), hS.1.2.2.2.2.1.mv (fun q a b => up_ne (by omega)), hS.1.2.2.2.2.2.1.mv (up_o (by decide)) (fun q a b => up_ne (by omega)), ?_, ?_⟩
      · rw [up_o (by omega), up_o (by decide)]; exact hS.1.2.2.2.2.2.2.1
      · rw [up_o (by omega), up_o (by decide)]; exact hS.1.2.2.2.2.2.2.2
    have q1 : CFM k M (upM M3 k 5 (T3 138 + 1)) := hS.2.1.tr (fun q a b c d => up_ne (by omega))
    have q2 : RFM R (upM R3 54 138 (T3 138 + 1)) := hS.2.2.1.tr ⟨fun q a b c d => up_ne b, fun j _ _ => up_o (by decide)⟩
    obtain ⟨T5, M5, R5, p1, p2, p3, p4, p5⟩ := ih (i + 1) (by omega) _ _ _ hM4
    refine ⟨T5, M5, R5, ?_, ?_, p3, q1.tr p4, q2.tr p5⟩
    · have e1 : fnA 71 [.inr (some 26), .inr (some k), .inr (some 47), .inr (some 24)] M = some (none, M1) := (E_71 _ _ _ hk isW47).trans x1
      have e2 : fnA 72 [.inr (some 26), .inr (some k), .inr (some 47), .inr (some 24)] M1 = some (none, M2) := (E_72 _ _ _ hk isW47).trans y1
      have e3 : fnA 73 [.inr (some 26), .inr (some k), .inr (some 47), .inr (some 24)] M2 = some (none, M3) := (E_73 _ _ _ hk isW47).trans z1
      rw [B_70_13 _ _ _ _ _ hk isW47, if_neg (by omega), c5, if_neg gt, e1, bV_s, e2, bV_s, e3, bV_s, d5, wt, wb]; exact p1
    · have e1 : fnA 238 [.inr (some 53)] R = some (none, upM R3 54 138 (wr (R3 54 138 + 1))) := (E_238 _).trans (x2.trans (y2.trans z2))
      rw [B_239_12, if_neg (by omega), r5, if_neg gt, e1, bV_s, s5, wt, wb]; exact p2
/- the months, from any two that tell the same -/
set_option maxHeartbeats 400000 in
theorem mrun (hk : isT k) (hB : LBx g h L D) {m : Nat} (hm : m ≤ 60) {T : Nat → Int} {M R : aM} (hC : TC M k T) (hR : TR R 54 T) (hT : TI T) (hZ : TZ T) (hl1 : LCx g L D M) (hl2 : LRx h L D R) : ∃ T' M' R', fnA 70 [.inr (some 26), .inr (some k), .inr (some 47), .inr (some 24), .inl (m : Int)] M = some (none, M') ∧ fnA 239 [.inr (some 53), .inl (m : Int)] R = some (none, R') ∧ MRl g h L D k T' M' R' ∧ CFM k M M' ∧ RFM R R' := by
  have k0 : k + 3 ≤ 15 ∧ 4 ≤ k := by unfold isT at hk; omega
  have hM : MRl g h L D k T (upM (upM M 26 0 0) 26 1 0) (upM (upM R 53 29 0) 53 30 0) := by
    refine ⟨hC.mv ?_ ?_ ?_ ?_, hR.mv ?_, hT, hZ, hl1.mv (fun q a b => ?_), hl2.mv ?_ (fun q a b => ?_), ?_, ?_⟩
    · rw [up_ne (by omega), up_ne (by omega)]
    · rw [up_ne (by omega), up_ne (by omega)]
    · rw [up_ne (by omega), up_ne (by omega)]
    · rw [up_ne (by omega), up_ne (by omega)]
    · rw [up_ne (by decide), up_ne (by decide)]
    · rw [up_ne (by omega), up_ne (by omega)]
    · rw [up_j (by decide), up_j (by decide)]
    · rw [up_ne (by omega), up_ne (by omega)]
    · rw [up_j (by decide), up_s, up_j (by decide), up_s]
    · rw [up_s, up_s]
  obtain ⟨T', M', R', p1, p2, p3, p4, p5⟩ := mloop hk hB hm m 0 (by omega) T _ _ hM
  refine ⟨T', M', R', (E_70 _ _ _ _ hk isW47).trans p1, (E_239 _ _).trans p2, p3, CFM.tr (fun q a b c d => ?_) p4, RFM.tr ⟨fun q a b c d => ?_, fun j a b => ?_⟩ p5⟩
  · rw [up_ne c, up_ne c]
  · rw [up_ne a, up_ne a]
  · rw [up_j b, up_j a]
end MOH
