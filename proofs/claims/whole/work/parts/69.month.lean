/-! A month: cash flows. -/
section MOF
variable {g h : Nat → Int} {L : Nat} {D : RU} {k : Nat}
set_option maxHeartbeats 400000 in
theorem flow {T : Nat → Int} {M R : aM} {b : Nat} (hk : isT k) (hM : MRl g h L D k T M R) (hb : b < 8) (hbo : (ok T).testBit b = true) {f z q : Int} (hf : 0 ≤ f ∧ f ≤ 999) (hz : 0 ≤ z ∧ z ≤ 1998) (v8 : aV) (x3 x4 x5 : Int) : ∃ T' M' R' w8, run 5 71 88 [.inr (some 26), .inr (some k), .inr (some 47), .inr (some 24), .inl (b : Int), .inl f, .inl z, .inl q, v8] [] M = run 5 71 3 [.inr (some 26), .inr (some k), .inr (some 47), .inr (some 24), .inl ((b + 1 : Nat) : Int), .inl f, .inl z, .inl q, w8] [] M' ∧ run 3 236 129 [.inr (some 53), .inl (b : Int), .inl f, .inl x3, .inl x4, .inl x5, .inr none] [.inl z, .inl (min 9999 (T b + f))] R = some (none, R') ∧ MSl g h L D k T M R T' M' R' := by
  have k0 : k + 3 ≤ 15 ∧ 4 ≤ k := by unfold isT at hk; omega
  have hTb := hM.2.2.1.2.2.1 b hb
  have w1 : wr (T b + f) = T b + f := wr_s (by omega) (by omega)
  have w2 : wr (min 9999 (T b + f) - z) = min 9999 (T b + f) - z := wr_s (by omega) (by omega)
  have w3 := w1p (a := b) (by omega)
  have e1 : M (k + 1) b = T b := hM.1.1 b hb
  have y : 0 ≤ (b : Int) ∧ (b : Int) < 141 := by omega
  by_cases gz : 0 ≤ min 9999 (T b + f) - z
  · refine ⟨tset T b (min 9999 (T b + f) - z), upM M (k + 1) b (min 9999 (T b + f) - z), upM R 54 b (min 9999 (T b + f) - z), .inl (min 9999 (T b + f) - z), ?_, ?_, MSl.mk hk hM (hM.1.cash hb _) (hM.2.1.set b _) (hM.2.2.1.set (by omega) (by omega) (by omega) (by omega) (by omega) (by omega)) (hM.2.2.2.1.cash hb (Or.inl hbo)) (fun q a b c d => up_ne (by omega)) ⟨fun q a b c d => up_ne b, fun j a b => up_o (by decide)⟩ ?_ ?_ (ts_o (by omega))⟩
    · rw [B_71_88 _ _ _ _ _ _ _ _ hk isW47, s114 hk hb, bI_s, e1, w1, w2, if_pos gz, s115 hk hb, bV_s, w3]
    · rw [B_236_129, w2, if_pos gz, ix0 hb, if_pos y, Int.toNat_natCast]
    · rw [up_o (by omega), up_o (by decide)]; exact hM.2.2.2.2.2.2.1
    · rw [up_o (by omega), up_o (by decide)]; exact hM.2.2.2.2.2.2.2
  · obtain ⟨T', M', R', m1, m2, m3⟩ := fall hk hM hb
    refine ⟨T', M', R', .inl (min 9999 (T b + f) - z), ?_, ?_, m3⟩
    · rw [B_71_88 _ _ _ _ _ _ _ _ hk isW47, s114 hk hb, bI_s, e1, w1, w2, if_neg gz, m1, bV_s, w3]
    · rw [B_236_129, w2, if_neg gz, m2, bV_s]
def rol (x : Int) : Int := (wr (wr (25173 * x) + 13849)).tmod 65536
set_option maxHeartbeats 400000 in
theorem rol_b {x : Int} (h : 0 ≤ x ∧ x ≤ 65535) : 0 ≤ rol x ∧ rol x ≤ 65535 := by
  have w1 : wr (25173 * x) = 25173 * x := wr_s (by omega) (by omega)
  have w2 : wr (25173 * x + 13849) = 25173 * x + 13849 := wr_s (by omega) (by omega)
  unfold rol
  rw [w1, w2, Int.tmod_eq_emod_of_nonneg (by omega)]
  omega
set_option maxHeartbeats 400000 in
theorem EF.cfm {M M' : aM} (h : EF M M') : CFM k M M' := fun q a b _ _ => h.1 q a b
set_option maxHeartbeats 400000 in
theorem earn1 {T : Nat → Int} {M R : aM} {b : Nat} (hk : isT k) (hB : LBx g h L D) (hM : MRl g h L D k T M R) (hb : b < 8) (hbo : (ok T).testBit b = true) (v5 v6 v7 v8 : aV) : ∃ T' M' R' w5 w6 w7 w8, run 5 71 3 [.inr (some 26), .inr (some k), .inr (some 47), .inr (some 24), .inl (b : Int), v5, v6, v7, v8] [] M = run 5 71 3 [.inr (some 26), .inr (some k), .inr (some 47), .inr (some 24), .inl ((b + 1 : Nat) : Int), w5, w6, w7, w8] [] M' ∧ fnA 236 [.inr (some 53), .inl (b : Int)] R = some (none, R') ∧ MSl g h L D k T M R T' M' R' := by
  have k0 : k + 3 ≤ 15 ∧ 4 ≤ k := by unfold isT at hk; omega
  obtain ⟨hC, hR, hT, hZ, hl1, hl2, h26, h27⟩ := id hM
  let M0 := upM (upM (upM M 24 3 (b : Int)) 24 4 0) 24 5 0
  have hM0 : ∀ q, q ≠ 24 → M0 q = M q := fun q hq => by
    show upM (upM (upM M 24 3 (b : Int)) 24 4 0) 24 5 0 q = _
    rw [up_ne hq, up_ne hq, up_ne hq]
  have hC0 : TC M0 k T := hC.mv (hM0 _ (by omega)) (hM0 _ (by omega)) (hM0 _ (by omega)) (hM0 _ (by omega))
  have hV : VWx k (VLf T b 0 0) M0 := vw hk hC0 hT hb (by show upM (upM (upM M 24 3 (b : Int)) 24 4 0) 24 5 0 24 3 = _; rw [up_j (by decide), up_j (by decide), up_s]) (by show upM (upM (upM M 24 3 (b : Int)) 24 4 0) 24 5 0 24 4 = _; rw [up_j (by decide), up_s]) up_s
  obtain ⟨R0, a1, a2, a3, a4, a5, a6, a7, a8, a9⟩ := s228 hR hT hb
  have hF : FLx (VLf T b 0 0) R0 := flv a3 a4 a5 a6 a7 a8 a9
  have hl1' : LCx g L D M0 := hl1.mv (fun q _ _ => hM0 q (by omega))
  have hl2' : LRx h L D R0 := hl2.mv (by rw [a2 53 (by decide)]) (fun q _ _ => a2 q (by omega))
  obtain ⟨f, M1, R1, b1, b2, b3, b4, b5, b6⟩ := am hk hB hl1' hl2' hV hF (c := 102) (cap := 999) (by decide) (by decide) EF.rf (fun _ _ => rfl : RFv R0 R0)
  obtain ⟨w, M2, R2, c1, c2, c3, c4, c5, c6⟩ := am hk hB hl1' hl2' hV hF (c := 119) (cap := 999) (by decide) (by decide) b3 b4
  obtain ⟨q, M3, R3, d1, d2, d3, d4, d5, d6⟩ := am hk hB hl1' hl2' hV hF (c := 113) (cap := 10) (by decide) (by decide) c3 c4
  have hM3 : ∀ q, q ≠ 24 → q ≠ 25 → M3 q = M q := fun q x1 x2 => (d3.1 q x1 x2).trans (hM0 q x1)
  have hR3 : ∀ q, q ≠ 69 → q ≠ 70 → R3 q = R q := fun q x1 x2 => (d4 q x1).trans (a2 q x2)
  have hC3 : TC M3 k T := hC.mv (hM3 _ (by omega) (by omega)) (hM3 _ (by omega) (by omega)) (hM3 _ (by omega) (by omega)) (hM3 _ (by omega) (by omega))
  have hTR3 : TR R3 54 T := hR.mv (hR3 54 (by decide) (by decide))
  have e7 : M3 k 7 = T 140 := hC3.2.2.2.2.2.2.2
  have f7 : R3 54 140 = T 140 := hTR3 140 (by decide)
  have hro := rol_b hT.2.2.2.2.2.2.2
  have hS4 : MSl g h L D k T M R (tset T 140 (rol (T 140))) (upM M3 k 7 (rol (T 140))) (upM R3 54 140 (rol (T 140))) := MSl.mk hk hM (hC3.lot _) (hTR3.set 140 _) (hT.set (by omega) (by omega) (by omega) (by omega) (by omega) (by omega)) (hZ.set (by decide)) (fun q x1 x2 x3 x4 => by rw [up_ne (by omega), hM3 q x1 x2]) ⟨fun q x1 x2 x3 x4 => by rw [up_ne x2, hR3 q x3 x4], fun j _ _ => by rw [up_o (by decide), hR3 53 (by decide) (by decide)]⟩ (by rw [up_o (by omega), up_o (by decide), hM3 26 (by decide) (by decide), hR3 53 (by decide) (by decide)]; exact h26) (by rw [up_o (by omega), up_o (by decide), hM3 26 (by decide) (by decide), hR3 53 (by decide) (by decide)]; exact h27) (ts_o (by decide))
  have T1b : tset T 140 (rol (T 140)) b = T b := ts_o (by omega)
  have hbo1 : (ok (tset T 140 (rol (T 140)))).testBit b = true := by rw [(ok_ts (Or.inr (by decide))).1]; exact hbo
  have w3 : wr (2 * w) = 2 * w := wr_s (by omega) (by omega)
  have hTb := hT.2.2.1 b hb
  have w4 : wr (T b + f) = T b + f := wr_s (by omega) (by omega)
  have y : 0 ≤ (b : Int) ∧ (b : Int) < 141 := by omega
  have eC : run 5 71 3 [.inr (some 26), .inr (some k), .inr (some 47), .inr (some 24), .inl (b : Int), v5, v6, v7, v8] [] M = if q ≤ (rol (T 140)).tmod 10 then run 5 71 88 [.inr (some 26), .inr (some k), .inr (some 47), .inr (some 24), .inl (b : Int), .inl f, .inl w, .inl q, v8] [] (upM M3 k 7 (rol (T 140))) else run 5 71 88 [.inr (some 26), .inr (some k), .inr (some 47), .inr (some 24), .inl (b : Int), .inl f, .inl (2 * w), .inl q, v8] [] (upM (upM M3 k 7 (rol (T 140))) 26 1 (wr ((upM M3 k 7 (rol (T 140))) 26 1 + 1))) := by
    have e131 : fnA 131 [.inr (some k)] M3 = some (some (.inl ((rol (T 140)).tmod 10)), upM M3 k 7 (rol (T 140))) := by
      rw [E_131 _ _ hk, e7, up_s]; rfl
    rw [B_71_3 _ _ _ _ _ _ _ _ hk isW47, if_neg (by omega), s110 hk hC hT, bI_s, bI1_t ((tb_n hb).2 hbo), if_neg (by decide), E_1, E_2, bV_s, bV_s, b1, bI_s, c1, bI_s, d1, bI_s, e131, bI_s, w3]
  have eR : fnA 236 [.inr (some 53), .inl (b : Int)] R = if q ≤ (rol (T 140)).tmod 10 then run 3 236 129 [.inr (some 53), .inl (b : Int), .inl f, .inl w, .inl q, .inl 0, .inr none] [.inl w, .inl (min 9999 (T b + f))] (upM R3 54 140 (rol (T 140))) else run 3 236 129 [.inr (some 53), .inl (b : Int), .inl f, .inl w, .inl q, .inl 1, .inr none] [.inl (2 * w), .inl (min 9999 (T b + f))] (upM (upM R3 54 140 (rol (T 140))) 53 30 (wr ((upM R3 54 140 (rol (T 140))) 53 30 + 1))) := by
    have er : (wr ((wr (25173 * (T 140))) + 13849)).tmod 65536 = rol (T 140) := rfl
    rw [E_236, a1, bV_s, b2, bI_s, c2, bI_s, d2, bI_s, f7, er, up_s]
    by_cases gq : q ≤ (rol (T 140)).tmod 10
    · have e54 : upM R3 54 140 (rol (T 140)) 54 b = T b := by rw [up_j (by omega)]; exact hTR3 b (by omega)
      rw [if_pos gq, if_pos gq, B_236_84, if_pos rfl, B_236_101, ix0 hb, if_pos y, Int.toNat_natCast, e54, w4, s182, bI_s, if_pos rfl]
    · have e54 : upM (upM R3 54 140 (rol (T 140))) 53 30 (wr ((upM R3 54 140 (rol (T 140))) 53 30 + 1)) 54 b = T b := by rw [up_o (by decide), up_j (by omega)]; exact hTR3 b (by omega)
      rw [if_neg gq, if_neg gq, B_236_84, if_neg (by decide), B_236_101, ix0 hb, if_pos y, Int.toNat_natCast, e54, w4, s182, bI_s, if_neg (by decide), w3]
  rw [eC, eR, ← T1b]
  by_cases gq : q ≤ (rol (T 140)).tmod 10
  · obtain ⟨T', M', R', w8, x1, x2, x3⟩ := flow (q := q) hk hS4.1 hb hbo1 ⟨b5, b6⟩ (z := w) (by omega) v8 w q 0
    exact ⟨T', M', R', _, _, _, w8, by rw [if_pos gq]; exact x1, by rw [if_pos gq]; exact x2, hS4.tr x3⟩
  · have hS5 : MSl g h L D k (tset T 140 (rol (T 140))) (upM M3 k 7 (rol (T 140))) (upM R3 54 140 (rol (T 140))) (tset T 140 (rol (T 140))) (upM (upM M3 k 7 (rol (T 140))) 26 1 (wr ((upM M3 k 7 (rol (T 140))) 26 1 + 1))) (upM (upM R3 54 140 (rol (T 140))) 53 30 (wr ((upM R3 54 140 (rol (T 140))) 53 30 + 1))) := MSl.mk hk hS4.1 (hS4.1.1.mv (up_ne (by omega)) (up_ne (by omega)) (up_ne (by omega)) (up_ne (by omega))) (hS4.1.2.1.mv (up_ne (by decide))) hS4.1.2.2.1 hS4.1.2.2.2.1 (fun q x1 x2 x3 x4 => up_ne x3) ⟨fun q x1 x2 x3 x4 => up_ne x1, fun j x1 x2 => up_j x2⟩ (by rw [up_j (by decide), up_j (by decide)]; exact hS4.1.2.2.2.2.2.2.1) (by rw [up_s, up_s, hS4.1.2.2.2.2.2.2.2]) rfl
    obtain ⟨T', M', R', w8, x1, x2, x3⟩ := flow (q := q) hk hS5.1 hb hbo1 ⟨b5, b6⟩ (z := 2 * w) (by omega) v8 w q 1
    exact ⟨T', M', R', _, _, _, w8, by rw [if_neg gq]; exact x1, by rw [if_neg gq]; exact x2, (hS4.tr hS5).tr x3⟩
end MOF
