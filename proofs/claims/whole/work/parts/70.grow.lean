/-! A month: debts grow, banks are shut. -/
section MOG
variable {g h : Nat → Int} {L : Nat} {D : RU} {k : Nat}
set_option maxHeartbeats 400000 in
theorem MSl.rf {T : Nat → Int} {M R : aM} (hM : MRl g h L D k T M R) : MSl g h L D k T M R T M R := ⟨hM, fun _ _ _ _ _ => rfl, ⟨fun _ _ _ _ _ => rfl, fun _ _ _ => rfl⟩, rfl⟩
set_option maxHeartbeats 400000 in
theorem debt_o {T : Nat → Int} (hZ : TZ T) {a e : Nat} (ha : a < 8) (he : e < 8) (h : ¬ T (8 + (8 * a + e)) = 0) : a ≠ e ∧ (ok T).testBit a = true ∧ (ok T).testBit e = true := by
  refine ⟨fun z => ?_, ?_, ?_⟩
  · subst z; exact h (hZ.2 a ha).1
  · cases x : (ok T).testBit a with
    | true => rfl
    | false => exact absurd ((hZ.1 a ha x).2 e he).1 h
  · cases x : (ok T).testBit e with
    | true => rfl
    | false => exact absurd ((hZ.1 e he x).2 a ha).2.1 h
set_option maxHeartbeats 400000 in
theorem grow1 {T : Nat → Int} {M R : aM} {a e : Nat} (hk : isT k) (hB : LBx g h L D) (hM : MRl g h L D k T M R) (ha : a < 8) (he : e < 8) (v6 v7 : aV) : ∃ T' M' R' w6 w7, run 5 72 13 [.inr (some 26), .inr (some k), .inr (some 47), .inr (some 24), .inl (a : Int), .inl (e : Int), v6, v7] [] M = run 5 72 13 [.inr (some 26), .inr (some k), .inr (some 47), .inr (some 24), .inl (a : Int), .inl ((e + 1 : Nat) : Int), w6, w7] [] M' ∧ run 4 238 37 [.inr (some 53), .inl (a : Int), .inl (e : Int)] [] R = run 4 238 37 [.inr (some 53), .inl (a : Int), .inl ((e + 1 : Nat) : Int)] [] R' ∧ MSl g h L D k T M R T' M' R' := by
  have k0 : k + 3 ≤ 15 ∧ 4 ≤ k := by unfold isT at hk; omega
  obtain ⟨hC, hR, hT, hZ, hl1, hl2, h26, h27⟩ := id hM
  have we := w1p (a := e) (by omega)
  have hTd := dI hT ha he
  have y : 0 ≤ ((8 + (8 * a + e) : Nat) : Int) ∧ ((8 + (8 * a + e) : Nat) : Int) < 141 := by omega
  have c1 : M (k + 2) (8 * a + e) = T (8 + (8 * a + e)) := hC.2.1 _ (by omega)
  have r1 : R 54 (8 + (8 * a + e)) = T (8 + (8 * a + e)) := hR _ (by omega)
  by_cases gd : T (8 + (8 * a + e)) ≤ 0
  · refine ⟨T, M, R, .inl (T (8 + (8 * a + e))), v7, ?_, ?_, MSl.rf hM⟩
    · rw [B_72_13 _ _ _ _ _ _ _ hk isW47, if_neg (by omega), s116 hk ha he, bI_s, c1, if_pos gd, we]
    · rw [B_238_37, if_neg (by omega), s190 ha he, bI_s, if_pos y, Int.toNat_natCast, r1, if_pos gd, we]
  obtain ⟨o1, o2, o3⟩ := debt_o hZ ha he (by omega)
  let M0 := upM (upM (upM M 24 3 (a : Int)) 24 4 (e : Int)) 24 5 (T (8 + (8 * a + e)))
  have hM0 : ∀ q, q ≠ 24 → M0 q = M q := fun q hq => by
    show upM (upM (upM M 24 3 (a : Int)) 24 4 (e : Int)) 24 5 (T (8 + (8 * a + e))) q = _
    rw [up_ne hq, up_ne hq, up_ne hq]
  have hC0 : TC M0 k T := hC.mv (hM0 _ (by omega)) (hM0 _ (by omega)) (hM0 _ (by omega)) (hM0 _ (by omega))
  have hV : VWx k (VLf T a (e : Int) (T (8 + (8 * a + e)))) M0 := vw hk hC0 hT ha (by show upM (upM (upM M 24 3 (a : Int)) 24 4 (e : Int)) 24 5 (T (8 + (8 * a + e))) 24 3 = _; rw [up_j (by decide), up_j (by decide), up_s]) (by show upM (upM (upM M 24 3 (a : Int)) 24 4 (e : Int)) 24 5 (T (8 + (8 * a + e))) 24 4 = _; rw [up_j (by decide), up_s]) up_s
  obtain ⟨R0, a1, a2, a3, a4, a5, a6, a7, a8, a9⟩ := s228 hR hT ha
  have f54 : upM R0 70 4 (e : Int) 54 (8 + (8 * a + e)) = T (8 + (8 * a + e)) := by rw [up_o (by decide), a2 54 (by decide)]; exact r1
  have hF : FLx (VLf T a (e : Int) (T (8 + (8 * a + e)))) (upM (upM R0 70 4 (e : Int)) 70 5 (T (8 + (8 * a + e)))) := flv (by rw [up_j (by decide), up_j (by decide), a3]) (by rw [up_j (by decide), up_j (by decide), a4]) (by rw [up_j (by decide), up_j (by decide), a5]) (by rw [up_j (by decide), up_j (by decide), a6]) (by rw [up_j (by decide), up_s]) up_s (by rw [up_j (by decide), up_j (by decide), a9])
  have hR1 : ∀ q, q ≠ 70 → upM (upM R0 70 4 (e : Int)) 70 5 (T (8 + (8 * a + e))) q = R q := fun q hq => by rw [up_ne hq, up_ne hq, a2 q hq]
  have hl1' : LCx g L D M0 := hl1.mv (fun q _ _ => hM0 q (by omega))
  have hl2' : LRx h L D (upM (upM R0 70 4 (e : Int)) 70 5 (T (8 + (8 * a + e)))) := hl2.mv (by rw [hR1 53 (by decide)]) (fun q _ _ => hR1 q (by omega))
  obtain ⟨x, M1, R1, b1, b2, b3, b4, b5, b6⟩ := am hk hB hl1' hl2' hV hF (c := 105) (cap := 99) (by decide) (by decide) EF.rf (fun _ _ => rfl : RFv _ _)
  have hM1 : ∀ q, q ≠ 24 → q ≠ 25 → M1 q = M q := fun q x1 x2 => (b3.1 q x1 x2).trans (hM0 q x1)
  have hR2 : ∀ q, q ≠ 69 → q ≠ 70 → R1 q = R q := fun q x1 x2 => (b4 q x1).trans (hR1 q x2)
  have hC1 : TC M1 k T := hC.mv (hM1 _ (by omega) (by omega)) (hM1 _ (by omega) (by omega)) (hM1 _ (by omega) (by omega)) (hM1 _ (by omega) (by omega))
  have hTR1 : TR R1 54 T := hR.mv (hR2 54 (by decide) (by decide))
  have w1 : wr (T (8 + (8 * a + e)) + x) = T (8 + (8 * a + e)) + x := wr_s (by omega) (by omega)
  have r2 : upM (upM R0 70 4 (e : Int)) 70 5 (T (8 + (8 * a + e))) 54 (8 + (8 * a + e)) = T (8 + (8 * a + e)) := by rw [hR1 54 (by decide)]; exact r1
  refine ⟨tset T (8 + (8 * a + e)) (min 999 (T (8 + (8 * a + e)) + x)), upM M1 (k + 2) (8 * a + e) (min 999 (T (8 + (8 * a + e)) + x)), upM R1 54 (8 + (8 * a + e)) (min 999 (T (8 + (8 * a + e)) + x)), .inl (T (8 + (8 * a + e))), .inl x, ?_, ?_, MSl.mk hk hM (hC1.debt (by omega) _) (hTR1.set _ _) (hT.set (by omega) (by omega) (by omega) (by omega) (by omega) (by omega)) (hZ.debt ha he o1 ⟨o2, o3⟩) (fun q x1 x2 x3 x4 => by rw [up_ne (by omega), hM1 q x1 x2]) ⟨fun q x1 x2 x3 x4 => by rw [up_ne x2, hR2 q x3 x4], fun j _ _ => by rw [up_o (by decide), hR2 53 (by decide) (by decide)]⟩ ?_ ?_ (ts_o (by omega))⟩
  · rw [B_72_13 _ _ _ _ _ _ _ hk isW47, if_neg (by omega), s116 hk ha he, bI_s, c1, if_neg gd, E_2, bV_s, b1, bI_s, w1, s117 hk ha he, bV_s, we]
  · have e237 : fnA 237 [.inr (some 53), .inl (a : Int), .inl (e : Int)] R = some (none, upM R1 54 (8 + (8 * a + e)) (min 999 (T (8 + (8 * a + e)) + x))) := by
      rw [E_237, a1, bV_s, s190 ha he, bI_s, if_pos y, Int.toNat_natCast, f54, s190 ha he, bI_s, s190 ha he, bI_s, if_pos y, b2, bI_s, Int.toNat_natCast, r2, w1, s182, bI_s, if_pos y]
    rw [B_238_37, if_neg (by omega), s190 ha he, bI_s, if_pos y, Int.toNat_natCast, r1, if_neg gd, e237, bV_s, we]
  · rw [up_o (by omega), up_o (by decide), hM1 26 (by decide) (by decide), hR2 53 (by decide) (by decide)]; exact h26
  · rw [up_o (by omega), up_o (by decide), hM1 26 (by decide) (by decide), hR2 53 (by decide) (by decide)]; exact h27
set_option maxHeartbeats 400000 in
theorem shut1 {T : Nat → Int} {M R : aM} {b : Nat} (hk : isT k) (hB : LBx g h L D) (hM : MRl g h L D k T M R) (hb : b < 8) (v2 : aV) : ∃ T' M' R', run 5 73 3 [.inr (some 26), .inr (some k), .inr (some 47), .inr (some 24), .inl (b : Int)] [] M = run 5 73 3 [.inr (some 26), .inr (some k), .inr (some 47), .inr (some 24), .inl ((b + 1 : Nat) : Int)] [] M' ∧ run 4 238 76 [.inr (some 53), .inl (b : Int), v2] [] R = run 4 238 76 [.inr (some 53), .inl ((b + 1 : Nat) : Int), v2] [] R' ∧ MSl g h L D k T M R T' M' R' := by
  have k0 : k + 3 ≤ 15 ∧ 4 ≤ k := by unfold isT at hk; omega
  obtain ⟨hC, hR, hT, hZ, hl1, hl2, h26, h27⟩ := id hM
  have wb := w1p (a := b) (by omega)
  by_cases hbo : (ok T).testBit b = true
  case neg =>
    have n0 : ¬ tb (ok T) (b : Int) := fun z => hbo ((tb_n hb).1 z)
    refine ⟨T, M, R, ?_, ?_, MSl.rf hM⟩
    · rw [B_73_3 _ _ _ _ hk isW47, if_neg (by omega), s110 hk hC hT, bI_s, bI1_f n0, if_pos rfl, wb]
    · rw [B_238_76, if_neg (by omega), s188 hR hT, bI_s, bI1_f n0, if_pos rfl, wb]
  let M0 := upM (upM (upM M 24 3 (b : Int)) 24 4 0) 24 5 0
  have hM0 : ∀ q, q ≠ 24 → M0 q = M q := fun q hq => by
    show upM (upM (upM M 24 3 (b : Int)) 24 4 0) 24 5 0 q = _
    rw [up_ne hq, up_ne hq, up_ne hq]
  have hC0 : TC M0 k T := hC.mv (hM0 _ (by omega)) (hM0 _ (by omega)) (hM0 _ (by omega)) (hM0 _ (by omega))
  have hV : VWx k (VLf T b 0 0) M0 := vw hk hC0 hT hb (by show upM (upM (upM M 24 3 (b : Int)) 24 4 0) 24 5 0 24 3 = _; rw [up_j (by decide), up_j (by decide), up_s]) (by show upM (upM (upM M 24 3 (b : Int)) 24 4 0) 24 5 0 24 4 = _; rw [up_j (by decide), up_s]) up_s
  obtain ⟨R0, a1, a2, a3, a4, a5, a6, a7, a8, a9⟩ := s228 hR hT hb
  have hF : FLx (VLf T b 0 0) R0 := flv a3 a4 a5 a6 a7 a8 a9
  have hl1' : LCx g L D M0 := hl1.mv (fun q _ _ => hM0 q (by omega))
  have hl2' : LRx h L D R0 := hl2.mv (by rw [a2 53 (by decide)]) (fun q _ _ => a2 q (by omega))
  obtain ⟨x, M1, R1, b1, b2, b3, b4⟩ := hd hk hB hl1' hl2' hV hF (c := 120) EF.rf (fun _ _ => rfl : RFv R0 R0)
  have hM1 : ∀ q, q ≠ 24 → q ≠ 25 → M1 q = M q := fun q x1 x2 => (b3.1 q x1 x2).trans (hM0 q x1)
  have hR2 : ∀ q, q ≠ 69 → q ≠ 70 → R1 q = R q := fun q x1 x2 => (b4 q x1).trans (a2 q x2)
  have hS1 : MSl g h L D k T M R T M1 R1 := MSl.mk hk hM (hC.mv (hM1 _ (by omega) (by omega)) (hM1 _ (by omega) (by omega)) (hM1 _ (by omega) (by omega)) (hM1 _ (by omega) (by omega))) (hR.mv (hR2 54 (by decide) (by decide))) hT hZ (fun q x1 x2 x3 x4 => hM1 q x1 x2) ⟨fun q x1 x2 x3 x4 => hR2 q x3 x4, fun j _ _ => by rw [hR2 53 (by decide) (by decide)]⟩ (by rw [hM1 26 (by decide) (by decide), hR2 53 (by decide) (by decide)]; exact h26) (by rw [hM1 26 (by decide) (by decide), hR2 53 (by decide) (by decide)]; exact h27) rfl
  have eC : run 5 73 3 [.inr (some 26), .inr (some k), .inr (some 47), .inr (some 24), .inl (b : Int)] [] M = if x = 0 then run 5 73 3 [.inr (some 26), .inr (some k), .inr (some 47), .inr (some 24), .inl ((b + 1 : Nat) : Int)] [] M1 else bV (fnA 74 [.inr (some 26), .inr (some k), .inl (b : Int)] M1) fun M4 => run 5 73 3 [.inr (some 26), .inr (some k), .inr (some 47), .inr (some 24), .inl ((b + 1 : Nat) : Int)] [] M4 := by
    rw [B_73_3 _ _ _ _ hk isW47, if_neg (by omega), s110 hk hC hT, bI_s, bI1_t ((tb_n hb).2 hbo), if_neg (by decide), E_1, E_2, bV_s, bV_s, b1, bI_s, wb]
  have eR : run 4 238 76 [.inr (some 53), .inl (b : Int), v2] [] R = if x = 0 then run 4 238 76 [.inr (some 53), .inl ((b + 1 : Nat) : Int), v2] [] R1 else bV (fnA 235 [.inr (some 53), .inl (b : Int)] R1) fun M4 => run 4 238 76 [.inr (some 53), .inl ((b + 1 : Nat) : Int), v2] [] M4 := by
    rw [B_238_76, if_neg (by omega), s188 hR hT, bI_s, bI1_t ((tb_n hb).2 hbo), if_neg (by decide), a1, bV_s, b2, bI_s, wb]
  by_cases gx : x = 0
  · exact ⟨T, M1, R1, by rw [eC, if_pos gx], by rw [eR, if_pos gx], hS1⟩
  · obtain ⟨T', M', R', m1, m2, m3⟩ := fall hk hS1.1 hb
    exact ⟨T', M', R', by rw [eC, if_neg gx, m1, bV_s], by rw [eR, if_neg gx, m2, bV_s], hS1.tr m3⟩
end MOG
