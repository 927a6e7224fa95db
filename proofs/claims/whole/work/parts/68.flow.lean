/-! A month: what is told, who falls, how cash flows. -/
section MON
variable {g h : Nat → Int} {L : Nat} {D : RU} {k : Nat}
def VLf (T : Nat → Int) (b : Nat) (e d c : Int) : Int := if c = 98 then (b : Int) else if c = 99 then T b else if c = 111 then aOwes T b else if c = 103 then aGets T b else if c = 101 then e else if c = 100 then d else (T 138).tmod 12
set_option maxHeartbeats 400000 in
theorem vw {T : Nat → Int} {M0 : aM} {b : Nat} {e d : Int} (hk : isT k) (hC : TC M0 k T) (hT : TI T) (hb : b < 8) (h3 : M0 24 3 = (b : Int)) (h4 : M0 24 4 = e) (h5 : M0 24 5 = d) : VWx k (VLf T b e d) M0 := fun c hc M hM => by
  have k0 : k + 3 ≤ 15 ∧ 4 ≤ k := by unfold isT at hk; omega
  have hC' : TC M k T := hC.mv (hM.1 k (by omega) (by omega)) (hM.1 (k + 1) (by omega) (by omega)) (hM.1 (k + 2) (by omega) (by omega)) (hM.1 (k + 3) (by omega) (by omega))
  have q3 : M 24 3 = (b : Int) := (hM.2 3 (by decide)).trans h3
  have q4 : M 24 4 = e := (hM.2 4 (by decide)).trans h4
  have q5 : M 24 5 = d := (hM.2 5 (by decide)).trans h5
  rcases hc with rfl | rfl | rfl | rfl | rfl | rfl | rfl
  · have eV : VLf T b e d 98 = (b : Int) := by unfold VLf; rw [if_pos rfl]
    rw [eV, E_9 _ _ _ hk, if_pos rfl, q3]
  · have eV : VLf T b e d 99 = T b := by unfold VLf; rw [if_neg (by decide), if_pos rfl]
    rw [eV, E_9 _ _ _ hk, if_neg (by decide), if_pos rfl, q3, s114 hk hb, bI_s, hC'.1 b hb]
  · have eV : VLf T b e d 111 = aOwes T b := by unfold VLf; rw [if_neg (by decide), if_neg (by decide), if_pos rfl]
    rw [eV, E_9 _ _ _ hk, if_neg (by decide), if_neg (by decide), if_neg (by decide), if_neg (by decide), if_neg (by decide), if_neg (by decide), if_neg (by decide), if_neg (by decide), if_neg (by decide), if_neg (by decide), if_neg (by decide), if_neg (by decide), if_neg (by decide), if_pos rfl, q3, s121 hk hC' hT hb, bI_s]
  · have eV : VLf T b e d 103 = aGets T b := by unfold VLf; rw [if_neg (by decide), if_neg (by decide), if_neg (by decide), if_pos rfl]
    rw [eV, E_9 _ _ _ hk, if_neg (by decide), if_neg (by decide), if_neg (by decide), if_neg (by decide), if_neg (by decide), if_pos rfl, q3, s122 hk hC' hT hb, bI_s]
  · have eV : VLf T b e d 101 = e := by unfold VLf; rw [if_neg (by decide), if_neg (by decide), if_neg (by decide), if_neg (by decide), if_pos rfl]
    rw [eV, E_9 _ _ _ hk, if_neg (by decide), if_neg (by decide), if_neg (by decide), if_pos rfl, q4]
  · have eV : VLf T b e d 100 = d := by unfold VLf; rw [if_neg (by decide), if_neg (by decide), if_neg (by decide), if_neg (by decide), if_neg (by decide), if_pos rfl]
    rw [eV, E_9 _ _ _ hk, if_neg (by decide), if_neg (by decide), if_pos rfl, q5]
  · have eV : VLf T b e d 109 = (T 138).tmod 12 := by unfold VLf; rw [if_neg (by decide), if_neg (by decide), if_neg (by decide), if_neg (by decide), if_neg (by decide), if_neg (by decide)]
    rw [eV, E_9 _ _ _ hk, if_neg (by decide), if_neg (by decide), if_neg (by decide), if_neg (by decide), if_neg (by decide), if_neg (by decide), if_neg (by decide), if_neg (by decide), if_neg (by decide), if_neg (by decide), if_neg (by decide), if_pos rfl, hC'.2.2.2.2.2.1]
set_option maxHeartbeats 400000 in
theorem flv {T : Nat → Int} {R0 : aM} {b : Nat} {e d : Int} (h0 : R0 70 0 = (b : Int)) (h1 : R0 70 1 = T b) (h2 : R0 70 2 = aOwes T b) (h3 : R0 70 3 = aGets T b) (h4 : R0 70 4 = e) (h5 : R0 70 5 = d) (h6 : R0 70 6 = (T 138).tmod 12) : FLx (VLf T b e d) R0 := fun c hc => by
  unfold VLf
  rcases hc with rfl | rfl | rfl | rfl | rfl | rfl | rfl
  · rw [show (fcO 98).toNat = 0 from by decide, if_pos rfl, h0]
  · rw [show (fcO 99).toNat = 1 from by decide, if_neg (by decide), if_pos rfl, h1]
  · rw [show (fcO 111).toNat = 2 from by decide, if_neg (by decide), if_neg (by decide), if_pos rfl, h2]
  · rw [show (fcO 103).toNat = 3 from by decide, if_neg (by decide), if_neg (by decide), if_neg (by decide), if_pos rfl, h3]
  · rw [show (fcO 101).toNat = 4 from by decide, if_neg (by decide), if_neg (by decide), if_neg (by decide), if_neg (by decide), if_pos rfl, h4]
  · rw [show (fcO 100).toNat = 5 from by decide, if_neg (by decide), if_neg (by decide), if_neg (by decide), if_neg (by decide), if_neg (by decide), if_pos rfl, h5]
  · rw [show (fcO 109).toNat = 6 from by decide, if_neg (by decide), if_neg (by decide), if_neg (by decide), if_neg (by decide), if_neg (by decide), if_neg (by decide), h6]
set_option maxHeartbeats 400000 in
theorem s228 {T : Nat → Int} {R : aM} {b : Nat} (hR : TR R 54 T) (hT : TI T) (hb : b < 8) : ∃ R', fnA 228 [.inr (some 53), .inl (b : Int)] R = some (none, R') ∧ (∀ q, q ≠ 70 → R' q = R q) ∧ R' 70 0 = (b : Int) ∧ R' 70 1 = T b ∧ R' 70 2 = aOwes T b ∧ R' 70 3 = aGets T b ∧ R' 70 4 = 0 ∧ R' 70 5 = 0 ∧ R' 70 6 = (T 138).tmod 12 := by
  have y : 0 ≤ (b : Int) ∧ (b : Int) < 141 := by omega
  have e54 : upM R 70 0 (b : Int) 54 b = T b := by rw [up_o (by decide)]; exact hR b (by omega)
  have hR2 : TR (upM (upM R 70 0 (b : Int)) 70 1 (T b)) 54 T := hR.mv (by rw [up_ne (by decide), up_ne (by decide)])
  have hR3 : TR (upM (upM (upM R 70 0 (b : Int)) 70 1 (T b)) 70 2 (aOwes T b)) 54 T := hR2.mv (up_ne (by decide))
  have e6 : upM (upM (upM (upM (upM (upM R 70 0 (b : Int)) 70 1 (T b)) 70 2 (aOwes T b)) 70 3 (aGets T b)) 70 4 0) 70 5 0 54 138 = T 138 := by
    rw [up_o (by decide), up_o (by decide), up_o (by decide)]; exact hR3 138 (by decide)
  refine ⟨upM (upM (upM (upM (upM (upM (upM R 70 0 (b : Int)) 70 1 (T b)) 70 2 (aOwes T b)) 70 3 (aGets T b)) 70 4 0) 70 5 0) 70 6 ((T 138).tmod 12), ?_, fun q hq => ?_, ?_, ?_, ?_, ?_, ?_, ?_, up_s⟩
  · rw [E_228, ix0 hb, if_pos y, Int.toNat_natCast, e54, s192 hR2 hT hb, bI_s, s193 hR3 hT hb, bI_s, e6]
  · rw [up_ne hq, up_ne hq, up_ne hq, up_ne hq, up_ne hq, up_ne hq, up_ne hq]
  · rw [up_j (by decide), up_j (by decide), up_j (by decide), up_j (by decide), up_j (by decide), up_j (by decide), up_s]
  · rw [up_j (by decide), up_j (by decide), up_j (by decide), up_j (by decide), up_j (by decide), up_s]
  · rw [up_j (by decide), up_j (by decide), up_j (by decide), up_j (by decide), up_s]
  · rw [up_j (by decide), up_j (by decide), up_j (by decide), up_s]
  · rw [up_j (by decide), up_j (by decide), up_s]
  · rw [up_j (by decide), up_s]
def CFM (k : Nat) (M M' : aM) : Prop := ∀ q, q ≠ 24 → q ≠ 25 → q ≠ 26 → ¬ (k ≤ q ∧ q ≤ k + 3) → M' q = M q
def RFM (R R' : aM) : Prop := (∀ q, q ≠ 53 → q ≠ 54 → q ≠ 69 → q ≠ 70 → R' q = R q) ∧ ∀ j, j ≠ 29 → j ≠ 30 → R' 53 j = R 53 j
set_option maxHeartbeats 400000 in
theorem CFM.tr {M M1 M2 : aM} (h1 : CFM k M M1) (h2 : CFM k M1 M2) : CFM k M M2 := fun q a b c d => (h2 q a b c d).trans (h1 q a b c d)
set_option maxHeartbeats 400000 in
theorem RFM.tr {M M1 M2 : aM} (h1 : RFM M M1) (h2 : RFM M1 M2) : RFM M M2 := ⟨fun q a b c d => (h2.1 q a b c d).trans (h1.1 q a b c d), fun j a b => (h2.2 j a b).trans (h1.2 j a b)⟩
def MRl (g h : Nat → Int) (L : Nat) (D : RU) (k : Nat) (T : Nat → Int) (M R : aM) : Prop := TC M k T ∧ TR R 54 T ∧ TI T ∧ TZ T ∧ LCx g L D M ∧ LRx h L D R ∧ M 26 0 = R 53 29 ∧ M 26 1 = R 53 30
/- what a step of a month leaves -/
def MSl (g h : Nat → Int) (L : Nat) (D : RU) (k : Nat) (T : Nat → Int) (M R : aM) (T' : Nat → Int) (M' R' : aM) : Prop := MRl g h L D k T' M' R' ∧ CFM k M M' ∧ RFM R R' ∧ T' 138 = T 138
set_option maxHeartbeats 400000 in
theorem MSl.tr {T T1 T2 : Nat → Int} {M M1 M2 R R1 R2 : aM} (h1 : MSl g h L D k T M R T1 M1 R1) (h2 : MSl g h L D k T1 M1 R1 T2 M2 R2) : MSl g h L D k T M R T2 M2 R2 := ⟨h2.1, h1.2.1.tr h2.2.1, h1.2.2.1.tr h2.2.2.1, h2.2.2.2.trans h1.2.2.2⟩
set_option maxHeartbeats 400000 in
theorem MSl.mk {T T' : Nat → Int} {M M' R R' : aM} (hk : isT k) (hM : MRl g h L D k T M R) (c1 : TC M' k T') (c2 : TR R' 54 T') (c3 : TI T') (c4 : TZ T') (c5 : CFM k M M') (c6 : RFM R R') (c7 : M' 26 0 = R' 53 29) (c8 : M' 26 1 = R' 53 30) (c9 : T' 138 = T 138) : MSl g h L D k T M R T' M' R' := by
  have k0 : k + 3 ≤ 15 ∧ 4 ≤ k := by unfold isT at hk; omega
  exact ⟨⟨c1, c2, c3, c4, hM.2.2.2.2.1.mv (fun q a b => c5 q (by omega) (by omega) (by omega) (by omega)), hM.2.2.2.2.2.1.mv (c6.2 13 (by decide) (by decide)) (fun q a b => c6.1 q (by omega) (by omega) (by omega) (by omega)), c7, c8⟩, c5, c6, c9⟩
set_option maxHeartbeats 400000 in
theorem fall {T : Nat → Int} {M R : aM} {b : Nat} (hk : isT k) (hM : MRl g h L D k T M R) (hb : b < 8) : ∃ T' M' R', fnA 74 [.inr (some 26), .inr (some k), .inl (b : Int)] M = some (none, M') ∧ fnA 235 [.inr (some 53), .inl (b : Int)] R = some (none, R') ∧ MSl g h L D k T M R T' M' R' := by
  have k0 : k + 3 ≤ 15 ∧ 4 ≤ k := by unfold isT at hk; omega
  obtain ⟨hC, hR, hT, hZ, hl1, hl2, h26, h27⟩ := hM
  obtain ⟨M1, m1, m2, m3⟩ := s129 hk hC (TM.of hT) hb
  obtain ⟨R1, r1, r2, r3⟩ := s234 hR (TM.of hT) hb
  have e6 : M1 k 6 = aShut T b 139 := m2.2.2.2.2.2.2.1
  have f6 : R1 54 139 = aShut T b 139 := r2 139 (by decide)
  have e0 : upM M1 k 6 (wr (aShut T b 139 + 1)) 26 0 = M 26 0 := by rw [up_o (by omega), m3 26 (by omega) (by omega) (by omega) (by omega)]
  have f0 : upM R1 54 139 (wr (aShut T b 139 + 1)) 53 29 = R 53 29 := by rw [up_o (by decide), r3 53 (by decide)]
  refine ⟨tset (aShut T b) 139 (wr (aShut T b 139 + 1)), upM (upM M1 k 6 (wr (aShut T b 139 + 1))) 26 0 (wr (M 26 0 + 1)), upM (upM R1 54 139 (wr (aShut T b 139 + 1))) 53 29 (wr (R 53 29 + 1)), ?_, ?_, MSl.mk hk ⟨hC, hR, hT, hZ, hl1, hl2, h26, h27⟩ ?_ ?_ ?_ ?_ (fun q a b c d => ?_) ⟨fun q a b c d => ?_, fun j a b => ?_⟩ ?_ ?_ ?_⟩
  · rw [E_74 _ _ _ hk, m1, bV_s, e6, e0]
  · rw [E_235, r1, bV_s, f6, f0]
  · exact (m2.fal _).mv (up_ne (by omega)) (up_ne (by omega)) (up_ne (by omega)) (up_ne (by omega))
  · exact (r2.set 139 _).mv (up_ne (by decide))
  · exact (hT.shut hb).set (by omega) (by omega) (by omega) (by omega) (by omega) (by omega)
  · exact (TZ.shut hT hZ hb).set (by decide)
  · rw [up_ne c, up_ne (by omega), m3 q (by omega) (by omega) (by omega) (by omega)]
  · rw [up_ne a, up_ne b, r3 q b]
  · rw [up_j a, up_o (by decide), r3 53 (by decide)]
  · rw [up_s, up_s, h26]
  · rw [up_j (by decide), up_o (by omega), m3 26 (by omega) (by omega) (by omega) (by omega), up_j (by decide), up_o (by decide), r3 53 (by decide), h27]
  · rw [ts_o (by decide), as_o hb (by decide) (by decide)]
end MON
