/-! What a law answers, in both. -/
section LWE
variable {g h : Nat → Int} {L : Nat} {D : RU} {M0 R0 : aM} {k : Nat} {VAL : Int → Int}
def LBx (g h : Nat → Int) (L : Nat) (D : RU) : Prop := L ≤ 16 ∧ RD (0, g, 480, h, 260) L D
def LCx (g : Nat → Int) (L : Nat) (D : RU) (M : aM) : Prop := CRU 47 M L D ∧ M 52 = g
def LRx (h : Nat → Int) (L : Nat) (D : RU) (R : aM) : Prop := RRU 65 R L D ∧ R 53 13 = (L : Int) ∧ R 64 = h
def VWx (k : Nat) (VAL : Int → Int) (M0 : aM) : Prop := ∀ c, lt7 c → ∀ M, EF M0 M → fnA 9 [.inr (some 24), .inr (some k), .inl c] M = some (some (.inl (VAL c)), M)
def FLx (VAL : Int → Int) (R0 : aM) : Prop := ∀ c, lt7 c → R0 70 (fcO c).toNat = VAL c
set_option maxHeartbeats 400000 in
theorem LCx.mv {M M' : aM} (hC : LCx g L D M) (h : ∀ q, 47 ≤ q → q ≤ 52 → M' q = M q) : LCx g L D M' := ⟨⟨by rw [h 47 (by decide) (by decide)]; exact hC.1.1, fun i hi => by
  have := hC.1.2 i hi
  rw [h (47 + 1) (by decide) (by decide), h (47 + 2) (by decide) (by decide), h (47 + 3) (by decide) (by decide), h (47 + 4) (by decide) (by decide)]
  exact this⟩, by rw [h 52 (by decide) (by decide)]; exact hC.2⟩
set_option maxHeartbeats 400000 in
theorem LRx.mv {M M' : aM} (hC : LRx h L D M) (h1 : M' 53 13 = M 53 13) (h2 : ∀ q, 64 ≤ q → q ≤ 68 → M' q = M q) : LRx h L D M' := ⟨fun i hi => by
  have := hC.1 i hi
  rw [h2 65 (by decide) (by decide), h2 (65 + 1) (by decide) (by decide), h2 (65 + 2) (by decide) (by decide), h2 (65 + 3) (by decide) (by decide)]
  exact this, h1.trans hC.2.1, (h2 64 (by decide) (by decide)).trans hC.2.2⟩
set_option maxHeartbeats 400000 in
theorem askT (hk : isT k) (hB : LBx g h L D) (hC : LCx g L D M0) (hR : LRx h L D R0) (hV : VWx k VAL M0) (hF : FLx VAL R0) {i : Nat} (hi : i < L) : ∃ x : Int, (x = 0 ∨ x = 1) ∧ (∀ M, EF M0 M → ∃ M', fnA 5 [.inr (some 24), .inr (some 47), .inr (some k), .inl (M (47 + 3) i), .inl (M (47 + 4) i)] M = some (some (.inl x), M') ∧ EF M0 M') ∧ ∀ R, RFv R0 R → ∃ R', fnA 225 [.inr (some 53), .inl (R 67 i), .inl (R 68 i)] R = some (some (.inl x), R') ∧ RFv R0 R' := by
  obtain ⟨y1, y2, y3, y4, y5, d, y6, y7⟩ := hB.2 i hi
  have hE : EV g h true (D i).2.1.2.1 (D i).2.2.2.1 (D i).2.1.2.2 (D i).2.2.2.2 d := y7
  obtain ⟨x, x1, x2, x3⟩ := evR hk (fun j _ => by rw [hC.2]) (fun j _ => by rw [hR.2.2]) hV hF hE y3 y4 y6
  refine ⟨x, x1 rfl, fun M hM => ?_, fun R hRR => ?_⟩
  · have e := (hC.mv (fun q _ _ => hM.1 q (by omega) (by omega))).1.2 i hi
    rw [e.2.2.1, e.2.2.2]; exact x2 M hM
  · have e := (hR.mv (by rw [hRR 53 (by decide)]) (fun q _ _ => hRR q (by omega))).1 i hi
    have e1 : R 67 i = ((D i).2.2.2.1 : Int) := e.2.2.1
    have e2 : R 68 i = ((D i).2.2.2.2 : Int) := e.2.2.2
    rw [e1, e2]; exact x3 R hRR
set_option maxHeartbeats 400000 in
theorem askN (hk : isT k) (hB : LBx g h L D) (hC : LCx g L D M0) (hR : LRx h L D R0) (hV : VWx k VAL M0) (hF : FLx VAL R0) {i : Nat} (hi : i < L) (hn : (D i).1 ≠ 120) : ∃ x : Int, (∀ M, EF M0 M → ∃ M', fnA 5 [.inr (some 24), .inr (some 47), .inr (some k), .inl (M (47 + 2) i), .inl (M (47 + 3) i)] M = some (some (.inl x), M') ∧ EF M0 M') ∧ ∀ R, RFv R0 R → ∃ R', fnA 225 [.inr (some 53), .inl (R 66 i), .inl (R 67 i)] R = some (some (.inl x), R') ∧ RFv R0 R' := by
  obtain ⟨y1, y2, y3, y4, y5, y6⟩ := hB.2 i hi
  obtain ⟨d, y7, y8⟩ := y5 hn
  have hE : EV g h false (D i).2.1.1 (D i).2.2.1 (D i).2.1.2.1 (D i).2.2.2.1 d := y8
  have z1 : (D i).2.1.2.2 ≤ 480 := y3
  have z2 : (D i).2.2.2.2 ≤ 260 := y4
  obtain ⟨x, x1, x2, x3⟩ := evR hk (fun j _ => by rw [hC.2]) (fun j _ => by rw [hR.2.2]) hV hF hE (by omega) (by omega) y7
  refine ⟨x, fun M hM => ?_, fun R hRR => ?_⟩
  · have e := (hC.mv (fun q _ _ => hM.1 q (by omega) (by omega))).1.2 i hi
    rw [e.2.1, e.2.2.1]; exact x2 M hM
  · have e := (hR.mv (by rw [hRR 53 (by decide)]) (fun q _ _ => hRR q (by omega))).1 i hi
    have e1 : R 66 i = ((D i).2.2.1 : Int) := e.2.1
    have e2 : R 67 i = ((D i).2.2.2.1 : Int) := e.2.2.1
    rw [e1, e2]; exact x3 R hRR
set_option maxHeartbeats 400000 in
theorem amL (hk : isT k) (hB : LBx g h L D) (hC : LCx g L D M0) (hR : LRx h L D R0) (hV : VWx k VAL M0) (hF : FLx VAL R0) {c cap : Int} (hc : c ≠ 120) (hcap : 0 ≤ cap) : ∀ n i, i + n = L → ∀ M R, EF M0 M → RFv R0 R → ∃ x M' R', run 4 3 3 [.inr (some 24), .inr (some 47), .inr (some k), .inl c, .inl cap, .inl (i : Int), .inr none] [] M = some (some (.inl x), M') ∧ run 2 226 2 [.inr (some 53), .inl c, .inl cap, .inl (i : Int), .inr none] [] R = some (some (.inl x), R') ∧ EF M0 M' ∧ RFv R0 R' ∧ 0 ≤ x ∧ x ≤ cap := by
  have hL := hB.1
  intro n
  induction n with
  | zero =>
    intro i hi M R hM hRR
    have c5 : M 47 5 = (L : Int) := by rw [hM.1 47 (by decide) (by decide)]; exact hC.1.1
    have r5 : R 53 13 = (L : Int) := by rw [hRR 53 (by decide)]; exact hR.2.1
    refine ⟨0, M, R, ?_, ?_, hM, hRR, Int.le_refl _, hcap⟩
    · rw [B_3_3 _ _ _ _ _ _ isW47 hk]
      by_cases g : (16 : Int) ≤ (i : Int)
      · rw [if_pos g]
      · rw [if_neg g, c5, if_pos (by omega)]
    · rw [B_226_2, r5, if_pos (by omega)]
  | succ n ih =>
    intro i hi M R hM hRR
    have c5 : M 47 5 = (L : Int) := by rw [hM.1 47 (by decide) (by decide)]; exact hC.1.1
    have r5 : R 53 13 = (L : Int) := by rw [hRR 53 (by decide)]; exact hR.2.1
    have y : 0 ≤ (i : Int) ∧ (i : Int) < 16 := by omega
    have w := w1p (a := i) (by omega)
    have c1 : M (47 + 1) i = (D i).1 := ((hC.mv (fun q _ _ => hM.1 q (by omega) (by omega))).1.2 i (by omega)).1
    have r1 : R 65 i = (D i).1 := ((hR.mv (by rw [hRR 53 (by decide)]) (fun q _ _ => hRR q (by omega))).1 i (by omega)).1
    by_cases gc : (D i).1 = c
    case neg =>
      obtain ⟨x, M', R', x1, x2, x3⟩ := ih (i + 1) (by omega) M R hM hRR
      refine ⟨x, M', R', ?_, ?_, x3⟩
      · rw [B_3_3 _ _ _ _ _ _ isW47 hk, if_neg (by omega), c5, if_neg (by omega), if_pos y, Int.toNat_natCast, c1, if_neg gc, w]; exact x1
      · rw [B_226_2, r5, if_neg (by omega), if_pos y, Int.toNat_natCast, r1, if_neg gc, w]; exact x2
    obtain ⟨t, t1, t2, t3⟩ := askT hk hB hC hR hV hF (i := i) (by omega)
    obtain ⟨M1, m1, m2⟩ := t2 M hM
    obtain ⟨R1, n1, n2⟩ := t3 R hRR
    have q1 : run 4 3 3 [.inr (some 24), .inr (some 47), .inr (some k), .inl c, .inl cap, .inl (i : Int), .inr none] [] M = if t = 0 then run 4 3 3 [.inr (some 24), .inr (some 47), .inr (some k), .inl c, .inl cap, .inl ((i + 1 : Nat) : Int), .inr none] [] M1 else bI (fnA 5 [.inr (some 24), .inr (some 47), .inr (some k), .inl (M1 (47 + 2) i), .inl (M1 (47 + 3) i)] M1) fun w2 M2 => some (some (.inl (max 0 (min cap w2))), M2) := by
      rw [B_3_3 _ _ _ _ _ _ isW47 hk, if_neg (by omega), c5, if_neg (by omega), if_pos y, Int.toNat_natCast, c1, if_pos gc, if_pos y, if_pos y, m1, bI_s, if_pos y, if_pos y, w]
    have q2 : run 2 226 2 [.inr (some 53), .inl c, .inl cap, .inl (i : Int), .inr none] [] R = if t = 1 then (bI (fnA 225 [.inr (some 53), .inl (R1 66 i), .inl (R1 67 i)] R1) fun w2 M2 => if 0 ≤ w2 then if w2 ≤ cap then some (some (.inl w2), M2) else some (some (.inl cap), M2) else some (some (.inl 0), M2)) else run 2 226 2 [.inr (some 53), .inl c, .inl cap, .inl ((i + 1 : Nat) : Int), .inr none] [] R1 := by
      rw [B_226_2, r5, if_neg (by omega), if_pos y, Int.toNat_natCast, r1, if_pos gc, if_pos y, if_pos y, n1, bI_s, if_pos y, if_pos y, w]
    rcases t1 with rfl | rfl
    · obtain ⟨x, M', R', x1, x2, x3⟩ := ih (i + 1) (by omega) M1 R1 m2 n2
      exact ⟨x, M', R', by rw [q1, if_pos rfl]; exact x1, by rw [q2, if_neg (by decide)]; exact x2, x3⟩
    · obtain ⟨v, v1, v2⟩ := askN hk hB hC hR hV hF (i := i) (by omega) (by rw [gc]; exact hc)
      obtain ⟨M2, a1, a2⟩ := v1 M1 m2
      obtain ⟨R2, b1, b2⟩ := v2 R1 n2
      refine ⟨max 0 (min cap v), M2, R2, by rw [q1, if_neg (by decide), a1, bI_s], ?_, a2, b2, by omega, by omega⟩
      rw [q2, if_pos rfl, b1, bI_s]
      by_cases g0 : 0 ≤ v
      · rw [if_pos g0]
        by_cases g1 : v ≤ cap
        · rw [if_pos g1, show max 0 (min cap v) = v by omega]
        · rw [if_neg g1, show max 0 (min cap v) = cap by omega]
      · rw [if_neg g0, show max 0 (min cap v) = 0 by omega]
set_option maxHeartbeats 400000 in
theorem am (hk : isT k) (hB : LBx g h L D) (hC : LCx g L D M0) (hR : LRx h L D R0) (hV : VWx k VAL M0) (hF : FLx VAL R0) {c cap : Int} (hc : c ≠ 120) (hcap : 0 ≤ cap) {M R : aM} (hM : EF M0 M) (hRR : RFv R0 R) : ∃ x M' R', fnA 3 [.inr (some 24), .inr (some 47), .inr (some k), .inl c, .inl cap] M = some (some (.inl x), M') ∧ fnA 226 [.inr (some 53), .inl c, .inl cap] R = some (some (.inl x), R') ∧ EF M0 M' ∧ RFv R0 R' ∧ 0 ≤ x ∧ x ≤ cap := by
  obtain ⟨x, M', R', x1, x2, x3⟩ := amL hk hB hC hR hV hF hc hcap L 0 (by omega) M R hM hRR
  exact ⟨x, M', R', (E_3 _ _ _ _ _ isW47 hk).trans x1, (E_226 _ _ _).trans x2, x3⟩
set_option maxHeartbeats 400000 in
theorem hdL (hk : isT k) (hB : LBx g h L D) (hC : LCx g L D M0) (hR : LRx h L D R0) (hV : VWx k VAL M0) (hF : FLx VAL R0) {c : Int} : ∀ n i, i + n = L → ∀ M R, EF M0 M → RFv R0 R → ∃ x M' R', run 4 4 3 [.inr (some 24), .inr (some 47), .inr (some k), .inl c, .inl (i : Int)] [] M = some (some (.inl x), M') ∧ run 2 227 2 [.inr (some 53), .inl c, .inl (i : Int)] [] R = some (some (.inl x), R') ∧ EF M0 M' ∧ RFv R0 R' := by
  have hL := hB.1
  intro n
  induction n with
  | zero =>
    intro i hi M R hM hRR
    have c5 : M 47 5 = (L : Int) := by rw [hM.1 47 (by decide) (by decide)]; exact hC.1.1
    have r5 : R 53 13 = (L : Int) := by rw [hRR 53 (by decide)]; exact hR.2.1
    refine ⟨0, M, R, ?_, ?_, hM, hRR⟩
    · rw [B_4_3 _ _ _ _ _ isW47 hk]
      by_cases g : (16 : Int) ≤ (i : Int)
      · rw [if_pos g]
      · rw [if_neg g, c5, if_pos (by omega)]
    · rw [B_227_2, r5, if_pos (by omega)]
  | succ n ih =>
    intro i hi M R hM hRR
    have c5 : M 47 5 = (L : Int) := by rw [hM.1 47 (by decide) (by decide)]; exact hC.1.1
    have r5 : R 53 13 = (L : Int) := by rw [hRR 53 (by decide)]; exact hR.2.1
    have y : 0 ≤ (i : Int) ∧ (i : Int) < 16 := by omega
    have w := w1p (a := i) (by omega)
    have c1 : M (47 + 1) i = (D i).1 := ((hC.mv (fun q _ _ => hM.1 q (by omega) (by omega))).1.2 i (by omega)).1
    have r1 : R 65 i = (D i).1 := ((hR.mv (by rw [hRR 53 (by decide)]) (fun q _ _ => hRR q (by omega))).1 i (by omega)).1
    by_cases gc : (D i).1 = c
    case neg =>
      obtain ⟨x, M', R', x1, x2, x3⟩ := ih (i + 1) (by omega) M R hM hRR
      refine ⟨x, M', R', ?_, ?_, x3⟩
      · rw [B_4_3 _ _ _ _ _ isW47 hk, if_neg (by omega), c5, if_neg (by omega), if_pos y, Int.toNat_natCast, c1, if_neg gc, w]; exact x1
      · rw [B_227_2, r5, if_neg (by omega), if_pos y, Int.toNat_natCast, r1, if_neg gc, w]; exact x2
    obtain ⟨t, t1, t2, t3⟩ := askT hk hB hC hR hV hF (i := i) (by omega)
    obtain ⟨M1, m1, m2⟩ := t2 M hM
    obtain ⟨R1, n1, n2⟩ := t3 R hRR
    have q1 : run 4 4 3 [.inr (some 24), .inr (some 47), .inr (some k), .inl c, .inl (i : Int)] [] M = if t = 0 then run 4 4 3 [.inr (some 24), .inr (some 47), .inr (some k), .inl c, .inl ((i + 1 : Nat) : Int)] [] M1 else some (some (.inl 1), M1) := by
      rw [B_4_3 _ _ _ _ _ isW47 hk, if_neg (by omega), c5, if_neg (by omega), if_pos y, Int.toNat_natCast, c1, if_pos gc, if_pos y, if_pos y, m1, bI_s, w]
    have q2 : run 2 227 2 [.inr (some 53), .inl c, .inl (i : Int)] [] R = if t = 1 then some (some (.inl 1), R1) else run 2 227 2 [.inr (some 53), .inl c, .inl ((i + 1 : Nat) : Int)] [] R1 := by
      rw [B_227_2, r5, if_neg (by omega), if_pos y, Int.toNat_natCast, r1, if_pos gc, if_pos y, if_pos y, n1, bI_s, w]
    rcases t1 with rfl | rfl
    · obtain ⟨x, M', R', x1, x2, x3⟩ := ih (i + 1) (by omega) M1 R1 m2 n2
      exact ⟨x, M', R', by rw [q1, if_pos rfl]; exact x1, by rw [q2, if_neg (by decide)]; exact x2, x3⟩
    · exact ⟨1, M1, R1, by rw [q1, if_neg (by decide)], by rw [q2, if_pos rfl], m2, n2⟩
set_option maxHeartbeats 400000 in
theorem hd (hk : isT k) (hB : LBx g h L D) (hC : LCx g L D M0) (hR : LRx h L D R0) (hV : VWx k VAL M0) (hF : FLx VAL R0) {c : Int} {M R : aM} (hM : EF M0 M) (hRR : RFv R0 R) : ∃ x M' R', fnA 4 [.inr (some 24), .inr (some 47), .inr (some k), .inl c] M = some (some (.inl x), M') ∧ fnA 227 [.inr (some 53), .inl c] R = some (some (.inl x), R') ∧ EF M0 M' ∧ RFv R0 R' := by
  obtain ⟨x, M', R', x1, x2, x3⟩ := hdL hk hB hC hR hV hF L 0 (by omega) M R hM hRR
  exact ⟨x, M', R', (E_4 _ _ _ _ isW47 hk).trans x1, (E_227 _ _).trans x2, x3⟩
end LWE
