/-! Reading a text: the class's tape (cell 2) and the reference's (cell 53), sign by sign; numbers. -/
section TXT
def flt (k p : Nat) : Int := -1000 * (k : Int) - (p : Int)
/- a text of n bytes, behind it nothing -/
def FT (f : Nat → Int) (n : Nat) : Prop := n ≤ 240 ∧ (∀ i, i < n → 0 ≤ f i ∧ f i < 256) ∧ ∀ i, n ≤ i → f i = -1
def CX (f : Nat → Int) (n p : Nat) (M : aM) : Prop := M 2 2 = (n : Int) ∧ M 2 3 = (p : Int) ∧ (∀ i, i < n → M 3 i = f i) ∧ ∃ m : Nat, M 2 1 = (m : Int) ∧ n ≤ m ∧ m ≤ 260
def RX (f : Nat → Int) (n p : Nat) (R : aM) : Prop := R 53 6 = (n : Int) ∧ R 53 5 = (p : Int) ∧ ∀ i, i < n → iAnd (R 57 i) 255 = f i
set_option maxHeartbeats 100000 in
theorem flt_w {k p : Nat} (hk : k < 100) (hp : p < 1000) : wr (wr (-1000 * (k : Int)) - (p : Int)) = flt k p := by
  unfold flt
  rw [wr_s (z := -1000 * _) (by omega) (by omega), wr_s (by omega) (by omega)]
set_option maxHeartbeats 100000 in
theorem p240 {f : Nat → Int} {n p : Nat} (hf : FT f n) (h : f p ≠ -1) : p < n := by
  by_cases e : p < n
  · exact e
  · exact absurd (hf.2.2 p (by omega)) h
section
variable {f : Nat → Int} {n p : Nat} {M : aM}
set_option maxHeartbeats 100000 in
theorem s101 (hf : FT f n) (h : CX f n p M) : fnA 101 [.inr (some 2)] M = some (some (.inl (f p)), M) := by
  obtain ⟨h2, h3, h4, m, h5, h6, h7⟩ := h
  rw [E_101, h2, h3]
  by_cases g : n ≤ p
  · rw [if_pos (by omega), hf.2.2 p g]
  · have e95 : fnA 95 [.inr (some 2), .inl (p : Int)] M = some (some (.inl (M 3 p)), M) := by
      rw [E_95, h5, if_neg (by omega), if_neg (by omega), if_neg (by omega), if_pos (by omega), Int.toNat_natCast]
    rw [if_neg (by omega), e95, bI_s, h4 p (by omega)]
/- the class's text frame, with other cells -/
def CF (P : Nat → Bool) (M M' : aM) : Prop := (∀ q, q ≠ 2 → P q = false → M' q = M q) ∧ M' 2 1 = M 2 1 ∧ M' 2 2 = M 2 2 ∧ ∀ j, 5 < j → M' 2 j = M 2 j
set_option maxHeartbeats 100000 in
theorem CF.rf {P : Nat → Bool} {M : aM} : CF P M M := ⟨fun _ _ _ => rfl, rfl, rfl, fun _ _ => rfl⟩
set_option maxHeartbeats 100000 in
theorem CF.tr {P : Nat → Bool} {M M1 M2 : aM} (h1 : CF P M M1) (h2 : CF P M1 M2) : CF P M M2 := ⟨fun q a b => (h2.1 q a b).trans (h1.1 q a b), h2.2.1.trans h1.2.1, h2.2.2.1.trans h1.2.2.1, fun j hj => (h2.2.2.2 j hj).trans (h1.2.2.2 j hj)⟩
set_option maxHeartbeats 100000 in
theorem CF.u2 {P : Nat → Bool} {M M1 : aM} (h : CF P M M1) {j : Nat} {x : Int} (hj : j = 3 ∨ j = 4 ∨ j = 5) : CF P M (upM M1 2 j x) := ⟨fun q a b => by rw [up_ne a]; exact h.1 q a b, by rw [up_j (by omega)]; exact h.2.1, by rw [up_j (by omega)]; exact h.2.2.1, fun i hi => by rw [up_j (by omega)]; exact h.2.2.2 i hi⟩
set_option maxHeartbeats 100000 in
theorem CF.up {P : Nat → Bool} {M M1 : aM} (h : CF P M M1) {q j : Nat} {x : Int} (hq : q ≠ 2) (hP : P q = true) : CF P M (upM M1 q j x) := ⟨fun a ha b => by
  have : a ≠ q := fun e => by rw [e, hP] at b; cases b
  rw [up_ne this]; exact h.1 a ha b, by rw [up_o (Ne.symm hq)]; exact h.2.1, by rw [up_o (Ne.symm hq)]; exact h.2.2.1, fun i hi => by rw [up_o (Ne.symm hq)]; exact h.2.2.2 i hi⟩
set_option maxHeartbeats 100000 in
theorem CF.le {P Q : Nat → Bool} {M M1 : aM} (h : CF P M M1) (hPQ : ∀ q, P q = true → Q q = true) : CF Q M M1 := ⟨fun q a b => h.1 q a (by
  cases e : P q with
  | false => rfl
  | true => rw [hPQ q e] at b; cases b), h.2⟩
/- the text goes on from another place -/
set_option maxHeartbeats 100000 in
theorem CX.mv {P : Nat → Bool} {M' : aM} {p' : Nat} (h : CX f n p M) (hF : CF P M M') (h3 : P 3 = false) (hp : M' 2 3 = (p' : Int)) : CX f n p' M' := by
  obtain ⟨a2, a3, a4, m, a5, a6⟩ := h
  refine ⟨by rw [hF.2.2.1]; exact a2, hp, fun i hi => by rw [hF.1 3 (by decide) h3]; exact a4 i hi, m, by rw [hF.2.1]; exact a5, a6⟩
set_option maxHeartbeats 100000 in
theorem CX.st (h : CX f n p M) (p' : Nat) : CX f n p' (upM M 2 3 (p' : Int)) := h.mv (P := fun _ => false) (CF.rf.u2 (Or.inl rfl)) rfl up_s
set_option maxHeartbeats 100000 in
theorem CX.o (h : CX f n p M) {q j : Nat} {x : Int} (hq : q ≠ 2 ∧ q ≠ 3) : CX f n p (upM M q j x) := h.mv (P := fun a => a == q) (CF.up CF.rf hq.1 (by simp)) (by simpa using fun e => hq.2 e.symm) (by rw [up_o (Ne.symm hq.1)]; exact h.2.1)
set_option maxHeartbeats 100000 in
theorem CX.o2 (h : CX f n p M) {j : Nat} {x : Int} (hj : j = 4 ∨ j = 5) : CX f n p (upM M 2 j x) := h.mv (P := fun _ => false) (CF.rf.u2 (by omega)) rfl (by rw [up_j (by omega)]; exact h.2.1)
set_option maxHeartbeats 100000 in
theorem s103 {k : Nat} (hk : k < 100) (hp : p < 1000) (h : M 2 3 = (p : Int)) : fnA 103 [.inr (some 2), .inl (k : Int)] M = some (some (.inl 0), upM M 2 5 (flt k p)) := by
  rw [E_103, h, E_179, bI_s, flt_w hk hp]
set_option maxHeartbeats 100000 in
theorem s104 {k : Nat} (hk : k < 100) (hp : p < 1000) (M : aM) : fnA 104 [.inr (some 2), .inl (k : Int), .inl (p : Int)] M = some (some (.inl 0), upM M 2 5 (flt k p)) := by
  rw [E_104, E_179, bI_s, flt_w hk hp]
set_option maxHeartbeats 100000 in
theorem s102 (hp : p < 1000) (h : M 2 3 = (p : Int)) : fnA 102 [.inr (some 2)] M = some (none, upM M 2 3 ((p + 1 : Nat) : Int)) := by
  rw [E_102, h, w1p (by omega)]
set_option maxHeartbeats 100000 in
theorem s105 (hf : FT f n) (h : CX f n p M) (hp : p < 1000) (c : Int) : fnA 105 [.inr (some 2), .inl c] M = if f p = c then some (some (.inl 1), upM M 2 3 ((p + 1 : Nat) : Int)) else some (some (.inl 0), upM M 2 5 (flt 1 p)) := by
  rw [E_105, s101 hf h, bI_s, h.2.1, w1p (by omega)]
  by_cases g : f p = c
  · rw [if_pos g, if_pos g]
  · rw [if_neg g, if_neg g, show (1 : Int) = ((1 : Nat) : Int) from rfl, s103 (by decide) hp h.2.1, bI_s, if_pos (Or.inl rfl)]
set_option maxHeartbeats 100000 in
theorem s178 (x : Int) (M : aM) : fnA 178 [.inl x] M = some (some (.inl (if 48 ≤ x ∧ x ≤ 57 then 1 else 0)), M) := by
  rw [E_178]
  by_cases g : x < 48
  · rw [if_pos g, if_neg (by omega)]
  · rw [if_neg g]
    by_cases g2 : 57 < x
    · rw [if_pos g2, if_neg (by omega)]
    · rw [if_neg g2, if_pos (by omega)]
/- a number: k digits more may come -/
def pnum (f : Nat → Int) : Nat → Nat → Int → Int ⊕ (Nat × Int)
  | 0, p, a => if 48 ≤ f p ∧ f p ≤ 57 then .inl (flt 2 p) else .inr (p, a)
  | k + 1, p, a => if 48 ≤ f p ∧ f p ≤ 57 then pnum f k (p + 1) (10 * a + f p - 48) else .inr (p, a)
def pnum1 (f : Nat → Int) (k p : Nat) : Int ⊕ (Nat × Int) := if 48 ≤ f p ∧ f p ≤ 57 then pnum f k p 0 else .inl (flt 1 p)
/- what the class leaves behind a number -/
def cNum (M M' : aM) (x : aX) (r : Int ⊕ (Nat × Int)) : Prop := match r with
  | .inl e => x = some (some (.inl 0), M') ∧ M' 2 5 = e
  | .inr (p', v) => x = some (some (.inl 1), M') ∧ M' 2 3 = (p' : Int) ∧ M' 2 4 = v
set_option maxHeartbeats 100000 in
theorem wnum {a c : Int} (ha : 0 ≤ a) (h : a < 100000) (hc : 0 ≤ c ∧ c < 256) : wr (wr (wr (a * 10) + c) - 48) = 10 * a + c - 48 := by
  rw [wr_s (z := a * 10) (by omega) (by omega), wr_s (z := a * 10 + c) (by omega) (by omega), wr_s (by omega) (by omega)]
  omega
set_option maxHeartbeats 100000 in
theorem wnum' {a c : Int} (ha : 0 ≤ a) (h : a < 100000) (hc : 0 ≤ c ∧ c < 256) : wr (wr (wr (10 * a) + c) - 48) = 10 * a + c - 48 := by
  rw [wr_s (z := 10 * a) (by omega) (by omega), wr_s (z := 10 * a + c) (by omega) (by omega), wr_s (by omega) (by omega)]
set_option maxHeartbeats 100000 in
theorem p10 {d : Nat} (hd : d ≤ 4) {a : Int} (ha : a < ((10 ^ d : Nat) : Int)) : a < 10000 := by
  have h2 : 10 ^ d ≤ 10 ^ 4 := Nat.pow_le_pow_right (by decide) hd
  omega
set_option maxHeartbeats 100000 in
theorem p10s {d : Nat} {a c : Int} (ha : a < ((10 ^ d : Nat) : Int)) (hc : c ≤ 57) : 10 * a + c - 48 < ((10 ^ (d + 1) : Nat) : Int) := by
  have e : 10 ^ (d + 1) = 10 * 10 ^ d := by rw [Nat.pow_succ, Nat.mul_comm]
  rw [e]
  omega
set_option maxHeartbeats 100000 in
theorem s106l (hf : FT f n) (P : Nat → Bool) (h3 : P 3 = false) {K : Nat} (hK : K ≤ 5) : ∀ (k d p : Nat) (a : Int) (v : aV) (M : aM), d + k = K → CX f n p M → M 2 4 = a → 0 ≤ a → a < ((10 ^ d : Nat) : Int) → p < 1000 → ∃ M', CF P M M' ∧ cNum M M' (run 2 106 7 [.inr (some 2), .inl (K : Int), .inl (d : Int), v] [] M) (if d = 0 ∧ ¬ (48 ≤ f p ∧ f p ≤ 57) then .inl (flt 1 p) else pnum f k p a) := by
  intro k
  induction k with
  | zero =>
    intro d p a v M hd hX h4 a0 a1 hp1
    have hdK : d = K := by omega
    subst hdK
    by_cases g : 48 ≤ f p ∧ f p ≤ 57
    · have hp : p < n := p240 hf (by omega)
      have hn4 := hf.1
      refine ⟨upM M 2 5 (flt 2 p), CF.rf.u2 (by omega), ?_⟩
      rw [if_neg (fun z => z.2 g)]
      unfold pnum
      rw [if_pos g]
      refine ⟨?_, up_s⟩
      rw [B_106_7, if_neg (Int.lt_irrefl _), s101 hf hX, bI_s, s178, bI_s, if_pos g, if_neg (by decide), if_pos rfl, show (2 : Int) = ((2 : Nat) : Int) from rfl, s103 (by decide) hp1 hX.2.1, bI_s, if_pos (Or.inl rfl)]
    · by_cases d0 : d = 0
      · rw [if_pos ⟨d0, g⟩]
        · refine ⟨upM M 2 5 (flt 1 p), CF.rf.u2 (by omega), ?_, up_s⟩
          rw [B_106_7, if_neg (Int.lt_irrefl _), s101 hf hX, bI_s, s178, bI_s, if_neg g, if_pos rfl, if_neg (by omega), show (1 : Int) = ((1 : Nat) : Int) from rfl, s103 (by decide) hp1 hX.2.1, bI_s, if_pos rfl]
      · rw [if_neg (fun z => d0 z.1)]
        unfold pnum
        rw [if_neg g]
        refine ⟨M, CF.rf, ?_, hX.2.1, h4⟩
        rw [B_106_7, if_neg (Int.lt_irrefl _), s101 hf hX, bI_s, s178, bI_s, if_neg g, if_pos rfl, if_pos (by omega)]
  | succ k ih =>
    intro d p a v M hd hX h4 a0 a1 hp1
    have b0 : ¬ (K : Int) < (d : Int) := by omega
    by_cases g : 48 ≤ f p ∧ f p ≤ 57
    · have hp : p < n := p240 hf (by omega)
      have hn4 := hf.1
      have hd4 : d ≤ 4 := by omega
      have hfp := hf.2.1 p hp
      have a2 := p10 hd4 a1
      have w := wnum (c := f p) a0 (by omega) hfp
      have b1 : ¬ (d : Int) = (K : Int) := by omega
      have e0 : run 2 106 7 [.inr (some 2), .inl (K : Int), .inl (d : Int), v] [] M = run 2 106 7 [.inr (some 2), .inl (K : Int), .inl ((d + 1 : Nat) : Int), .inl (f p)] [] (upM (upM M 2 4 (10 * a + f p - 48)) 2 3 ((p + 1 : Nat) : Int)) := by
        rw [B_106_7, if_neg b0, s101 hf hX, bI_s, s178, bI_s, if_pos g, if_neg (by decide), if_neg b1, h4, w, up_j (by decide), hX.2.1, w1p (by omega), w1p (by omega)]
      have hpn : (if d = 0 ∧ ¬ (48 ≤ f p ∧ f p ≤ 57) then (.inl (flt 1 p) : Int ⊕ (Nat × Int)) else pnum f (k + 1) p a) = pnum f k (p + 1) (10 * a + f p - 48) := by
        rw [if_neg (fun z => z.2 g)]
        show (if 48 ≤ f p ∧ f p ≤ 57 then pnum f k (p + 1) (10 * a + f p - 48) else .inr (p, a)) = _
        rw [if_pos g]
      obtain ⟨M', c1, c2⟩ := ih (d + 1) (p + 1) (10 * a + f p - 48) (.inl (f p)) (upM (upM M 2 4 (10 * a + f p - 48)) 2 3 ((p + 1 : Nat) : Int)) (by omega) ((hX.o2 (Or.inl rfl)).st (p + 1)) (by rw [up_j (by decide), up_s]) (by omega) (p10s a1 g.2) (by omega)
      rw [if_neg (fun z => absurd z.1 (by omega))] at c2
      refine ⟨M', ((CF.rf.u2 (by omega)).u2 (by omega)).tr c1, ?_⟩
      rw [hpn, e0]
      exact c2
    · by_cases d0 : d = 0
      · rw [if_pos ⟨d0, g⟩]
        · refine ⟨upM M 2 5 (flt 1 p), CF.rf.u2 (by omega), ?_, up_s⟩
          rw [B_106_7, if_neg b0, s101 hf hX, bI_s, s178, bI_s, if_neg g, if_pos rfl, if_neg (by omega), show (1 : Int) = ((1 : Nat) : Int) from rfl, s103 (by decide) hp1 hX.2.1, bI_s, if_pos rfl]
      · rw [if_neg (fun z => d0 z.1)]
        show ∃ M', CF P M M' ∧ cNum M M' _ (if 48 ≤ f p ∧ f p ≤ 57 then pnum f k (p + 1) (10 * a + f p - 48) else .inr (p, a))
        rw [if_neg g]
        refine ⟨M, CF.rf, ?_, hX.2.1, h4⟩
        rw [B_106_7, if_neg b0, s101 hf hX, bI_s, s178, bI_s, if_neg g, if_pos rfl, if_pos (by omega)]
/- a number, in the class -/
set_option maxHeartbeats 100000 in
theorem s106 (hf : FT f n) (P : Nat → Bool) (h3 : P 3 = false) {K : Nat} (hK : K + 1 ≤ 5) (hX : CX f n p M) (hp1 : p < 1000) : ∃ M', CF P M M' ∧ cNum M M' (fnA 106 [.inr (some 2), .inl ((K + 1 : Nat) : Int)] M) (pnum1 f (K + 1) p) := by
  obtain ⟨M', c1, c2⟩ := s106l hf P h3 hK (K + 1) 0 p 0 (.inr none) (upM M 2 4 0) (by omega) (hX.o2 (Or.inl rfl)) up_s (Int.le_refl _) (by decide) hp1
  refine ⟨M', (CF.rf.u2 (by omega)).tr c1, ?_⟩
  rw [E_106]
  unfold pnum1
  by_cases g : 48 ≤ f p ∧ f p ≤ 57
  · rw [if_pos g]
    rw [if_neg (fun z => z.2 g)] at c2
    exact c2
  · rw [if_neg g]
    rw [if_pos ⟨rfl, g⟩] at c2
    exact c2
end
section
variable {f : Nat → Int} {n p : Nat} {R : aM}
/- the reference's frame: fields of 53 and other cells -/
def RF (P : Nat → Bool) (D : Nat → Bool) (R R' : aM) : Prop := (∀ q, q ≠ 53 → P q = false → R' q = R q) ∧ ∀ j, D j = false → R' 53 j = R 53 j
set_option maxHeartbeats 100000 in
theorem RF.rf {P D : Nat → Bool} : RF P D R R := ⟨fun _ _ _ => rfl, fun _ _ => rfl⟩
set_option maxHeartbeats 100000 in
theorem RF.tr {P D : Nat → Bool} {R1 R2 : aM} (h1 : RF P D R R1) (h2 : RF P D R1 R2) : RF P D R R2 := ⟨fun q a b => (h2.1 q a b).trans (h1.1 q a b), fun j hj => (h2.2 j hj).trans (h1.2 j hj)⟩
set_option maxHeartbeats 100000 in
theorem RF.u {P D : Nat → Bool} {R1 : aM} (h : RF P D R R1) {j : Nat} {x : Int} (hj : D j = true) : RF P D R (upM R1 53 j x) := ⟨fun q a b => by rw [up_ne a]; exact h.1 q a b, fun i hi => by
  have : i ≠ j := fun e => by rw [e, hj] at hi; cases hi
  rw [up_j this]; exact h.2 i hi⟩
set_option maxHeartbeats 100000 in
theorem RF.up {P D : Nat → Bool} {R1 : aM} (h : RF P D R R1) {q j : Nat} {x : Int} (hq : q ≠ 53) (hP : P q = true) : RF P D R (upM R1 q j x) := ⟨fun a ha b => by
  have : a ≠ q := fun e => by rw [e, hP] at b; cases b
  rw [up_ne this]; exact h.1 a ha b, fun i hi => by rw [up_o (Ne.symm hq)]; exact h.2 i hi⟩
set_option maxHeartbeats 100000 in
theorem RX.mv {P D : Nat → Bool} {R' : aM} {p' : Nat} (h : RX f n p R) (hF : RF P D R R') (hP : P 57 = false) (hD : D 6 = false) (hp : R' 53 5 = (p' : Int)) : RX f n p' R' := ⟨by rw [hF.2 6 hD]; exact h.1, hp, fun i hi => by rw [hF.1 57 (by decide) hP]; exact h.2.2 i hi⟩
set_option maxHeartbeats 100000 in
theorem RX.st (h : RX f n p R) (p' : Nat) : RX f n p' (upM R 53 5 (p' : Int)) := h.mv (P := fun _ => false) (D := fun j => j == 5) (RF.rf.u rfl) rfl rfl up_s
set_option maxHeartbeats 100000 in
theorem RX.o (h : RX f n p R) {j : Nat} {x : Int} (hj : j ≠ 5 ∧ j ≠ 6) : RX f n p (upM R 53 j x) := h.mv (P := fun _ => false) (D := fun i => i == j) (RF.rf.u (by simp)) rfl (by simpa using fun e => hj.2 e.symm) (by rw [up_j (Ne.symm hj.1)]; exact h.2.1)
set_option maxHeartbeats 100000 in
theorem RX.oq (h : RX f n p R) {q j : Nat} {x : Int} (hq : q ≠ 53 ∧ q ≠ 57) : RX f n p (upM R q j x) := h.mv (P := fun a => a == q) (D := fun _ => false) (RF.rf.up hq.1 (by simp)) (by simpa using fun e => hq.2 e.symm) rfl (by rw [up_o (Ne.symm hq.1)]; exact h.2.1)
set_option maxHeartbeats 100000 in
theorem s202 (hf : FT f n) (h : RX f n p R) : fnA 202 [.inr (some 53)] R = some (some (.inl (f p)), R) := by
  obtain ⟨h6, h5, h57⟩ := h
  have hn := hf.1
  rw [E_202, h6, h5]
  by_cases g : n ≤ p
  · rw [if_pos (by omega), hf.2.2 p g]
  · rw [if_neg (by omega), if_pos (by omega), Int.toNat_natCast, h57 p (by omega)]
set_option maxHeartbeats 100000 in
theorem s203 (hf : FT f n) (h : RX f n p R) : fnA 203 [.inr (some 53)] R = some (some (.inl (if 48 ≤ f p ∧ f p ≤ 57 then 1 else 0)), R) := by
  rw [E_203, s202 hf h, bI_s]
  by_cases g : f p < 48
  · rw [if_pos g, if_neg (by omega)]
  · rw [if_neg g, s202 hf h, bI_s]
    by_cases g2 : 57 < f p
    · rw [if_pos g2, if_neg (by omega)]
    · rw [if_neg g2, if_pos (by omega)]
set_option maxHeartbeats 100000 in
theorem s204 {k : Nat} (hk : k < 100) (hp : p < 1000) (R : aM) : fnA 204 [.inr (some 53), .inl (k : Int), .inl (p : Int)] R = some (some (.inl 0), upM R 53 7 (flt k p)) := by rw [E_204, flt_w hk hp]
set_option maxHeartbeats 100000 in
theorem s205 (hf : FT f n) (h : RX f n p R) (hp : p < 1000) (c : Int) : fnA 205 [.inr (some 53), .inl c] R = if f p = c then some (some (.inl 1), upM R 53 5 ((p + 1 : Nat) : Int)) else some (some (.inl 0), upM R 53 7 (flt 1 p)) := by
  rw [E_205, s202 hf h, bI_s, h.2.1, w1p (by omega)]
  by_cases g : f p = c
  · rw [if_pos g, if_pos g]
  · rw [if_neg g, if_neg g, show (1 : Int) = ((1 : Nat) : Int) from rfl, s204 (by decide) hp, bI_s, if_pos (Or.inl rfl)]
def rNum (R' : aM) (x : aX) (r : Int ⊕ (Nat × Int)) : Prop := match r with
  | .inl e => x = some (some (.inl 0), R') ∧ R' 53 7 = e
  | .inr (p', v) => x = some (some (.inl 1), R') ∧ R' 53 5 = (p' : Int) ∧ R' 53 8 = v
/- digits, in the reference: three in a ledger -/
set_option maxHeartbeats 100000 in
theorem s230l (hf : FT f n) (P D : Nat → Bool) (hP : P 57 = false) (hD : D 5 = true ∧ D 7 = true ∧ D 8 = true ∧ D 6 = false) {s : Nat} (hs : s < 1000) : ∀ (k d p : Nat) (a : Int) (R : aM), d + k = 3 → p = s + d → RX f n p R → R 53 8 = a → 0 ≤ a → a < ((10 ^ d : Nat) : Int) → ∃ R', RF P D R R' ∧ rNum R' (run 2 230 27 [.inr (some 53), .inl (s : Int)] [] R) (pnum f k p a) := by
  intro k
  induction k with
  | zero =>
    intro d p a R hd hp hX h8 a0 a1
    have w3 : EqI (wr ((s : Int) + 3)) ((s + 3 : Nat) : Int) := wad (b := 3) (by omega)
    by_cases g : 48 ≤ f p ∧ f p ≤ 57
    · have hpn : p < n := p240 hf (by omega)
      have hn4 := hf.1
      have e : (p : Int) = ((s + 3 : Nat) : Int) := by omega
      refine ⟨upM R 53 7 (flt 2 p), RF.rf.u hD.2.1, ?_⟩
      unfold pnum
      rw [if_pos g]
      refine ⟨?_, up_s⟩
      rw [B_230_27, s203 hf hX, bI_s, if_pos g, if_neg (by decide), hX.2.1, w3.e, if_pos e, show (2 : Int) = ((2 : Nat) : Int) from rfl, s204 (by decide) (by omega), bI_s, if_pos (Or.inl rfl)]
    · refine ⟨R, RF.rf, ?_⟩
      unfold pnum
      rw [if_neg g]
      refine ⟨?_, hX.2.1, h8⟩
      rw [B_230_27, s203 hf hX, bI_s, if_neg g, if_pos rfl]
  | succ k ih =>
    intro d p a R hd hp hX h8 a0 a1
    have w3 : EqI (wr ((s : Int) + 3)) ((s + 3 : Nat) : Int) := wad (b := 3) (by omega)
    show ∃ R', RF P D R R' ∧ rNum R' _ (if 48 ≤ f p ∧ f p ≤ 57 then pnum f k (p + 1) (10 * a + f p - 48) else .inr (p, a))
    by_cases g : 48 ≤ f p ∧ f p ≤ 57
    · have hpn : p < n := p240 hf (by omega)
      have hn4 := hf.1
      have e : ¬ (p : Int) = ((s + 3 : Nat) : Int) := by omega
      have hfp := hf.2.1 p hpn
      have a2 := p10 (by omega) a1
      have w := wnum' (c := f p) a0 (by omega) hfp
      have wp := w1p (a := p) (by omega)
      rw [if_pos g]
      obtain ⟨R', c1, c2⟩ := ih (d + 1) (p + 1) (10 * a + f p - 48) (upM (upM R 53 8 (10 * a + f p - 48)) 53 5 ((p + 1 : Nat) : Int)) (by omega) (by omega) ((hX.o (by decide)).st (p + 1)) (by rw [up_j (by decide), up_s]) (by omega) (p10s a1 g.2)
      refine ⟨R', ((RF.rf.u hD.2.2.1).u hD.1).tr c1, ?_⟩
      rw [B_230_27, s203 hf hX, bI_s, if_pos g, if_neg (by decide), hX.2.1, w3.e, if_neg e, s202 hf hX, bI_s, h8, w, up_j (by decide), hX.2.1, wp]
      exact c2
    · rw [if_neg g]
      refine ⟨R, RF.rf, ?_, hX.2.1, h8⟩
      rw [B_230_27, s203 hf hX, bI_s, if_neg g, if_pos rfl]
set_option maxHeartbeats 100000 in
theorem s230 (hf : FT f n) (P D : Nat → Bool) (hP : P 57 = false) (hD : D 5 = true ∧ D 7 = true ∧ D 8 = true ∧ D 6 = false) (hX : RX f n p R) (hp : p < 1000) : ∃ R', RF P D R R' ∧ rNum R' (fnA 230 [.inr (some 53)] R) (pnum1 f 3 p) := by
  unfold pnum1
  rw [E_230, s203 hf hX, bI_s, hX.2.1]
  by_cases g : 48 ≤ f p ∧ f p ≤ 57
  · rw [if_pos g, if_pos g, if_neg (by decide)]
    obtain ⟨R', c1, c2⟩ := s230l hf P D hP hD hp 3 0 p 0 (upM R 53 8 0) (by omega) rfl (hX.o (by decide)) up_s (Int.le_refl _) (by decide)
    exact ⟨R', (RF.rf.u hD.2.2.1).tr c1, c2⟩
  · rw [if_neg g, if_neg g, if_pos rfl]
    refine ⟨upM R 53 7 (flt 1 p), RF.rf.u hD.2.1, ?_, up_s⟩
    rw [show (1 : Int) = ((1 : Nat) : Int) from rfl, s204 (by decide) hp, bI_s, if_pos (Or.inl rfl)]
end
end TXT
