/-! ledger: a line, in both. -/
section LDL
variable {f : Nat → Int} {n : Nat} {T : Nat → Int}
set_option maxHeartbeats 200000 in
theorem flt_n {k p : Nat} (hk : 0 < k) : flt k p < 0 := by unfold flt; omega
set_option maxHeartbeats 200000 in
theorem pnum_n (f : Nat → Int) : ∀ (k p : Nat) (a : Int) (e : Int), pnum f k p a = .inl e → e < 0 := by
  intro k
  induction k with
  | zero =>
    intro p a e h
    unfold pnum at h
    by_cases g : 48 ≤ f p ∧ f p ≤ 57
    · rw [if_pos g] at h; injection h with h; rw [← h]; exact flt_n (by decide)
    · rw [if_neg g] at h; cases h
  | succ k ih =>
    intro p a e h
    have h' : (if 48 ≤ f p ∧ f p ≤ 57 then pnum f k (p + 1) (10 * a + f p - 48) else .inr (p, a)) = (.inl e : Int ⊕ (Nat × Int)) := h
    by_cases g : 48 ≤ f p ∧ f p ≤ 57
    · rw [if_pos g] at h'; exact ih _ _ _ h'
    · rw [if_neg g] at h'; cases h'
set_option maxHeartbeats 200000 in
theorem pnum1_n {f : Nat → Int} {k p : Nat} {e : Int} (h : pnum1 f k p = .inl e) : e < 0 := by
  unfold pnum1 at h
  by_cases g : 48 ≤ f p ∧ f p ≤ 57
  · rw [if_pos g] at h; exact pnum_n f k p 0 e h
  · rw [if_neg g] at h; injection h with h; rw [← h]; exact flt_n (by decide)
set_option maxHeartbeats 200000 in
theorem FT.b (hf : FT f n) (p : Nat) : -1 ≤ f p ∧ f p < 256 := by
  by_cases g : p < n
  · have := hf.2.1 p g; omega
  · have := hf.2.2 p (by omega); omega
def RLn (f : Nat → Int) (n : Nat) (T : Nat → Int) (p L : Nat) (R : aM) : Prop := RX f n p R ∧ TR R 71 T ∧ R 53 28 = (L : Int) ∧ ∃ T0, TR R 54 T0 ∧ TI T0 ∧ ok T0 = ok T
/- a line: what the class does at M, the reference does wherever it stands alike -/
def LN (f : Nat → Int) (n : Nat) (T : Nat → Int) (L : Nat) (M : aM) (cl : aX) (P : aM → Prop) (rf : aM → aX) : Prop := (∃ (e : Int) (M' : aM), e < 0 ∧ cl = some (some (.inl 0), M') ∧ M' 2 5 = e ∧ CF PL M M' ∧ ∀ R, P R → ∃ R', rf R = some (some (.inl 0), R') ∧ R' 53 7 = e ∧ RF PR DR R R') ∨ ∃ (p' : Nat) (T' : Nat → Int) (M' : aM), L < 20 ∧ cl = some (some (.inl 1), M') ∧ CX f n p' M' ∧ TC M' 12 T' ∧ TI T' ∧ TZ T' ∧ ok T' = ok T ∧ CF PL M M' ∧ ∀ R, P R → ∃ R', rf R = some (some (.inl 1), R') ∧ RX f n p' R' ∧ TR R' 71 T' ∧ R' 53 28 = ((L + 1 : Nat) : Int) ∧ RF PR DR R R'
set_option maxHeartbeats 200000 in
theorem LN.bad {L k q : Nat} (hk : 0 < k) {M M2 : aM} {cl : aX} {P : aM → Prop} {rf : aM → aX} (hc : cl = some (some (.inl 0), upM M2 2 5 (flt k q))) (hF : CF PL M M2) (hr : ∀ R, P R → ∃ R2, RF PR DR R R2 ∧ rf R = some (some (.inl 0), upM R2 53 7 (flt k q))) : LN f n T L M cl P rf :=
  Or.inl ⟨flt k q, _, flt_n hk, hc, up_s, hF.u2 (by omega), fun R hR => by
    obtain ⟨R2, h1, h2⟩ := hr R hR
    exact ⟨_, h2, up_s, h1.u rfl⟩⟩
/- the number and what is booked -/
set_option maxHeartbeats 200000 in
theorem lfin (hf : FT f n) (hT : TI T) (hZ : TZ T) {p q b o L : Nat} {k x7 : Int} {M : aM} (hX : CX f n q M) (hC : TC M 12 T) (hq : q < 900) (hp : p < 900) (hb : b < 8) (ho : o < 8) (hL : L < 20) (hbo : (ok T).testBit b = true) (hoo : k = 33 ∨ k = 62 → M 16 0 = (o : Int) ∧ o ≠ b ∧ (ok T).testBit o = true) (hk : kd k) : LN f n T L M (run 4 64 135 [.inr (some 16), .inr (some 2), .inr (some 12), .inl (L : Int), .inl (p : Int), .inl (b : Int), .inl k, .inl x7] [] M) (fun R => RX f n q R ∧ TR R 71 T ∧ R 53 28 = (L : Int)) (fun R => run 3 232 204 [.inr (some 53), .inl (p : Int), .inl (b : Int), .inl k, .inl (o : Int), .inr none] [] R) := by
  obtain ⟨M2, c1, c2⟩ := s106 hf PL rfl (K := 2) (by decide) hX (by omega)
  cases e : pnum1 f 3 q with
  | inl x =>
    rw [show pnum1 f (2 + 1) q = .inl x from e] at c2
    obtain ⟨c3, c4⟩ := c2
    have c3' : fnA 106 [.inr (some 2), .inl 3] M = some (some (.inl 0), M2) := c3
    refine Or.inl ⟨x, M2, pnum1_n e, ?_, c4, c1, fun R hR => ?_⟩
    · rw [B_64_135 _ _ _ _ _ _ _ t12, c3', bI_s, if_pos rfl]
    · obtain ⟨R', d1, d2⟩ := s230 hf PR DR rfl ⟨rfl, rfl, rfl, rfl⟩ hR.1 (by omega)
      rw [e] at d2
      refine ⟨R', ?_, d2.2, d1⟩
      show run 3 232 204 _ _ R = _
      rw [B_232_204, d2.1, bI_s, if_pos rfl]
  | inr pv =>
    obtain ⟨p', v⟩ := pv
    have hb3 := pnum1_b (k := 2) e
    have hv : 0 ≤ v ∧ v ≤ 999 := ⟨hb3.2.1, by have := hb3.2.2; omega⟩
    rw [show pnum1 f (2 + 1) q = .inr (p', v) from e] at c2
    obtain ⟨c3, c4, c5⟩ := c2
    have c3' : fnA 106 [.inr (some 2), .inl 3] M = some (some (.inl 1), M2) := c3
    have hX2 : CX f n p' M2 := hX.mv c1 rfl c4
    have hoq : ∀ q, q ≠ 2 → PL q = false → M2 q = M q := c1.1
    -- the number's frame leaves the town and the other one
    obtain ⟨M2', c1', c2'⟩ := s106 hf (fun _ => false) rfl (K := 2) (by decide) hX (by omega)
    rw [show pnum1 f (2 + 1) q = .inr (p', v) from e] at c2'
    have hMM : M2' = M2 := by
      have h := c2'.1.symm.trans c3
      injection h with h
      injection h with _ h
    have hC2 : TC M2 12 T := by
      rw [← hMM]
      exact hC.mv (c1'.1 12 (by decide) rfl) (c1'.1 13 (by decide) rfl) (c1'.1 14 (by decide) rfl) (c1'.1 15 (by decide) rfl)
    have h16 : M2 16 = M 16 := by rw [← hMM]; exact c1'.1 16 (by decide) rfl
    obtain ⟨M3, m1, m2, m3, m4⟩ := s66 hC2 hT (o := o) (k := k) hb ho hv (fun z => ⟨by rw [h16]; exact (hoo z).1, (hoo z).2.1⟩) hk
    have eC : run 4 64 135 [.inr (some 16), .inr (some 2), .inr (some 12), .inl (L : Int), .inl (p : Int), .inl (b : Int), .inl k, .inl x7] [] M = bI (fnA 66 [.inr (some 16), .inr (some 12), .inl (b : Int), .inl k, .inl v] M2) fun w2 M2 => if w2 = 0 then bI (fnA 104 [.inr (some 2), .inl 9, .inl (p : Int)] M2) fun w3 M3 => if w3 = 0 then some (some (.inl 0), M3) else some (some (.inl 1), M3) else some (some (.inl 1), M2) := by
      rw [B_64_135 _ _ _ _ _ _ _ t12, c3', bI_s, if_neg (by decide), c5]
    have hRr : ∀ R, RX f n q R ∧ TR R 71 T ∧ R 53 28 = (L : Int) → ∃ R2 R', RF PR DR R R2 ∧ RX f n p' R2 ∧ (bkG T b o k v → run 3 232 204 [.inr (some 53), .inl (p : Int), .inl (b : Int), .inl k, .inl (o : Int), .inr none] [] R = some (some (.inl 1), R') ∧ TR R' 71 (bkT T b o k v)) ∧ (¬ bkG T b o k v → run 3 232 204 [.inr (some 53), .inl (p : Int), .inl (b : Int), .inl k, .inl (o : Int), .inr none] [] R = bI (fnA 204 [.inr (some 53), .inl 9, .inl (p : Int)] R') fun w1 M1 => if w1 = 0 then some (some (.inl 0), M1) else some (some (.inl 1), M1)) ∧ RF PR DR R2 R' ∧ R' 53 28 = ((L + 1 : Nat) : Int) ∧ R' 53 5 = R2 53 5 := fun R hR => by
      obtain ⟨R2, d1, d2⟩ := s230 hf (fun _ => false) (fun j => j == 5 || j == 7 || j == 8) rfl ⟨rfl, rfl, rfl, rfl⟩ hR.1 (by omega)
      rw [e] at d2
      obtain ⟨d3, d4, d5⟩ := d2
      have hX2 : RX f n p' R2 := hR.1.mv d1 rfl rfl d4
      have hR2 : TR R2 71 T := hR.2.1.mv (d1.1 71 (by decide) rfl)
      obtain ⟨R', r1, r2, r3, r4, r5⟩ := s232b (R := R2) (R0 := R) hR2 hT (o := o) (k := k) (p : Int) hb ho hv d5 (L := L) (by omega) ((d1.2 28 rfl).trans hR.2.2) (fun z => (hoo z).2.1) hk d3
      have hD : RF PR DR R R2 := ⟨fun q a _ => d1.1 q a rfl, fun j hj => d1.2 j (by
        unfold DR at hj
        simp only [Bool.or_eq_false_iff] at hj ⊢
        exact hj.1)⟩
      exact ⟨R2, R', hD, hX2, r1, r2, r3, r4, r5⟩
    by_cases g : bkG T b o k v
    · obtain ⟨k1, k2, k3⟩ := bk_ok hT hZ hb ho hv hbo (fun z => (hoo z).2) hk g
      refine Or.inr ⟨p', bkT T b o k v, M3, hL, ?_, ?_, (m1 g).2, k1, k2, k3, c1.tr m3, fun R hR => ?_⟩
      · rw [eC, (m1 g).1, bI_s, if_neg (by decide)]
      · exact hX2.mv m3 rfl (by rw [m4]; exact hX2.2.1)
      · obtain ⟨R2, R', q1, q2, q3, q4, q5, q6, q7⟩ := hRr R hR
        exact ⟨R', (q3 g).1, q2.mv q5 rfl rfl (by rw [q7]; exact q2.2.1), (q3 g).2, q6, q1.tr q5⟩
    · refine LN.bad (k := 9) (q := p) (by decide) (M2 := M3) ?_ (c1.tr m3) (fun R hR => ?_)
      · have h104 := s104 (k := 9) (p := p) (by decide) (by omega) M3
        have h104' : fnA 104 [.inr (some 2), .inl 9, .inl (p : Int)] M3 = some (some (.inl 0), upM M3 2 5 (flt 9 p)) := h104
        rw [eC, m2 g, bI_s, if_pos rfl, h104', bI_s, if_pos rfl]
      · obtain ⟨R2, R', q1, q2, q3, q4, q5, q6, q7⟩ := hRr R hR
        have h204 := s204 (k := 9) (p := p) (by decide) (by omega) R'
        have h204' : fnA 204 [.inr (some 53), .inl 9, .inl (p : Int)] R' = some (some (.inl 0), upM R' 53 7 (flt 9 p)) := h204
        refine ⟨R', q1.tr q5, ?_⟩
        show run 3 232 204 _ _ R = _
        rw [q4 g, h204', bI_s, if_pos rfl]
end LDL
