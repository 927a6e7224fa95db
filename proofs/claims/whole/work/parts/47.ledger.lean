/-! ledger: what a line books, in both. -/
section LDG
variable {T : Nat → Int}
def PL (q : Nat) : Bool := decide (12 ≤ q ∧ q ≤ 16)
def PR (q : Nat) : Bool := q == 71
def DR (j : Nat) : Bool := j == 5 || j == 7 || j == 8 || j == 28
set_option maxHeartbeats 200000 in
theorem t12 : isT 12 := Or.inr (Or.inr rfl)
/- a number has k digits at most -/
set_option maxHeartbeats 200000 in
theorem pnum_b (f : Nat → Int) : ∀ (k d p : Nat) (a : Int) (p' : Nat) (v : Int), 0 ≤ a → a < ((10 ^ d : Nat) : Int) → pnum f k p a = .inr (p', v) → p ≤ p' ∧ 0 ≤ v ∧ v < ((10 ^ (d + k) : Nat) : Int) := by
  intro k
  induction k with
  | zero =>
    intro d p a p' v a0 a1 h
    unfold pnum at h
    by_cases g : 48 ≤ f p ∧ f p ≤ 57
    · rw [if_pos g] at h; cases h
    · rw [if_neg g] at h
      injection h with h
      injection h with h1 h2
      subst h1
      subst h2
      exact ⟨Nat.le_refl _, a0, a1⟩
  | succ k ih =>
    intro d p a p' v a0 a1 h
    have h' : (if 48 ≤ f p ∧ f p ≤ 57 then pnum f k (p + 1) (10 * a + f p - 48) else .inr (p, a)) = (.inr (p', v) : Int ⊕ (Nat × Int)) := h
    by_cases g : 48 ≤ f p ∧ f p ≤ 57
    · rw [if_pos g] at h'
      have := ih (d + 1) (p + 1) _ p' v (by omega) (p10s a1 g.2) h'
      rw [show d + 1 + k = d + (k + 1) by omega] at this
      exact ⟨by omega, this.2⟩
    · rw [if_neg g] at h'
      injection h' with h'
      injection h' with h1 h2
      subst h1
      subst h2
      have hp : 10 ^ d ≤ 10 ^ (d + (k + 1)) := Nat.pow_le_pow_right (by decide) (by omega)
      exact ⟨Nat.le_refl _, a0, by omega⟩
set_option maxHeartbeats 200000 in
theorem pnum1_b {f : Nat → Int} {k p p' : Nat} {v : Int} (h : pnum1 f (k + 1) p = .inr (p', v)) : p < p' ∧ 0 ≤ v ∧ v < ((10 ^ (k + 1) : Nat) : Int) := by
  unfold pnum1 at h
  by_cases g : 48 ≤ f p ∧ f p ≤ 57
  · rw [if_pos g] at h
    have h' : (if 48 ≤ f p ∧ f p ≤ 57 then pnum f k (p + 1) (10 * 0 + f p - 48) else .inr (p, 0)) = (.inr (p', v) : Int ⊕ (Nat × Int)) := h
    rw [if_pos g] at h'
    have := pnum_b f k 1 (p + 1) _ p' v (by omega) (by omega) h'
    rw [show 1 + k = k + 1 by omega] at this
    exact ⟨by omega, this.2⟩
  · rw [if_neg g] at h; cases h
set_option maxHeartbeats 200000 in
theorem s67 {M : aM} (hC : TC M 12 T) {b : Nat} (hb : b < 8) {x : Int} (hx : -999 ≤ x ∧ x ≤ 999) (hT : 0 ≤ T b ∧ T b ≤ 9999) : fnA 67 [.inr (some 16), .inr (some 12), .inl (b : Int), .inl x] M = some (some (.inl (if 0 ≤ T b + x ∧ T b + x ≤ 9999 then 1 else 0)), upM M 13 b (T b + x)) := by
  have e : M 13 b = T b := hC.1 b hb
  have w : wr (T b + x) = T b + x := wr_s (by omega) (by omega)
  rw [E_67 _ _ _ _ t12, s114 t12 hb, bI_s, e, w, s115 t12 hb, bV_s]
  by_cases g : T b + x < 0
  · rw [if_pos g, if_neg (by omega)]
  · rw [if_neg g]
    by_cases g2 : 9999 < T b + x
    · rw [if_pos g2, if_neg (by omega)]
    · rw [if_neg g2, if_pos (by omega)]
set_option maxHeartbeats 200000 in
theorem s68 {M : aM} (hC : TC M 12 T) {b o : Nat} (hb : b < 8) (ho : o < 8) (h16 : M 16 0 = (o : Int)) {x : Int} (hx : 0 ≤ x ∧ x ≤ 999) (hT : 0 ≤ T (8 + (8 * b + o)) ∧ T (8 + (8 * b + o)) ≤ 999) : fnA 68 [.inr (some 16), .inr (some 12), .inl (b : Int), .inl x] M = some (some (.inl (if T (8 + (8 * b + o)) + x ≤ 999 then 1 else 0)), upM M 14 (8 * b + o) (T (8 + (8 * b + o)) + x)) := by
  have e : M 14 (8 * b + o) = T (8 + (8 * b + o)) := hC.2.1 _ (by omega)
  have w : wr (T (8 + (8 * b + o)) + x) = T (8 + (8 * b + o)) + x := wr_s (by omega) (by omega)
  rw [E_68 _ _ _ _ t12, h16, s116 t12 hb ho, bI_s, e, w, h16, s117 t12 hb ho, bV_s]
  by_cases g : 999 < T (8 + (8 * b + o)) + x
  · rw [if_pos g, if_neg (by omega)]
  · rw [if_neg g, if_pos (by omega)]
set_option maxHeartbeats 200000 in
theorem s231 {R : aM} {j : Nat} (hj : j < 141) {x h : Int} (hw : -100000 ≤ R 71 j + x ∧ R 71 j + x ≤ 100000) : fnA 231 [.inr (some 53), .inl (j : Int), .inl x, .inl h] R = some (some (.inl (if 0 ≤ R 71 j + x ∧ R 71 j + x ≤ h then 1 else 0)), upM R 71 j (R 71 j + x)) := by
  have w : wr (R 71 j + x) = R 71 j + x := wr_s (by omega) (by omega)
  have y : 0 ≤ (j : Int) ∧ (j : Int) < 141 := by omega
  rw [E_231, if_pos y, if_pos y, if_pos y, Int.toNat_natCast, w, up_s, s181, bI_s]
  by_cases g : 0 ≤ R 71 j + x ∧ R 71 j + x ≤ h
  · rw [bI1_t g, if_pos (Or.inr rfl), if_pos g]
  · rw [bI1_f g, if_pos (Or.inl rfl), if_neg g]
/- what a line does, and whether it may -/
def bkG (T : Nat → Int) (b o : Nat) (k v : Int) : Prop := if k = 33 then T (8 + (8 * b + o)) + v ≤ 999 else if k = 62 then 0 ≤ T b - v ∧ T o + v ≤ 9999 else if k = 43 then T b + v ≤ 9999 else 0 ≤ T b - v
def bkT (T : Nat → Int) (b o : Nat) (k v : Int) : Nat → Int := if k = 33 then tset T (8 + (8 * b + o)) (T (8 + (8 * b + o)) + v) else if k = 62 then tset (tset T b (T b - v)) o (T o + v) else if k = 43 then tset T b (T b + v) else tset T b (T b - v)
def kd (k : Int) : Prop := k = 33 ∨ k = 62 ∨ k = 43 ∨ k = 45
set_option maxHeartbeats 200000 in
theorem bk_ok (hT : TI T) (hZ : TZ T) {b o : Nat} {k v : Int} (hb : b < 8) (ho : o < 8) (hv : 0 ≤ v ∧ v ≤ 999) (hbo : (ok T).testBit b = true) (hoo : k = 33 ∨ k = 62 → o ≠ b ∧ (ok T).testBit o = true) (hk : kd k) (g : bkG T b o k v) : TI (bkT T b o k v) ∧ TZ (bkT T b o k v) ∧ ok (bkT T b o k v) = ok T := by
  have hTb := hT.2.2.1 b hb
  have hTo := hT.2.2.1 o ho
  have hTd := dI hT hb ho
  unfold bkG at g
  unfold bkT
  rcases hk with rfl | rfl | rfl | rfl
  · rw [if_pos rfl] at g ⊢
    obtain ⟨h1, h2⟩ := hoo (Or.inl rfl)
    exact ⟨hT.set (by omega) (by omega) (fun _ _ => by omega) (by omega) (by omega) (by omega), hZ.debt hb ho (Ne.symm h1) ⟨hbo, h2⟩, (ok_ts (by omega)).1⟩
  · rw [if_neg (by decide), if_pos rfl] at g ⊢
    obtain ⟨h1, h2⟩ := hoo (Or.inr rfl)
    have t1 : TI (tset T b (T b - v)) := hT.set (by omega) (fun _ => by omega) (by omega) (by omega) (by omega) (by omega)
    have t2 : TZ (tset T b (T b - v)) := hZ.cash hb (Or.inl hbo)
    have t3 : ok (tset T b (T b - v)) = ok T := (ok_ts (by omega)).1
    exact ⟨t1.set (by omega) (fun _ => by omega) (by omega) (by omega) (by omega) (by omega), t2.cash ho (Or.inl (by rw [t3]; exact h2)), (ok_ts (by omega)).1.trans t3⟩
  · rw [if_neg (by decide), if_neg (by decide), if_pos rfl] at g ⊢
    exact ⟨hT.set (by omega) (fun _ => by omega) (by omega) (by omega) (by omega) (by omega), hZ.cash hb (Or.inl hbo), (ok_ts (by omega)).1⟩
  · rw [if_neg (by decide), if_neg (by decide), if_neg (by decide)] at g ⊢
    exact ⟨hT.set (by omega) (fun _ => by omega) (by omega) (by omega) (by omega) (by omega), hZ.cash hb (Or.inl hbo), (ok_ts (by omega)).1⟩
set_option maxHeartbeats 200000 in
theorem PLp {q : Nat} (h : 12 ≤ q ∧ q ≤ 16) : PL q = true := by simp [PL, h.1, h.2]
/- the class books -/
set_option maxHeartbeats 200000 in
theorem s66 {M : aM} (hC : TC M 12 T) (hT : TI T) {b o : Nat} {k v : Int} (hb : b < 8) (ho : o < 8) (hv : 0 ≤ v ∧ v ≤ 999) (h16 : k = 33 ∨ k = 62 → M 16 0 = (o : Int) ∧ o ≠ b) (hk : kd k) : ∃ M', (bkG T b o k v → fnA 66 [.inr (some 16), .inr (some 12), .inl (b : Int), .inl k, .inl v] M = some (some (.inl 1), M') ∧ TC M' 12 (bkT T b o k v)) ∧ (¬ bkG T b o k v → fnA 66 [.inr (some 16), .inr (some 12), .inl (b : Int), .inl k, .inl v] M = some (some (.inl 0), M')) ∧ CF PL M M' ∧ M' 2 = M 2 := by
  have hTb := hT.2.2.1 b hb
  have hTo := hT.2.2.1 o ho
  have hTd := dI hT hb ho
  have wn : wr (-v) = -v := wr_s (by omega) (by omega)
  unfold bkG bkT
  rcases hk with rfl | rfl | rfl | rfl
  · obtain ⟨h1, h2⟩ := h16 (Or.inl rfl)
    refine ⟨upM M 14 (8 * b + o) (T (8 + (8 * b + o)) + v), ?_, ?_, CF.rf.up (by decide) (PLp (by decide)), up_ne (by decide)⟩
    · rw [if_pos rfl, if_pos rfl]
      intro g
      refine ⟨?_, hC.debt (by omega) _⟩
      rw [E_66 _ _ _ _ _ t12, if_neg (by decide), if_neg (by decide), if_neg (by decide), s68 hC hb ho h1 hv hTd, bI_s, if_pos g, if_pos (Or.inr rfl)]
    · rw [if_pos rfl]
      intro g
      rw [E_66 _ _ _ _ _ t12, if_neg (by decide), if_neg (by decide), if_neg (by decide), s68 hC hb ho h1 hv hTd, bI_s, if_neg g, if_pos (Or.inl rfl)]
  · obtain ⟨h1, h2⟩ := h16 (Or.inr rfl)
    have e67 := s67 hC hb (x := -v) (by omega) hTb
    by_cases g1 : 0 ≤ T b - v
    · have hC1 := hC.cash hb (T b + -v)
      have e1 : T b + -v = T b - v := by omega
      have hTo1 : tset T b (T b + -v) o = T o := ts_o h2
      have e68 := s67 hC1 ho (x := v) (by omega) (by rw [hTo1]; exact hTo)
      rw [hTo1] at e68
      rw [if_pos (show 0 ≤ T b + -v ∧ T b + -v ≤ 9999 by omega)] at e67
      refine ⟨upM (upM M 13 b (T b + -v)) 13 o (T o + v), ?_, ?_, (CF.rf.up (by decide) (PLp (by decide))).up (by decide) (PLp (by decide)), by rw [up_ne (by decide), up_ne (by decide)]⟩
      · rw [if_neg (by decide), if_pos rfl, if_neg (by decide), if_pos rfl]
        intro g
        refine ⟨?_, ?_⟩
        · rw [E_66 _ _ _ _ _ t12, if_neg (by decide), if_neg (by decide), if_pos rfl, wn, e67, bI_s, if_neg (by decide), up_o (by decide), h1, e68, bI_s, if_pos (show 0 ≤ T o + v ∧ T o + v ≤ 9999 by omega), if_neg (by decide)]
        · rw [← e1]; exact hC1.cash ho _
      · rw [if_neg (by decide), if_pos rfl]
        intro g
        rw [E_66 _ _ _ _ _ t12, if_neg (by decide), if_neg (by decide), if_pos rfl, wn, e67, bI_s, if_neg (by decide), up_o (by decide), h1, e68, bI_s, if_neg (show ¬ (0 ≤ T o + v ∧ T o + v ≤ 9999) by omega), if_pos rfl]
    · rw [if_neg (show ¬ (0 ≤ T b + -v ∧ T b + -v ≤ 9999) by omega)] at e67
      refine ⟨upM M 13 b (T b + -v), ?_, ?_, CF.rf.up (by decide) (PLp (by decide)), up_ne (by decide)⟩
      · rw [if_neg (by decide), if_pos rfl]
        intro g; exact absurd g.1 g1
      · rw [if_neg (by decide), if_pos rfl]
        intro g
        rw [E_66 _ _ _ _ _ t12, if_neg (by decide), if_neg (by decide), if_pos rfl, wn, e67, bI_s, if_pos rfl]
  · have e67 := s67 hC hb (x := v) (by omega) hTb
    refine ⟨upM M 13 b (T b + v), ?_, ?_, CF.rf.up (by decide) (PLp (by decide)), up_ne (by decide)⟩
    · rw [if_neg (by decide), if_neg (by decide), if_pos rfl, if_neg (by decide), if_neg (by decide), if_pos rfl]
      intro g
      refine ⟨?_, hC.cash hb _⟩
      rw [E_66 _ _ _ _ _ t12, if_pos rfl, e67, bI_s, if_pos (show 0 ≤ T b + v ∧ T b + v ≤ 9999 by omega), if_pos (Or.inr rfl)]
    · rw [if_neg (by decide), if_neg (by decide), if_pos rfl]
      intro g
      rw [E_66 _ _ _ _ _ t12, if_pos rfl, e67, bI_s, if_neg (show ¬ (0 ≤ T b + v ∧ T b + v ≤ 9999) by omega), if_pos (Or.inl rfl)]
  · have e67 := s67 hC hb (x := -v) (by omega) hTb
    have e1 : T b + -v = T b - v := by omega
    refine ⟨upM M 13 b (T b + -v), ?_, ?_, CF.rf.up (by decide) (PLp (by decide)), up_ne (by decide)⟩
    · rw [if_neg (by decide), if_neg (by decide), if_neg (by decide), if_neg (by decide), if_neg (by decide), if_neg (by decide)]
      intro g
      refine ⟨?_, by rw [← e1]; exact hC.cash hb _⟩
      rw [E_66 _ _ _ _ _ t12, if_neg (by decide), if_pos rfl, wn, e67, bI_s, if_pos (show 0 ≤ T b + -v ∧ T b + -v ≤ 9999 by omega), if_pos (Or.inr rfl)]
    · rw [if_neg (by decide), if_neg (by decide), if_neg (by decide)]
      intro g
      rw [E_66 _ _ _ _ _ t12, if_neg (by decide), if_pos rfl, wn, e67, bI_s, if_neg (show ¬ (0 ≤ T b + -v ∧ T b + -v ≤ 9999) by omega), if_pos (Or.inl rfl)]
/- the reference books -/
set_option maxHeartbeats 200000 in
theorem s232b {R R0 : aM} (hR : TR R 71 T) (hT : TI T) {b o : Nat} {k v : Int} (x1 : Int) (hb : b < 8) (ho : o < 8) (hv : 0 ≤ v ∧ v ≤ 999) (h8 : R 53 8 = v) {L : Nat} (hL : L < 100) (h28 : R 53 28 = (L : Int)) (hoo : k = 33 ∨ k = 62 → o ≠ b) (hk : kd k) (h230 : fnA 230 [.inr (some 53)] R0 = some (some (.inl 1), R)) : ∃ R', (bkG T b o k v → run 3 232 204 [.inr (some 53), .inl x1, .inl (b : Int), .inl k, .inl (o : Int), .inr none] [] R0 = some (some (.inl 1), R') ∧ TR R' 71 (bkT T b o k v)) ∧ (¬ bkG T b o k v → run 3 232 204 [.inr (some 53), .inl x1, .inl (b : Int), .inl k, .inl (o : Int), .inr none] [] R0 = bI (fnA 204 [.inr (some 53), .inl 9, .inl x1] R') fun w1 M1 => if w1 = 0 then some (some (.inl 0), M1) else some (some (.inl 1), M1)) ∧ RF PR DR R R' ∧ R' 53 28 = ((L + 1 : Nat) : Int) ∧ R' 53 5 = R 53 5 := by
  have hTb := hT.2.2.1 b hb
  have hTo := hT.2.2.1 o ho
  have hTd := dI hT hb ho
  have wn : wr (-v) = -v := wr_s (by omega) (by omega)
  have wL : wr ((L : Int) + 1) = ((L + 1 : Nat) : Int) := w1p (by omega)
  have o8 : upM R 53 28 ((L + 1 : Nat) : Int) 53 8 = v := by rw [up_j (by decide)]; exact h8
  have hR1 : TR (upM R 53 28 ((L + 1 : Nat) : Int)) 71 T := hR.mv (up_ne (by decide))
  have e71 : ∀ j, j < 141 → upM R 53 28 ((L + 1 : Nat) : Int) 71 j = T j := hR1
  have D28 : RF PR DR R (upM R 53 28 ((L + 1 : Nat) : Int)) := RF.rf.u rfl
  unfold bkG bkT
  rcases hk with rfl | rfl | rfl | rfl
  · refine ⟨upM (upM R 53 28 ((L + 1 : Nat) : Int)) 71 (8 + (8 * b + o)) (T (8 + (8 * b + o)) + v), ?_, ?_, D28.up (by decide) rfl, by rw [up_o (by decide), up_s], by rw [up_o (by decide), up_j (by decide)]⟩
    · rw [if_pos rfl, if_pos rfl]
      intro g
      refine ⟨?_, hR1.set _ _⟩
      rw [B_232_204, h230, bI_s, if_neg (by decide), if_pos rfl, h28, wL, s190 hb ho, bI_s, o8, s231 (by omega) (by rw [e71 _ (by omega)]; omega), bI_s, e71 _ (by omega), if_pos (show 0 ≤ T (8 + (8 * b + o)) + v ∧ T (8 + (8 * b + o)) + v ≤ 999 by omega), B_232_333, if_neg (by decide)]
    · rw [if_pos rfl]
      intro g
      rw [B_232_204, h230, bI_s, if_neg (by decide), if_pos rfl, h28, wL, s190 hb ho, bI_s, o8, s231 (by omega) (by rw [e71 _ (by omega)]; omega), bI_s, e71 _ (by omega), if_neg (show ¬ (0 ≤ T (8 + (8 * b + o)) + v ∧ T (8 + (8 * b + o)) + v ≤ 999) by omega), B_232_333, if_pos rfl]
  · have h2 := hoo (Or.inr rfl)
    have eb := e71 b (by omega)
    have eo := e71 o (by omega)
    by_cases g1 : 0 ≤ T b - v
    · have e1 : T b + -v = T b - v := by omega
      refine ⟨upM (upM (upM R 53 28 ((L + 1 : Nat) : Int)) 71 b (T b + -v)) 71 o (T o + v), ?_, ?_, (D28.up (by decide) rfl).up (by decide) rfl, by rw [up_o (by decide), up_o (by decide), up_s], by rw [up_o (by decide), up_o (by decide), up_j (by decide)]⟩
      · rw [if_neg (by decide), if_pos rfl, if_neg (by decide), if_pos rfl]
        intro g
        refine ⟨?_, by rw [← e1]; exact (hR1.set b (T b + -v)).set o _⟩
        rw [B_232_204, h230, bI_s, if_neg (by decide), if_neg (by decide), if_pos rfl, h28, wL, o8, wn, ix0 hb, s231 (by omega) (by rw [eb]; omega), bI_s, eb, if_pos (show 0 ≤ T b + -v ∧ T b + -v ≤ 9999 by omega), if_neg (by decide), ix0 ho, up_o (by decide), o8, s231 (by omega) (by rw [up_j h2, eo]; omega), bI_s, up_j h2, eo, if_pos (show 0 ≤ T o + v ∧ T o + v ≤ 9999 by omega), if_neg (by decide), B_232_333, if_neg (by decide)]
      · rw [if_neg (by decide), if_pos rfl]
        intro g
        rw [B_232_204, h230, bI_s, if_neg (by decide), if_neg (by decide), if_pos rfl, h28, wL, o8, wn, ix0 hb, s231 (by omega) (by rw [eb]; omega), bI_s, eb, if_pos (show 0 ≤ T b + -v ∧ T b + -v ≤ 9999 by omega), if_neg (by decide), ix0 ho, up_o (by decide), o8, s231 (by omega) (by rw [up_j h2, eo]; omega), bI_s, up_j h2, eo, if_neg (show ¬ (0 ≤ T o + v ∧ T o + v ≤ 9999) by omega), if_pos rfl, B_232_333, if_pos rfl]
    · refine ⟨upM (upM R 53 28 ((L + 1 : Nat) : Int)) 71 b (T b + -v), ?_, ?_, D28.up (by decide) rfl, by rw [up_o (by decide), up_s], by rw [up_o (by decide), up_j (by decide)]⟩
      · rw [if_neg (by decide), if_pos rfl]
        intro g; exact absurd g.1 g1
      · rw [if_neg (by decide), if_pos rfl]
        intro g
        rw [B_232_204, h230, bI_s, if_neg (by decide), if_neg (by decide), if_pos rfl, h28, wL, o8, wn, ix0 hb, s231 (by omega) (by rw [eb]; omega), bI_s, eb, if_neg (show ¬ (0 ≤ T b + -v ∧ T b + -v ≤ 9999) by omega), if_pos rfl, B_232_333, if_pos rfl]
  · have eb := e71 b (by omega)
    refine ⟨upM (upM R 53 28 ((L + 1 : Nat) : Int)) 71 b (T b + v), ?_, ?_, D28.up (by decide) rfl, by rw [up_o (by decide), up_s], by rw [up_o (by decide), up_j (by decide)]⟩
    · rw [if_neg (by decide), if_neg (by decide), if_pos rfl, if_neg (by decide), if_neg (by decide), if_pos rfl]
      intro g
      refine ⟨?_, hR1.set _ _⟩
      rw [B_232_204, h230, bI_s, if_neg (by decide), if_neg (by decide), if_neg (by decide), if_pos rfl, h28, wL, o8, ix0 hb, s231 (by omega) (by rw [eb]; omega), bI_s, eb, if_pos (show 0 ≤ T b + v ∧ T b + v ≤ 9999 by omega), B_232_333, if_neg (by decide)]
    · rw [if_neg (by decide), if_neg (by decide), if_pos rfl]
      intro g
      rw [B_232_204, h230, bI_s, if_neg (by decide), if_neg (by decide), if_neg (by decide), if_pos rfl, h28, wL, o8, ix0 hb, s231 (by omega) (by rw [eb]; omega), bI_s, eb, if_neg (show ¬ (0 ≤ T b + v ∧ T b + v ≤ 9999) by omega), B_232_333, if_pos rfl]
  · have eb := e71 b (by omega)
    have e1 : T b + -v = T b - v := by omega
    refine ⟨upM (upM R 53 28 ((L + 1 : Nat) : Int)) 71 b (T b + -v), ?_, ?_, D28.up (by decide) rfl, by rw [up_o (by decide), up_s], by rw [up_o (by decide), up_j (by decide)]⟩
    · rw [if_neg (by decide), if_neg (by decide), if_neg (by decide), if_neg (by decide), if_neg (by decide), if_neg (by decide)]
      intro g
      refine ⟨?_, by rw [← e1]; exact hR1.set _ _⟩
      rw [B_232_204, h230, bI_s, if_neg (by decide), if_neg (by decide), if_neg (by decide), if_neg (by decide), h28, wL, o8, wn, ix0 hb, s231 (by omega) (by rw [eb]; omega), bI_s, eb, if_pos (show 0 ≤ T b + -v ∧ T b + -v ≤ 9999 by omega), B_232_333, if_neg (by decide)]
    · rw [if_neg (by decide), if_neg (by decide), if_neg (by decide)]
      intro g
      rw [B_232_204, h230, bI_s, if_neg (by decide), if_neg (by decide), if_neg (by decide), if_neg (by decide), h28, wL, o8, wn, ix0 hb, s231 (by omega) (by rw [eb]; omega), bI_s, eb, if_neg (show ¬ (0 ≤ T b + -v ∧ T b + -v ≤ 9999) by omega), B_232_333, if_pos rfl]
end LDG
