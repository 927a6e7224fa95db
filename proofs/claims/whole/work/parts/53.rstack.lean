/-! The reference's stack of what waits, and what it notes. -/
section RST
variable {f : Nat → Int} {N : Nat}
def smO (x : Int) : Int := if x = 43 then 2 else if x = 45 then 3 else if x = 42 then 4 else if x = 47 then 5 else if x = 37 then 6 else -1
set_option maxHeartbeats 400000 in
theorem s211 (x : Int) (M : aM) : fnA 211 [.inl x] M = some (some (.inl (smO x)), M) := by
  rw [E_211]
  unfold smO
  repeat' split
  all_goals rfl
set_option maxHeartbeats 400000 in
theorem s210 (x : Int) (M : aM) : fnA 210 [.inl x] M = some (some (.inl (fcO x)), M) := by
  by_cases h98 : x = 98
  · subst h98; rw [E_210]; rfl
  by_cases h99 : x = 99
  · subst h99; rw [E_210]; rfl
  by_cases h100 : x = 100
  · subst h100; rw [E_210]; rfl
  by_cases h101 : x = 101
  · subst h101; rw [E_210]; rfl
  by_cases h103 : x = 103
  · subst h103; rw [E_210]; rfl
  by_cases h109 : x = 109
  · subst h109; rw [E_210]; rfl
  by_cases h111 : x = 111
  · subst h111; rw [E_210]; rfl
  unfold fcO
  rw [E_210, if_neg h98, if_neg h99, if_neg h100, if_neg h101]
  by_cases g102 : x = 102
  · rw [if_pos g102, if_neg h98, if_neg h99, if_neg h100, if_neg h101, if_neg h103, if_neg h109, if_neg h111]
  rw [if_neg g102]
  rw [if_neg h103]
  by_cases g104 : x = 104
  · rw [if_pos g104, if_neg h98, if_neg h99, if_neg h100, if_neg h101, if_neg h103, if_neg h109, if_neg h111]
  rw [if_neg g104]
  by_cases g105 : x = 105
  · rw [if_pos g105, if_neg h98, if_neg h99, if_neg h100, if_neg h101, if_neg h103, if_neg h109, if_neg h111]
  rw [if_neg g105]
  by_cases g106 : x = 106
  · rw [if_pos g106, if_neg h98, if_neg h99, if_neg h100, if_neg h101, if_neg h103, if_neg h109, if_neg h111]
  rw [if_neg g106]
  by_cases g107 : x = 107
  · rw [if_pos g107, if_neg h98, if_neg h99, if_neg h100, if_neg h101, if_neg h103, if_neg h109, if_neg h111]
  rw [if_neg g107]
  by_cases g108 : x = 108
  · rw [if_pos g108, if_neg h98, if_neg h99, if_neg h100, if_neg h101, if_neg h103, if_neg h109, if_neg h111]
  rw [if_neg g108]
  rw [if_neg h109]
  by_cases g110 : x = 110
  · rw [if_pos g110, if_neg h98, if_neg h99, if_neg h100, if_neg h101, if_neg h103, if_neg h109, if_neg h111]
  rw [if_neg g110]
  rw [if_neg h111]
  rw [if_neg h98, if_neg h99, if_neg h100, if_neg h101, if_neg h103, if_neg h109, if_neg h111]
set_option maxHeartbeats 400000 in
theorem smO_m {x : Int} (h : x = 42 ∨ x = 47 ∨ x = 37) : smO x = opO x ∧ 4 ≤ opO x ∧ opO x ≤ 6 := by
  rcases h with rfl | rfl | rfl <;> decide
set_option maxHeartbeats 400000 in
theorem smO_a {x : Int} (h : x = 43 ∨ x = 45) : smO x = opO x ∧ (opO x = 2 ∨ opO x = 3) := by
  rcases h with rfl | rfl <;> decide
set_option maxHeartbeats 400000 in
theorem smO_n {x : Int} (h1 : ¬ (x = 42 ∨ x = 47 ∨ x = 37)) (h2 : ¬ (x = 43 ∨ x = 45)) : smO x = -1 := by
  unfold smO
  rw [if_neg (fun z => h2 (Or.inl z)), if_neg (fun z => h2 (Or.inr z)), if_neg (fun z => h1 (Or.inl z)), if_neg (fun z => h1 (Or.inr (Or.inl z))), if_neg (fun z => h1 (Or.inr (Or.inr z)))]
/- what is noted -/
def nt (R : aM) (b : Nat) (x : Int) : aM := upM (upM R 58 b x) 53 10 ((b + 1 : Nat) : Int)
set_option maxHeartbeats 400000 in
theorem s207 {R : aM} {b : Nat} (h : R 53 10 = (b : Int)) (hb : b < 260) {k v : Int} (hk : 0 ≤ k ∧ k ≤ 20) (hv : 0 ≤ v ∧ v < 1000000) : fnA 207 [.inr (some 53), .inl k, .inl v] R = some (none, nt R b (1048576 * k + v)) := by
  have w : wr (wr (1048576 * k) + v) = 1048576 * k + v := by rw [wr_s (z := 1048576 * k) (by omega) (by omega), wr_s (by omega) (by omega)]
  rw [E_207, h, if_pos (by omega), Int.toNat_natCast, w, up_o (by decide), h, w1p (by omega)]
  rfl
set_option maxHeartbeats 400000 in
theorem nt_10 (R : aM) (b : Nat) (x : Int) : nt R b x 53 10 = ((b + 1 : Nat) : Int) := up_s
set_option maxHeartbeats 400000 in
theorem nt_58 (R : aM) (b : Nat) (x : Int) : nt R b x 58 = tset (R 58) b x := by unfold nt; rw [up_ne (by decide), up_q]
set_option maxHeartbeats 400000 in
theorem nt_o (R : aM) (b : Nat) (x : Int) {q : Nat} (h1 : q ≠ 53) (h2 : q ≠ 58) : nt R b x q = R q := by unfold nt; rw [up_ne h1, up_ne h2]
set_option maxHeartbeats 400000 in
theorem nt_53 (R : aM) (b : Nat) (x : Int) {j : Nat} (h : j ≠ 10) : nt R b x 53 j = R 53 j := by unfold nt; rw [up_j h, up_o (by decide)]
/- what waits on top -/
def tp (R : aM) (w : Nat) : Int := if w = 0 then -1 else wr ((R 59 (w - 1)).tdiv 1048576)
set_option maxHeartbeats 400000 in
theorem s209 {R : aM} {w : Nat} (h : R 53 11 = (w : Int)) (hw : w ≤ 260) : fnA 209 [.inr (some 53)] R = some (some (.inl (tp R w)), R) := by
  unfold tp
  rw [E_209, h]
  by_cases g : w = 0
  · rw [if_pos (by omega), if_pos g]
  · have e : wr ((w : Int) - 1) = ((w - 1 : Nat) : Int) := by rw [wr_s (by omega) (by omega)]; omega
    rw [if_neg (by omega), if_neg g, e, if_pos (by omega), Int.toNat_natCast]
set_option maxHeartbeats 400000 in
theorem tp_e {R : aM} {w : Nat} {k v : Int} (h : R 59 w = 1048576 * k + v) (hk : 0 ≤ k ∧ k ≤ 20) (hv : 0 ≤ v ∧ v < 1000000) : tp R (w + 1) = k := by
  unfold tp
  rw [if_neg (by omega), Nat.add_sub_cancel, h, Int.tdiv_eq_ediv_of_nonneg (by omega)]
  have e : (1048576 * k + v) / 1048576 = k := by omega
  rw [e, wr_s (by omega) (by omega)]
set_option maxHeartbeats 400000 in
theorem tp_c {R R' : aM} {w : Nat} (h : ∀ i, i < w → R' 59 i = R 59 i) : tp R' w = tp R w := by
  unfold tp
  by_cases g : w = 0
  · rw [if_pos g, if_pos g]
  · rw [if_neg g, if_neg g, h (w - 1) (by omega)]
def emL : (Nat → Int) → Nat → List Int → (Nat → Int) × Nat
  | h, b, [] => (h, b)
  | h, b, x :: xs => emL (tset h b (1048576 * x)) (b + 1) xs
set_option maxHeartbeats 400000 in
theorem emL_b : ∀ (pd : List Int) (h : Nat → Int) (b : Nat), (emL h b pd).2 = b + pd.length
  | [], h, b => rfl
  | x :: xs, h, b => by
    rw [emL, emL_b xs]
    simp only [List.length_cons]
    omega
set_option maxHeartbeats 400000 in
theorem emL_app : ∀ (pd qd : List Int) (h : Nat → Int) (b : Nat), emL h b (pd ++ qd) = emL (emL h b pd).1 (emL h b pd).2 qd
  | [], qd, h, b => rfl
  | x :: xs, qd, h, b => emL_app xs qd _ _
def PK (R : aM) (w0 : Nat) : List Int → Prop
  | [] => True
  | x :: xs => R 59 (w0 + xs.length) = 1048576 * x ∧ PK R w0 xs
set_option maxHeartbeats 400000 in
theorem PK.c {R R' : aM} {w0 : Nat} : ∀ {pd : List Int}, (∀ i, i < w0 + pd.length → R' 59 i = R 59 i) → PK R w0 pd → PK R' w0 pd
  | [], _, _ => trivial
  | x :: xs, h, ⟨h1, h2⟩ => ⟨by rw [h _ (by simp only [List.length_cons]; omega)]; exact h1, PK.c (fun i hi => h i (by simp only [List.length_cons]; omega)) h2⟩
set_option maxHeartbeats 400000 in
theorem PK.app {R : aM} {w0 : Nat} {a : Int} (ha : R 59 w0 = 1048576 * a) : ∀ {pd : List Int}, PK R (w0 + 1) pd → PK R w0 (pd ++ [a])
  | [], _ => ⟨ha, trivial⟩
  | x :: xs, ⟨h1, h2⟩ => by
    refine ⟨?_, PK.app ha h2⟩
    show R 59 (w0 + (xs ++ [a]).length) = _
    rw [List.length_append, List.length_singleton, show w0 + (xs.length + 1) = w0 + 1 + xs.length by omega]
    exact h1
def PRs (q : Nat) : Bool := q == 58 || q == 59
def DRs (j : Nat) : Bool := j == 5 || j == 7 || j == 8 || j == 9 || j == 10 || j == 11
/- all but what is read and noted; what waited below stays -/
def KW (w0 : Nat) (R R' : aM) : Prop := RF PRs DRs R R' ∧ ∀ i, i < w0 → R' 59 i = R 59 i
set_option maxHeartbeats 400000 in
theorem KW.rf {w0 : Nat} {R : aM} : KW w0 R R := ⟨RF.rf, fun _ _ => rfl⟩
set_option maxHeartbeats 400000 in
theorem KW.tr {w0 : Nat} {R R1 R2 : aM} (h : KW w0 R R1) (h2 : KW w0 R1 R2) : KW w0 R R2 := ⟨h.1.tr h2.1, fun i hi => (h2.2 i hi).trans (h.2 i hi)⟩
set_option maxHeartbeats 400000 in
theorem KW.le {w0 w1 : Nat} {R R1 : aM} (h : KW w1 R R1) (hw : w0 ≤ w1) : KW w0 R R1 := ⟨h.1, fun i hi => h.2 i (by omega)⟩
set_option maxHeartbeats 400000 in
theorem KW.u {w0 : Nat} {R R1 : aM} (h : KW w0 R R1) {j : Nat} {x : Int} (hj : DRs j = true) : KW w0 R (upM R1 53 j x) := ⟨h.1.u hj, fun i hi => by rw [up_o (by decide)]; exact h.2 i hi⟩
set_option maxHeartbeats 400000 in
theorem KW.u58 {w0 : Nat} {R R1 : aM} (h : KW w0 R R1) {j : Nat} {x : Int} : KW w0 R (upM R1 58 j x) := ⟨h.1.up (by decide) rfl, fun i hi => by rw [up_o (by decide)]; exact h.2 i hi⟩
set_option maxHeartbeats 400000 in
theorem KW.u59 {w0 : Nat} {R R1 : aM} (h : KW w0 R R1) {j : Nat} {x : Int} (hj : w0 ≤ j) : KW w0 R (upM R1 59 j x) := ⟨h.1.up (by decide) rfl, fun i hi => by rw [up_j (by omega)]; exact h.2 i hi⟩
set_option maxHeartbeats 400000 in
theorem KW.nt {w0 : Nat} {R R1 : aM} (h : KW w0 R R1) {b : Nat} {x : Int} : KW w0 R (nt R1 b x) := h.u58.u rfl
def inS (x1 y : Int) : Prop := (4 ≤ y ∧ y ≤ 6) ∨ (x1 ≠ 0 ∧ (y = 2 ∨ y = 3))
/- sums are closed -/
set_option maxHeartbeats 400000 in
theorem s212f {x1 : Int} {w0 : Nat} : ∀ (pd : List Int) (R : aM) (b0 : Nat), (∀ x, x ∈ pd → inS x1 x) → ¬ inS x1 (tp R w0) → R 53 11 = ((w0 + pd.length : Nat) : Int) → PK R w0 pd → R 53 10 = (b0 : Int) → b0 + pd.length ≤ 250 → w0 + pd.length ≤ 250 → ∃ R', run 1 212 0 [.inr (some 53), .inl x1] [] R = some (none, R') ∧ R' 53 11 = (w0 : Int) ∧ R' 53 10 = (((emL (R 58) b0 pd).2 : Nat) : Int) ∧ R' 58 = (emL (R 58) b0 pd).1 ∧ R' 59 = R 59 ∧ (∀ q, q ≠ 53 → q ≠ 58 → R' q = R q) ∧ ∀ j, j ≠ 10 → j ≠ 11 → R' 53 j = R 53 j := by
  intro pd
  induction pd with
  | nil =>
    intro R b0 _ ht hw _ hb _ hl
    have h9 := s209 hw (by simpa using Nat.le_trans hl (by decide))
    have hw' : R 53 11 = (w0 : Int) := hw
    refine ⟨R, ?_, hw', hb, rfl, rfl, fun _ _ _ => rfl, fun _ _ _ => rfl⟩
    have ht' : ¬ ((4 ≤ tp R w0 ∧ tp R w0 ≤ 6) ∨ (x1 ≠ 0 ∧ (tp R w0 = 2 ∨ tp R w0 = 3))) := ht
    have e17 : run 1 212 17 [.inr (some 53), .inl x1] [] R = some (none, R) := by
      rw [B_212_17]
      by_cases g : x1 = 0
      · rw [if_pos g]
      · have h9' : fnA 209 [.inr (some 53)] R = some (some (.inl (tp R w0)), R) := h9
        rw [if_neg g, h9', bI_s, if_neg (fun z => ht' (Or.inr ⟨g, Or.inl z⟩)), h9', bI_s, if_neg (fun z => ht' (Or.inr ⟨g, Or.inr z⟩))]
    have h9' : fnA 209 [.inr (some 53)] R = some (some (.inl (tp R w0)), R) := h9
    rw [B_212_0, h9', bI_s]
    by_cases g : tp R w0 < 4
    · rw [if_pos g, e17]
    · rw [if_neg g, h9', bI_s, if_neg (fun z => ht' (Or.inl ⟨by omega, z⟩)), e17]
  | cons x xs ih =>
    intro R b0 hS ht hw hP hb hbl hl
    simp only [List.length_cons] at hbl hl
    have hx := hS x List.mem_cons_self
    have hx' : (4 ≤ x ∧ x ≤ 6) ∨ (x1 ≠ 0 ∧ (x = 2 ∨ x = 3)) := hx
    have hw1 : R 53 11 = ((w0 + xs.length + 1 : Nat) : Int) := by rw [hw]; simp only [List.length_cons]; rfl
    have htp : tp R (w0 + xs.length + 1) = x := tp_e (v := 0) (by rw [hP.1]; omega) (by omega) (by omega)
    have h9 := s209 hw1 (by omega)
    rw [htp] at h9
    have e37 : run 1 212 37 [.inr (some 53), .inl x1] [] R = run 1 212 0 [.inr (some 53), .inl x1] [] (upM (nt R b0 (1048576 * x + 0)) 53 11 ((w0 + xs.length : Nat) : Int)) := by
      rw [B_212_37, h9, bI_s, s207 hb (by omega) (by omega) (by decide), bV_s, nt_53 _ _ _ (by decide), hw1, wm1 (by omega)]
    have e0 : run 1 212 0 [.inr (some 53), .inl x1] [] R = run 1 212 37 [.inr (some 53), .inl x1] [] R := by
      rw [B_212_0, h9, bI_s]
      by_cases g : x < 4
      · have g1 : x1 ≠ 0 ∧ (x = 2 ∨ x = 3) := hx'.resolve_left (fun z => by omega)
        rw [if_pos g, B_212_17, if_neg g1.1, h9, bI_s]
        by_cases g2 : x = 2
        · rw [if_pos g2]
        · rw [if_neg g2, h9, bI_s, if_pos (g1.2.resolve_left g2)]
      · rw [if_neg g, h9, bI_s, if_pos (by omega)]
    have o59 : upM (nt R b0 (1048576 * x + 0)) 53 11 ((w0 + xs.length : Nat) : Int) 59 = R 59 := by rw [up_ne (by decide), nt_o _ _ _ (by decide) (by decide)]
    obtain ⟨R', c1, c2, c3, c4, c5, c6, c7⟩ := ih (upM (nt R b0 (1048576 * x + 0)) 53 11 ((w0 + xs.length : Nat) : Int)) (b0 + 1) (fun y hy => hS y (List.mem_cons_of_mem _ hy)) (by rw [tp_c (R := R) (fun i _ => by rw [o59])]; exact ht) up_s (hP.2.c (fun i _ => by rw [o59])) (by rw [up_j (by decide), nt_10]) (by omega) (by omega)
    have e58 : upM (nt R b0 (1048576 * x + 0)) 53 11 ((w0 + xs.length : Nat) : Int) 58 = tset (R 58) b0 (1048576 * x) := by rw [up_ne (by decide), nt_58, Int.add_zero]
    rw [e58] at c3 c4
    refine ⟨R', ?_, c2, c3, c4, c5.trans o59, fun q q1 q2 => ?_, fun j j1 j2 => ?_⟩
    · rw [e0, e37]; exact c1
    · rw [c6 q q1 q2, up_ne q1, nt_o _ _ _ q1 q2]
    · rw [c7 j j1 j2, up_j j2, nt_53 _ _ _ j1]
/- something is opened -/
def op1 (R : aM) (o w p : Nat) (k : Int) : aM := upM (upM (upM (upM R 53 9 ((o + 1 : Nat) : Int)) 59 w (1048576 * k)) 53 11 ((w + 1 : Nat) : Int)) 53 5 ((p + 1 : Nat) : Int)
set_option maxHeartbeats 400000 in
theorem s208 {R : aM} {o w p : Nat} {k : Int} (ho : o ≤ 6) (h9 : R 53 9 = (o : Int)) (h11 : R 53 11 = (w : Int)) (h5 : R 53 5 = (p : Int)) (hw : w < 260) (hp : p < 900) (hk : 0 ≤ k ∧ k ≤ 20) : fnA 208 [.inr (some 53), .inl k] R = if 6 ≤ o then some (some (.inl 0), upM R 53 7 (flt 5 p)) else some (some (.inl 1), op1 R o w p k) := by
  have wk : wr (1048576 * k) = 1048576 * k := wr_s (by omega) (by omega)
  rw [E_208, h9]
  by_cases g : 6 ≤ o
  · have h204 := s204 (k := 5) (p := p) (by decide) (by omega) R
    have h204' : fnA 204 [.inr (some 53), .inl 5, .inl (p : Int)] R = some (some (.inl 0), upM R 53 7 (flt 5 p)) := h204
    rw [if_pos (by omega), if_pos g, h5, h204', bI_s, if_pos (Or.inl rfl)]
  · rw [if_neg (by omega), if_neg g, up_j (by decide), h11, if_pos (by omega), Int.toNat_natCast, wk, w1p (by omega), up_o (by decide), up_j (by decide), h11, w1p (by omega), up_j (by decide), up_o (by decide), up_j (by decide), h5, w1p (by omega)]
    rfl
/- is a [ open above base -/
set_option maxHeartbeats 400000 in
theorem s214 {R : aM} {w : Nat} (hw : R 53 11 = (w : Int)) (hl : w ≤ 260) {base : Nat} (hb : base ≤ w) : fnA 214 [.inr (some 53), .inl (base : Int)] R = some (some (.inl (bI1 (∃ i, base ≤ i ∧ i < w ∧ wr ((R 59 i).tdiv 1048576) = 14))), R) := by
  have key : ∀ (k i : Nat), i + k = w → base ≤ i → (∀ j, base ≤ j → j < i → ¬ wr ((R 59 j).tdiv 1048576) = 14) → run 0 214 2 [.inr (some 53), .inl (base : Int), .inl (i : Int)] [] R = some (some (.inl (bI1 (∃ i, base ≤ i ∧ i < w ∧ wr ((R 59 i).tdiv 1048576) = 14))), R) := by
    intro k
    induction k with
    | zero =>
      intro i hi h1 h2
      rw [B_214_2, hw, if_pos (by omega), bI1_f]
      rintro ⟨j, j1, j2, j3⟩
      exact h2 j j1 (by omega) j3
    | succ k ih =>
      intro i hi h1 h2
      rw [B_214_2, hw, if_neg (by omega), if_pos (by omega), Int.toNat_natCast, w1p (by omega)]
      by_cases g : wr ((R 59 i).tdiv 1048576) = 14
      · rw [if_pos g, bI1_t ⟨i, h1, by omega, g⟩]
      · rw [if_neg g]
        refine ih (i + 1) (by omega) (by omega) (fun j j1 j2 => ?_)
        by_cases e : j = i
        · rw [e]; exact g
        · exact h2 j j1 (by omega)
  rw [E_214]
  exact key (w - base) base (by omega) (Nat.le_refl _) (fun j j1 j2 => absurd j2 (by omega))
/- five digits -/
set_option maxHeartbeats 400000 in
theorem s206l (hf : FT f N) (P D : Nat → Bool) (hP : P 57 = false) (hD : D 5 = true ∧ D 7 = true ∧ D 8 = true ∧ D 6 = false) {s : Nat} (hs : s < 1000) : ∀ (k d p : Nat) (a : Int) (R : aM), d + k = 5 → p = s + d → RX f N p R → R 53 8 = a → 0 ≤ a → a < ((10 ^ d : Nat) : Int) → ∃ R', RF P D R R' ∧ rNum R' (run 2 206 10 [.inr (some 53), .inl (s : Int)] [] R) (pnum f k p a) := by
  intro k
  induction k with
  | zero =>
    intro d p a R hd hp hX h8 a0 a1
    have w3 : EqI (wr ((s : Int) + 5)) ((s + 5 : Nat) : Int) := wad (b := 5) (by omega)
    by_cases g : 48 ≤ f p ∧ f p ≤ 57
    · have hpn : p < N := p240 hf (by omega)
      have hn4 := hf.1
      have e : (p : Int) = ((s + 5 : Nat) : Int) := by omega
      refine ⟨upM R 53 7 (flt 2 p), RF.rf.u hD.2.1, ?_⟩
      unfold pnum
      rw [if_pos g]
      refine ⟨?_, up_s⟩
      rw [B_206_10, s203 hf hX, bI_s, if_pos g, if_neg (by decide), hX.2.1, w3.e, if_pos e, show (2 : Int) = ((2 : Nat) : Int) from rfl, s204 (by decide) (by omega), bI_s, if_pos (Or.inl rfl)]
    · refine ⟨R, RF.rf, ?_⟩
      unfold pnum
      rw [if_neg g]
      refine ⟨?_, hX.2.1, h8⟩
      rw [B_206_10, s203 hf hX, bI_s, if_neg g, if_pos rfl]
  | succ k ih =>
    intro d p a R hd hp hX h8 a0 a1
    have w3 : EqI (wr ((s : Int) + 5)) ((s + 5 : Nat) : Int) := wad (b := 5) (by omega)
    show ∃ R', RF P D R R' ∧ rNum R' _ (if 48 ≤ f p ∧ f p ≤ 57 then pnum f k (p + 1) (10 * a + f p - 48) else .inr (p, a))
    by_cases g : 48 ≤ f p ∧ f p ≤ 57
    · have hpn : p < N := p240 hf (by omega)
      have hn4 := hf.1
      have e : ¬ (p : Int) = ((s + 5 : Nat) : Int) := by omega
      have hfp := hf.2.1 p hpn
      have a2 := p10 (by omega) a1
      have w := wnum' (c := f p) a0 (by omega) hfp
      have wp := w1p (a := p) (by omega)
      rw [if_pos g]
      obtain ⟨R', c1, c2⟩ := ih (d + 1) (p + 1) (10 * a + f p - 48) (upM (upM R 53 8 (10 * a + f p - 48)) 53 5 ((p + 1 : Nat) : Int)) (by omega) (by omega) ((hX.o (by decide)).st (p + 1)) (by rw [up_j (by decide), up_s]) (by omega) (p10s a1 g.2)
      refine ⟨R', ((RF.rf.u hD.2.2.1).u hD.1).tr c1, ?_⟩
      rw [B_206_10, s203 hf hX, bI_s, if_pos g, if_neg (by decide), hX.2.1, w3.e, if_neg e, s202 hf hX, bI_s, h8, w, up_j (by decide), hX.2.1, wp]
      exact c2
    · rw [if_neg g]
      refine ⟨R, RF.rf, ?_, hX.2.1, h8⟩
      rw [B_206_10, s203 hf hX, bI_s, if_neg g, if_pos rfl]
set_option maxHeartbeats 400000 in
theorem s206 (hf : FT f N) (P D : Nat → Bool) (hP : P 57 = false) (hD : D 5 = true ∧ D 7 = true ∧ D 8 = true ∧ D 6 = false) {p : Nat} {R : aM} (hX : RX f N p R) (hp : p < 1000) : ∃ R', RF P D R R' ∧ rNum R' (fnA 206 [.inr (some 53)] R) (pnum f 5 p 0) := by
  rw [E_206, hX.2.1]
  obtain ⟨R', c1, c2⟩ := s206l hf P D hP hD hp 5 0 p 0 (upM R 53 8 0) (by omega) rfl (hX.o (by decide)) up_s (Int.le_refl _) (by decide)
  exact ⟨R', (RF.rf.u hD.2.2.1).tr c1, c2⟩
end RST
