/-! All pieces; what a rule says. -/
section EV2
variable {M0 R0 : aM} {t2 : Nat} {VAL : Int → Int} {g h : Nat → Int}
def lt7 (c : Int) : Prop := c = 98 ∨ c = 99 ∨ c = 111 ∨ c = 103 ∨ c = 101 ∨ c = 100 ∨ c = 109
set_option maxHeartbeats 400000 in
theorem cEV.num (ht2 : isT t2) (hg : ∀ j, j < 480 → M0 52 j = g j) {a' : Nat} {v : Int} (h2 : g a' = 48) (h3 : g (a' + 1) = v) (hb : a' + 2 ≤ 480) : cEV M0 t2 a' (a' + 2) 1 (some v) := by
  intro M x3 x4 v6 v7 v8 n hE hM2 hM1 hn hx4
  have hst := cstep ht2 hg (x3 := x3) (v6 := v6) (v7 := v7) (v8 := v8) hE hM2 (j := a') (by omega) (by omega : (a' : Int) < x4)
  have e : M 52 (a' + 1) = v := by rw [hE.1 52 (by decide) (by decide), hg _ (by omega)]; exact h3
  rw [h2, if_pos rfl, s49 (by omega), bI_s, e, s6 hM1 (by omega), bV_s] at hst
  exact ⟨_, _, _, _, hst, hE.pu, by rw [pu_2]; exact hM2, pu_1 _ _ _, pu_s _ _ _, fun i hi => pu_o _ _ (by omega)⟩
set_option maxHeartbeats 400000 in
theorem rEV.num (hh : ∀ j, j < 260 → R0 64 j = h j) {a : Nat} {v : Int} (h0 : 0 ≤ v) (h1 : v < 100000) (h4 : h a = v) (hb : a + 1 ≤ 260) : rEV R0 a (a + 1) 1 (some v) := by
  intro R x1 x2 v6 v7 n hE hn hx2
  have hcd := rcode (R := R) (j := a) (k := 0) (v := v) (by rw [hE 64 (by decide), hh a (by omega), h4]; omega) (by decide) (by omega)
  have y0 : 0 ≤ (a : Int) ∧ (a : Int) < 260 := by omega
  have y1 : 0 ≤ (n : Int) ∧ (n : Int) < 260 := by omega
  refine ⟨upM R 69 n v, .inl 0, .inl v, ?_, fun q hq => by rw [up_ne hq]; exact hE q hq, up_s, fun i hi => up_j (by omega)⟩
  rw [B_225_16, if_neg (by omega), if_pos y0, if_pos y0, Int.toNat_natCast, hcd.1, hcd.2, if_pos rfl, w1p (by omega), B_225_63, if_pos rfl, B_225_85, if_pos y1, Int.toNat_natCast, w1p (by omega)]
set_option maxHeartbeats 400000 in
theorem cEV.let (ht2 : isT t2) (hg : ∀ j, j < 480 → M0 52 j = g j) (hV : ∀ c, lt7 c → ∀ M, EF M0 M → fnA 9 [.inr (some 24), .inr (some t2), .inl c] M = some (some (.inl (VAL c)), M)) {a' : Nat} {c : Int} (hc : lt7 c) (h2 : g a' = c) (hb : a' + 1 ≤ 480) : cEV M0 t2 a' (a' + 1) 1 (some (VAL c)) := by
  intro M x3 x4 v6 v7 v8 n hE hM2 hM1 hn hx4
  have hst := cstep ht2 hg (x3 := x3) (v6 := v6) (v7 := v7) (v8 := v8) hE hM2 (j := a') (by omega) (by omega : (a' : Int) < x4)
  have n1 : ¬ c = 48 ∧ ¬ c = 38 ∧ ¬ c = 124 ∧ ¬ c < 97 ∧ ¬ 122 < c := by unfold lt7 at hc; omega
  rw [h2, if_neg n1.1, if_neg n1.2.1, if_neg n1.2.2.1, if_neg n1.2.2.2.1, if_neg n1.2.2.2.2, hV c hc M hE, bI_s, s6 hM1 (by omega), bV_s] at hst
  exact ⟨_, _, _, _, hst, hE.pu, by rw [pu_2]; exact hM2, pu_1 _ _ _, pu_s _ _ _, fun i hi => pu_o _ _ (by omega)⟩
set_option maxHeartbeats 400000 in
theorem rEV.let (hh : ∀ j, j < 260 → R0 64 j = h j) (hR : ∀ c, lt7 c → R0 70 (fcO c).toNat = VAL c) {a : Nat} {c : Int} (hc : lt7 c) (h4 : h a = 1048576 + fcO c) (hb : a + 1 ≤ 260) : rEV R0 a (a + 1) 1 (some (VAL c)) := by
  intro R x1 x2 v6 v7 n hE hn hx2
  have hfc : 0 ≤ fcO c ∧ fcO c < 7 := by
    rcases hc with z | z | z | z | z | z | z <;> (rw [z]; decide)
  have hcd := rcode (R := R) (j := a) (k := 1) (v := fcO c) (by rw [hE 64 (by decide), hh a (by omega), h4]; omega) (by decide) (by omega)
  have y0 : 0 ≤ (a : Int) ∧ (a : Int) < 260 := by omega
  have y1 : 0 ≤ (n : Int) ∧ (n : Int) < 260 := by omega
  refine ⟨upM R 69 n (VAL c), .inl 1, .inl (fcO c), ?_, fun q hq => by rw [up_ne hq]; exact hE q hq, up_s, fun i hi => up_j (by omega)⟩
  rw [B_225_16, if_neg (by omega), if_pos y0, if_pos y0, Int.toNat_natCast, hcd.1, hcd.2, if_neg (by decide), if_pos rfl, w1p (by omega), B_225_63, if_neg (by decide), if_pos hfc, hE 70 (by decide), hR c hc, B_225_85, if_pos y1, Int.toNat_natCast, w1p (by omega)]
def ntV (x : Int) : Int := 1 - x
set_option maxHeartbeats 400000 in
theorem cEV.nt (ht2 : isT t2) (hg : ∀ j, j < 480 → M0 52 j = g j) {a' b' d : Nat} {r1 : Option Int} (h1 : cEV M0 t2 a' b' d r1) (hr : ∀ x, r1 = some x → x = 0 ∨ x = 1) (hb : b' + 1 ≤ 480) (h3 : g b' = 33) (hd : 1 ≤ d) : cEV M0 t2 a' (b' + 1) d (r1.map ntV) := by
  intro M x3 x4 v6 v7 v8 n hE hM2 hM1 hn hx4
  have k1 := h1 M x3 x4 v6 v7 v8 n hE hM2 hM1 (by omega) (by omega)
  rcases r1 with _ | x
  · exact k1
  obtain ⟨Ma, w6, w7, w8, c1, c2, c3, c4, c5, c6⟩ := k1
  have hst := cstep ht2 hg (x3 := x3) (v6 := w6) (v7 := w7) (v8 := w8) c2 c3 (j := b') (by omega) (by omega : (b' : Int) < x4)
  have p1 : fnA 8 [.inr (some 24)] Ma = some (some (.inl x), upM Ma 24 1 (n : Int)) := by rw [s8 c4 (by omega), c5]
  have p6 : ∀ z, fnA 6 [.inr (some 24), .inl z] (upM Ma 24 1 (n : Int)) = some (none, pu (upM Ma 24 1 (n : Int)) n z) := fun z => s6 up_s (by omega) z
  have h10 : fnA 10 [.inr (some 24), .inl 33] Ma = some (none, pu (upM Ma 24 1 (n : Int)) n (ntV x)) := by
    rw [E_10, p1, bI_s, if_pos rfl]
    rcases hr x rfl with rfl | rfl
    · rw [if_pos rfl, p6, bV_s]; rfl
    · rw [if_neg (by decide), p6, bV_s]; rfl
  rw [h3, if_neg (by decide), if_neg (by decide), if_neg (by decide), if_pos (by decide), B_5_175 _ _ _ _ _ _ _ _ _ isW47 ht2, h10, bV_s] at hst
  refine ⟨_, _, _, _, c1.trans hst, (c2.u1 (by decide)).pu, ?_, pu_1 _ _ _, pu_s _ _ _, fun i hi => ?_⟩
  · rw [pu_2, up_j (by decide)]; exact c3
  · rw [pu_o _ _ (by omega), up_o (by decide), c6 i hi]
set_option maxHeartbeats 400000 in
theorem rEV.nt (hh : ∀ j, j < 260 → R0 64 j = h j) {a b d : Nat} {r1 : Option Int} (h1 : rEV R0 a b d r1) (hr : ∀ x, r1 = some x → x = 0 ∨ x = 1) (hb : b + 1 ≤ 260) (h3 : h b = 1048576 * 10) : rEV R0 a (b + 1) d (r1.map ntV) := by
  intro R x1 x2 v6 v7 n hE hn hx2
  have k1 := h1 R x1 x2 v6 v7 n hE (by omega) (by omega)
  rcases r1 with _ | x
  · exact k1
  obtain ⟨Ra, w6, w7, c1, c2, c3, c4⟩ := k1
  have hcd := rcode (R := Ra) (j := b) (k := 10) (v := 0) (by rw [c2 64 (by decide), hh b (by omega), h3]; omega) (by decide) (by decide)
  have y0 : 0 ≤ (b : Int) ∧ (b : Int) < 260 := by omega
  have y1 : 0 ≤ (n : Int) ∧ (n : Int) < 260 := by omega
  have e1 : wr (((n + 1 : Nat) : Int) - 1) = (n : Int) := wm1 (by omega)
  have hx01 := hr x rfl
  have e2 : wr (1 - x) = ntV x := wr_s (by omega) (by omega)
  refine ⟨upM Ra 69 n (ntV x), .inl 10, .inl 0, c1.trans ?_, fun q hq => by rw [up_ne hq]; exact c2 q hq, up_s, fun i hi => by rw [up_j (by omega)]; exact c4 i hi⟩
  rw [B_225_16, if_neg (by omega), if_pos y0, if_pos y0, Int.toNat_natCast, hcd.1, hcd.2, if_neg (by decide), if_neg (by decide), if_pos rfl, e1, if_pos y1, if_pos y1, Int.toNat_natCast, c3, e2, w1p (by omega)]
/- & and | -/
def cRes (M0 M : aM) (n : Nat) (X : aX) (F : aV → aV → aV → aM → aX) : Option Int → Prop
  | none => ∃ M', X = some (some (.inl 0), M') ∧ EF M0 M'
  | some x => ∃ M' w6 w7 w8, X = F w6 w7 w8 M' ∧ EF M0 M' ∧ M' 24 2 = 0 ∧ M' 24 1 = ((n + 1 : Nat) : Int) ∧ M' 25 n = x ∧ ∀ i, i < n → M' 25 i = M 25 i
def rRes (R0 R : aM) (n : Nat) (X : aX) (F : aV → aV → aM → aX) : Option Int → Prop
  | none => ∃ R', X = some (some (.inl 0), R') ∧ RFv R0 R'
  | some x => ∃ R' w6 w7, X = F w6 w7 R' ∧ RFv R0 R' ∧ R' 69 n = x ∧ ∀ i, i < n → R' 69 i = R 69 i
def jmV (k x : Int) (r2 : Option Int) : Option Int := if k = 11 then (if x = 0 then some 0 else r2) else (if x = 0 then r2 else some 1)
set_option maxHeartbeats 400000 in
theorem cEV.jm (ht2 : isT t2) (hg : ∀ j, j < 480 → M0 52 j = g j) {a' m' b' d e : Nat} {c k : Int} {r1 r2 : Option Int} (hc : c = 38 ∧ k = 11 ∨ c = 124 ∧ k = 12) (h1 : cEV M0 t2 a' m' d r1) (h2 : cEV M0 t2 (m' + 2) b' e r2) (hr : ∀ x, r1 = some x → x = 0 ∨ x = 1) (hm : m' + 2 ≤ b') (hb : b' ≤ 480) (h3 : EqI (g m') c) (h4 : EqI (g (m' + 1)) (b' : Int)) (hd : 1 ≤ d) : cEV M0 t2 a' b' (max d e) (r1.bind fun x => jmV k x r2) := by
  intro M x3 x4 v6 v7 v8 n hE hM2 hM1 hn hx4
  have i1 : n + d ≤ 32 := by omega
  have i2 : (m' : Int) ≤ x4 := by omega
  have i3 : (m' : Int) < x4 := by omega
  have i4 : n < 32 := by omega
  have i5 : m' < 480 := by omega
  have i6 : m' + 1 < 480 := by omega
  have i7 : n + e ≤ 32 := by omega
  have hbm : (b' : Int) ≤ ((m' + 2 : Nat) : Int) → b' = m' + 2 := fun z => by omega
  have k1 := h1 M x3 x4 v6 v7 v8 n hE hM2 hM1 i1 i2
  rcases r1 with _ | x
  · exact k1
  obtain ⟨Ma, w6, w7, w8, c1, c2, c3, c4, c5, c6⟩ := k1
  have hst := cstep ht2 hg (x3 := x3) (v6 := w6) (v7 := w7) (v8 := w8) c2 c3 (j := m') i5 i3
  have h7 := s7 c4 i4
  rw [c5] at h7
  have h8 := s8 c4 i4
  have h49 := s49 (M := Ma) (j := m' + 1) i6
  rw [c2.1 52 (by decide) (by decide), hg (m' + 1) i6, h4.e] at h49
  have w2 : EqI (wr (((m' + 1 : Nat) : Int) + 1)) ((m' + 2 : Nat) : Int) := w1p (a := m' + 1) (by omega)
  have e107 : ∀ s0 : Int, run 3 5 107 [.inr (some 24), .inr (some 47), .inr (some t2), .inl x3, .inl x4, .inl ((m' + 1 : Nat) : Int), .inl c, w7, w8] [.inl s0] Ma = if s0 = 0 then run 3 5 13 [.inr (some 24), .inr (some 47), .inr (some t2), .inl x3, .inl x4, .inl ((m' + 2 : Nat) : Int), .inl c, .inl s0, .inl (b' : Int)] [] (upM Ma 24 1 (n : Int)) else run 3 5 13 [.inr (some 24), .inr (some 47), .inr (some t2), .inl x3, .inl x4, .inl (b' : Int), .inl c, .inl s0, .inl (b' : Int)] [] Ma := fun s0 => by
    rw [B_5_107 _ _ _ _ _ _ _ _ _ _ isW47 ht2, h49, bI_s, w2.e]
    by_cases z : s0 = 0
    · rw [if_pos z, if_pos z, h8, bI_s]
    · rw [if_neg z, if_neg z]
      by_cases zb : (b' : Int) ≤ ((m' + 2 : Nat) : Int)
      · rw [if_pos zb, hbm zb]
      · rw [if_neg zb]
  have e75 : run 3 5 13 [.inr (some 24), .inr (some 47), .inr (some t2), .inl x3, .inl x4, .inl (m' : Int), w6, w7, w8] [] Ma = if x = 0 then run 3 5 87 [.inr (some 24), .inr (some 47), .inr (some t2), .inl x3, .inl x4, .inl ((m' + 1 : Nat) : Int), .inl c, w7, w8] [.inl 0] Ma else run 3 5 87 [.inr (some 24), .inr (some 47), .inr (some t2), .inl x3, .inl x4, .inl ((m' + 1 : Nat) : Int), .inl c, w7, w8] [.inl 1] Ma := by
    rw [hst, h3.e]
    rcases hc with ⟨rfl, -⟩ | ⟨rfl, -⟩
    · rw [if_neg (by decide), if_pos rfl, B_5_75 _ _ _ _ _ _ _ _ _ isW47 ht2, h7, bI_s]
    · rw [if_neg (by decide), if_neg (by decide), if_pos rfl, B_5_75 _ _ _ _ _ _ _ _ _ isW47 ht2, h7, bI_s]
  have stay : ∀ s0 : Int, s0 ≠ 0 → run 3 5 13 [.inr (some 24), .inr (some 47), .inr (some t2), .inl x3, .inl x4, .inl (m' : Int), w6, w7, w8] [] Ma = run 3 5 107 [.inr (some 24), .inr (some 47), .inr (some t2), .inl x3, .inl x4, .inl ((m' + 1 : Nat) : Int), .inl c, w7, w8] [.inl s0] Ma → cRes M0 M n (run 3 5 13 [.inr (some 24), .inr (some 47), .inr (some t2), .inl x3, .inl x4, .inl (a' : Int), v6, v7, v8] [] M) (fun w6 w7 w8 M' => run 3 5 13 [.inr (some 24), .inr (some 47), .inr (some t2), .inl x3, .inl x4, .inl (b' : Int), w6, w7, w8] [] M') (some x) := fun s0 hs0 he => by
    have e := e107 s0
    rw [if_neg hs0] at e
    exact ⟨Ma, _, _, _, c1.trans (he.trans e), c2, c3, c4, c5, c6⟩
  have goon : run 3 5 13 [.inr (some 24), .inr (some 47), .inr (some t2), .inl x3, .inl x4, .inl (m' : Int), w6, w7, w8] [] Ma = run 3 5 107 [.inr (some 24), .inr (some 47), .inr (some t2), .inl x3, .inl x4, .inl ((m' + 1 : Nat) : Int), .inl c, w7, w8] [.inl 0] Ma → cRes M0 M n (run 3 5 13 [.inr (some 24), .inr (some 47), .inr (some t2), .inl x3, .inl x4, .inl (a' : Int), v6, v7, v8] [] M) (fun w6 w7 w8 M' => run 3 5 13 [.inr (some 24), .inr (some 47), .inr (some t2), .inl x3, .inl x4, .inl (b' : Int), w6, w7, w8] [] M') r2 := fun he => by
    have e := e107 0
    rw [if_pos rfl] at e
    have k2 := h2 (upM Ma 24 1 (n : Int)) x3 x4 (.inl c) (.inl 0) (.inl (b' : Int)) n (c2.u1 (by decide)) (by rw [up_j (by decide)]; exact c3) up_s i7 hx4
    rcases r2 with _ | y
    · obtain ⟨Mb, d1, d2⟩ := k2
      exact ⟨Mb, c1.trans (he.trans (e.trans d1)), d2⟩
    · obtain ⟨Mb, u6, u7, u8, d1, d2, d3, d4, d5, d6⟩ := k2
      exact ⟨Mb, u6, u7, u8, c1.trans (he.trans (e.trans d1)), d2, d3, d4, d5, fun i hi => by rw [d6 i hi, up_o (by decide), c6 i hi]⟩
  clear h2
  rcases hr x rfl with rfl | rfl
  · rcases hc with ⟨rfl, rfl⟩ | ⟨rfl, rfl⟩
    · rw [if_pos rfl, B_5_87 _ _ _ _ _ _ _ _ _ _ isW47 ht2, if_neg (by decide), if_pos rfl] at e75
      exact stay 1 (by decide) e75
    · rw [if_pos rfl, B_5_87 _ _ _ _ _ _ _ _ _ _ isW47 ht2, if_pos rfl, if_neg (by decide)] at e75
      have G := goon e75
      clear goon
      rcases r2 with _ | y
      · exact G
      · exact G
  · rcases hc with ⟨rfl, rfl⟩ | ⟨rfl, rfl⟩
    · rw [if_neg (by decide), B_5_87 _ _ _ _ _ _ _ _ _ _ isW47 ht2, if_neg (by decide), if_neg (by decide)] at e75
      have G := goon e75
      clear goon
      rcases r2 with _ | y
      · exact G
      · exact G
    · rw [if_neg (by decide), B_5_87 _ _ _ _ _ _ _ _ _ _ isW47 ht2, if_pos rfl, if_pos rfl] at e75
      exact stay 1 (by decide) e75
set_option maxHeartbeats 400000 in
theorem rEV.jm (hh : ∀ j, j < 260 → R0 64 j = h j) {a m b d e : Nat} {k : Int} {r1 r2 : Option Int} (hk : k = 11 ∨ k = 12) (h1 : rEV R0 a m d r1) (h2 : rEV R0 (m + 1) b e r2) (hr : ∀ x, r1 = some x → x = 0 ∨ x = 1) (hm : m + 1 ≤ b) (hb : b ≤ 260) (h3 : EqI (h m) (1048576 * k + (b : Int))) : rEV R0 a b (max d e) (r1.bind fun x => jmV k x r2) := by
  intro R x1 x2 v6 v7 n hE hn hx2
  have i1 : n + d ≤ 250 := by omega
  have i2 : (m : Int) ≤ x2 := by omega
  have i3 : m < 260 := by omega
  have i4 : 0 ≤ k ∧ k ≤ 20 := by omega
  have i5 : 0 ≤ (b : Int) ∧ (b : Int) < 1000000 := by omega
  have i6 : n + e ≤ 250 := by omega
  have y0 : 0 ≤ (m : Int) ∧ (m : Int) < 260 := by omega
  have y1 : 0 ≤ (n : Int) ∧ (n : Int) < 260 := by omega
  have b1 : ¬ x2 ≤ (m : Int) := by omega
  have n0 : ¬ k = 0 := by omega
  have n1 : ¬ k = 1 := by omega
  have n10 : ¬ k = 10 := by omega
  have im : m < 2147483647 := by omega
  have inn : n < 2147483648 := by omega
  have e1 : EqI (wr (((n + 1 : Nat) : Int) - 1)) (n : Int) := wm1 inn
  have e0b : EqI (wr (0 + (b : Int))) (b : Int) := by rw [EqI, wr_s (by omega) (by omega)]; omega
  have wm' : EqI (wr ((m : Int) + 1)) ((m + 1 : Nat) : Int) := w1p im
  have k1 := h1 R x1 x2 v6 v7 n hE i1 i2
  rcases r1 with _ | x
  · exact k1
  obtain ⟨Ra, w6, w7, c1, c2, c3, c4⟩ := k1
  have hcd := rcode (R := Ra) (j := m) (k := k) (v := (b : Int)) (by rw [c2 64 (by decide), hh m i3, h3.e]) i4 i5
  have e16 : run 1 225 16 [.inr (some 53), .inl x1, .inl x2, .inl ((n + 1 : Nat) : Int), .inl 0, .inl (m : Int), w6, w7] [] Ra = run 1 225 135 [.inr (some 53), .inl x1, .inl x2, .inl ((n + 1 : Nat) : Int), .inl 0, .inl ((m + 1 : Nat) : Int), .inl k, .inl (b : Int)] [] Ra := by
    rw [B_225_16, if_neg b1, if_pos y0, if_pos y0, Int.toNat_natCast, hcd.1, hcd.2, if_neg n0, if_neg n1, if_neg n10, wm'.e]
    rcases hk with rfl | rfl
    · rw [if_pos rfl]
    · rw [if_neg (by decide), if_pos rfl]
  have e155 : ∀ s : Int, run 1 225 155 [.inr (some 53), .inl x1, .inl x2, .inl ((n + 1 : Nat) : Int), .inl 0, .inl ((m + 1 : Nat) : Int), .inl k, .inl (b : Int)] [.inl s, .inl x] Ra = if x = s then run 1 225 16 [.inr (some 53), .inl x1, .inl x2, .inl ((n + 1 : Nat) : Int), .inl 0, .inl (b : Int), .inl k, .inl (b : Int)] [] Ra else run 1 225 16 [.inr (some 53), .inl x1, .inl x2, .inl (n : Int), .inl 0, .inl ((m + 1 : Nat) : Int), .inl k, .inl (b : Int)] [] Ra := fun s => by
    rw [B_225_155, e0b.e, e1.e]
  have e135 : run 1 225 135 [.inr (some 53), .inl x1, .inl x2, .inl ((n + 1 : Nat) : Int), .inl 0, .inl ((m + 1 : Nat) : Int), .inl k, .inl (b : Int)] [] Ra = run 1 225 155 [.inr (some 53), .inl x1, .inl x2, .inl ((n + 1 : Nat) : Int), .inl 0, .inl ((m + 1 : Nat) : Int), .inl k, .inl (b : Int)] [.inl (if k = 12 then 1 else 0), .inl x] Ra := by
    rw [B_225_135, e1.e, if_pos y1, Int.toNat_natCast, c3]
    by_cases g : k = 12
    · rw [if_pos g, if_pos g]
    · rw [if_neg g, if_neg g]
  have stay : x = (if k = 12 then (1 : Int) else 0) → rRes R0 R n (run 1 225 16 [.inr (some 53), .inl x1, .inl x2, .inl (n : Int), .inl 0, .inl (a : Int), v6, v7] [] R) (fun u6 u7 R' => run 1 225 16 [.inr (some 53), .inl x1, .inl x2, .inl ((n + 1 : Nat) : Int), .inl 0, .inl (b : Int), u6, u7] [] R') (some x) := fun hx => by
    have e := e155 (if k = 12 then 1 else 0)
    rw [if_pos hx] at e
    exact ⟨Ra, _, _, c1.trans (e16.trans (e135.trans e)), c2, c3, c4⟩
  have goon : ¬ x = (if k = 12 then (1 : Int) else 0) → rRes R0 R n (run 1 225 16 [.inr (some 53), .inl x1, .inl x2, .inl (n : Int), .inl 0, .inl (a : Int), v6, v7] [] R) (fun u6 u7 R' => run 1 225 16 [.inr (some 53), .inl x1, .inl x2, .inl ((n + 1 : Nat) : Int), .inl 0, .inl (b : Int), u6, u7] [] R') r2 := fun hx => by
    have e := e155 (if k = 12 then 1 else 0)
    rw [if_neg hx] at e
    have k2 := h2 Ra x1 x2 (.inl k) (.inl (b : Int)) n c2 i6 hx2
    rcases r2 with _ | y
    · obtain ⟨Rb, d1, d2⟩ := k2
      exact ⟨Rb, c1.trans (e16.trans (e135.trans (e.trans d1))), d2⟩
    · obtain ⟨Rb, u6, u7, d1, d2, d3, d4⟩ := k2
      exact ⟨Rb, u6, u7, c1.trans (e16.trans (e135.trans (e.trans d1))), d2, d3, fun i hi => by rw [d4 i hi, c4 i hi]⟩
  clear h2
  rcases hr x rfl with rfl | rfl
  · rcases hk with rfl | rfl
    · exact stay rfl
    · have G := goon (by decide)
      clear goon
      rcases r2 with _ | y
      · exact G
      · exact G
  · rcases hk with rfl | rfl
    · have G := goon (by decide)
      clear goon
      rcases r2 with _ | y
      · exact G
      · exact G
    · exact stay rfl
/- every piece -/
set_option maxHeartbeats 400000 in
theorem evA (ht2 : isT t2) (hg : ∀ j, j < 480 → M0 52 j = g j) (hh : ∀ j, j < 260 → R0 64 j = h j) (hV : ∀ c, lt7 c → ∀ M, EF M0 M → fnA 9 [.inr (some 24), .inr (some t2), .inl c] M = some (some (.inl (VAL c)), M)) (hR : ∀ c, lt7 c → R0 70 (fcO c).toNat = VAL c) {k : Bool} {a' a b' b d : Nat} (hE : EV g h k a' a b' b d) : EVP M0 R0 t2 k a' a b' b d := by
  refine hE (EVP M0 R0 t2) ⟨?_, ?_, ?_, ?_, ?_, ?_⟩
  · intro a' a v v0 v1 e1 e2 e3
    exact ⟨by omega, by omega, Nat.le_refl _, fun hb hb2 => ⟨some v, fun z => (by cases z), cEV.num ht2 hg e1 e2 hb, rEV.num hh v0 v1 e3 hb2⟩⟩
  · intro a' a c hc e1 e2
    exact ⟨by omega, by omega, Nat.le_refl _, fun hb hb2 => ⟨some (VAL c), fun z => (by cases z), cEV.let ht2 hg hV hc e1 hb, rEV.let hh hR hc e2 hb2⟩⟩
  · intro a' a m' m b' b d e c hc i1 i2 e1 e2
    obtain ⟨p1, p2, p3, p4⟩ := i1
    obtain ⟨q1, q2, q3, q4⟩ := i2
    refine ⟨by omega, by omega, by omega, fun hb hb2 => ?_⟩
    obtain ⟨r1, -, r3, r4⟩ := p4 (by omega) (by omega)
    obtain ⟨s1, -, s3, s4⟩ := q4 (by omega) (by omega)
    have ho : op2 c := by unfold arO at hc; unfold op2; omega
    exact ⟨_, fun z => (by cases z), cEV.op ht2 hg ho r3 s3 (by omega) hb e1 p3 q3, rEV.op hh ho r4 s4 (by omega) hb2 e2 p3⟩
  · intro a' a m' m b' b d e c hc i1 i2 e1 e2
    obtain ⟨p1, p2, p3, p4⟩ := i1
    obtain ⟨q1, q2, q3, q4⟩ := i2
    refine ⟨by omega, by omega, by omega, fun hb hb2 => ?_⟩
    obtain ⟨r1, -, r3, r4⟩ := p4 (by omega) (by omega)
    obtain ⟨s1, -, s3, s4⟩ := q4 (by omega) (by omega)
    have ho : op2 c := by unfold op2; omega
    refine ⟨_, fun _ z hz => ?_, cEV.op ht2 hg ho r3 s3 (by omega) hb e1 p3 q3, rEV.op hh ho r4 s4 (by omega) hb2 e2 p3⟩
    rcases r1 with _ | x
    · cases hz
    · rcases s1 with _ | y
      · cases hz
      · have hz' : opV c x y = some z := hz
        rcases hc with rfl | rfl | rfl
        · have e : opV 60 x y = some (if x < y then 1 else 0) := rfl
          rw [e] at hz'
          injection hz' with hz'
          rw [← hz']; split <;> omega
        · have e : opV 62 x y = some (if y < x then 1 else 0) := rfl
          rw [e] at hz'
          injection hz' with hz'
          rw [← hz']; split <;> omega
        · have e : opV 61 x y = some (if x = y then 1 else 0) := rfl
          rw [e] at hz'
          injection hz' with hz'
          rw [← hz']; split <;> omega
  · intro a' a b' b d i1 e1 e2
    obtain ⟨p1, p2, p3, p4⟩ := i1
    refine ⟨by omega, by omega, p3, fun hb hb2 => ?_⟩
    obtain ⟨r1, r2, r3, r4⟩ := p4 (by omega) (by omega)
    refine ⟨_, fun _ z hz => ?_, cEV.nt ht2 hg r3 (r2 rfl) hb e1 p3, rEV.nt hh r4 (r2 rfl) hb2 e2⟩
    rcases r1 with _ | x
    · cases hz
    · have hz' : some (ntV x) = some z := hz
      injection hz' with hz'
      have := r2 rfl x rfl
      unfold ntV at hz'
      omega
  · intro a' a m' m b' b d e c k hc i1 i2 e1 e2 e3
    obtain ⟨p1, p2, p3, p4⟩ := i1
    obtain ⟨q1, q2, q3, q4⟩ := i2
    refine ⟨by omega, by omega, by omega, fun hb hb2 => ?_⟩
    obtain ⟨r1, r2, r3, r4⟩ := p4 (by omega) (by omega)
    obtain ⟨s1, s2, s3, s4⟩ := q4 (by omega) (by omega)
    refine ⟨_, fun _ z hz => ?_, cEV.jm ht2 hg hc r3 s3 (r2 rfl) (by omega) hb e1 e2 p3, rEV.jm hh (by omega) r4 s4 (r2 rfl) (by omega) hb2 e3⟩
    rcases r1 with _ | x
    · cases hz
    · have hz' : jmV k x s1 = some z := hz
      unfold jmV at hz'
      by_cases g1 : k = 11
      · rw [if_pos g1] at hz'
        by_cases g2 : x = 0
        · rw [if_pos g2] at hz'
          injection hz' with hz'
          exact Or.inl hz'.symm
        · rw [if_neg g2] at hz'; exact s2 rfl z hz'
      · rw [if_neg g1] at hz'
        by_cases g2 : x = 0
        · rw [if_pos g2] at hz'; exact s2 rfl z hz'
        · rw [if_neg g2] at hz'
          injection hz' with hz'
          exact Or.inr hz'.symm
/- what is asked and what comes -/
set_option maxHeartbeats 400000 in
theorem evR (ht2 : isT t2) (hg : ∀ j, j < 480 → M0 52 j = g j) (hh : ∀ j, j < 260 → R0 64 j = h j) (hV : ∀ c, lt7 c → ∀ M, EF M0 M → fnA 9 [.inr (some 24), .inr (some t2), .inl c] M = some (some (.inl (VAL c)), M)) (hR : ∀ c, lt7 c → R0 70 (fcO c).toNat = VAL c) {k : Bool} {a' a b' b d : Nat} (hE : EV g h k a' a b' b d) (hb : b' ≤ 480) (hb2 : b ≤ 260) (hd : d ≤ 32) : ∃ x : Int, (k = true → x = 0 ∨ x = 1) ∧ (∀ M, EF M0 M → ∃ M', fnA 5 [.inr (some 24), .inr (some 47), .inr (some t2), .inl (a' : Int), .inl (b' : Int)] M = some (some (.inl x), M') ∧ EF M0 M') ∧ ∀ R, RFv R0 R → ∃ R', fnA 225 [.inr (some 53), .inl (a : Int), .inl (b : Int)] R = some (some (.inl x), R') ∧ RFv R0 R' := by
  obtain ⟨p1, p2, p3, p4⟩ := evA ht2 hg hh hV hR hE
  obtain ⟨res, r2, r3, r4⟩ := p4 hb hb2
  have w0 : wr (260 * wr ((a : Int).tdiv 260)) = 0 := by
    rw [Int.tdiv_eq_ediv_of_nonneg (by omega), wr_s (z := (a : Int) / 260) (by omega) (by omega), wr_s (by omega) (by omega)]
    omega
  refine ⟨res.getD 0, fun hk => ?_, fun M hM => ?_, fun R hRR => ?_⟩
  · rcases res with _ | x
    · exact Or.inl rfl
    · exact r2 hk x rfl
  · have hM1 : EF M0 (upM (upM M 24 1 0) 24 2 0) := (hM.u1 (by decide)).u1 (by decide)
    have k1 := r3 (upM (upM M 24 1 0) 24 2 0) (a' : Int) (b' : Int) (.inr none) (.inr none) (.inr none) 0 hM1 up_s (by rw [up_j (by decide), up_s]; rfl) (by omega) (Int.le_refl _)
    rw [E_5 _ _ _ _ _ isW47 ht2]
    rcases res with _ | x
    · exact k1
    · obtain ⟨M', u6, u7, u8, c1, c2, c3, c4, c5, c6⟩ := k1
      refine ⟨M', c1.trans ?_, c2⟩
      rw [B_5_13 _ _ _ _ _ _ _ _ _ isW47 ht2, if_pos (Int.le_refl _), B_5_184 _ _ _ _ _ _ _ _ _ isW47 ht2, c3, if_pos rfl, s7 (n := 0) c4 (by decide), bI_s, c5]
      rfl
  · have k1 := r4 R (a : Int) (b : Int) (.inr none) (.inr none) 0 hRR (by omega) (Int.le_refl _)
    rw [E_225, w0]
    rcases res with _ | x
    · exact k1
    · obtain ⟨R', u6, u7, c1, c2, c3, c4⟩ := k1
      refine ⟨R', c1.trans ?_, c2⟩
      rw [B_225_16, if_pos (Int.le_refl _), c3]
      rfl
end EV2
