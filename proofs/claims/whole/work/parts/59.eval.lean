/-! A piece of code comes to the same in the class and in the reference. -/
section EVL
def pu (M : aM) (n : Nat) (x : Int) : aM := upM (upM M 25 n x) 24 1 ((n + 1 : Nat) : Int)
set_option maxHeartbeats 400000 in
theorem s6 {M : aM} {n : Nat} (h : M 24 1 = (n : Int)) (hn : n < 32) (x : Int) : fnA 6 [.inr (some 24), .inl x] M = some (none, pu M n x) := by
  rw [E_6, h, if_neg (by omega), if_pos (by omega), Int.toNat_natCast, up_o (by decide), h, w1p (by omega)]
  rfl
set_option maxHeartbeats 400000 in
theorem s7 {M : aM} {n : Nat} (h : M 24 1 = ((n + 1 : Nat) : Int)) (hn : n < 32) : fnA 7 [.inr (some 24)] M = some (some (.inl (M 25 n)), M) := by
  rw [E_7, h, if_neg (by omega), wm1 (by omega), if_pos (by omega), Int.toNat_natCast]
set_option maxHeartbeats 400000 in
theorem s8 {M : aM} {n : Nat} (h : M 24 1 = ((n + 1 : Nat) : Int)) (hn : n < 32) : fnA 8 [.inr (some 24)] M = some (some (.inl (M 25 n)), upM M 24 1 (n : Int)) := by
  rw [E_8, s7 h hn, bI_s, h, if_neg (by omega), wm1 (by omega)]
/- all but the asker's stack -/
def EF (M M' : aM) : Prop := (∀ q, q ≠ 24 → q ≠ 25 → M' q = M q) ∧ ∀ j, 3 ≤ j → M' 24 j = M 24 j
set_option maxHeartbeats 400000 in
theorem EF.rf {M : aM} : EF M M := ⟨fun _ _ _ => rfl, fun _ _ => rfl⟩
set_option maxHeartbeats 400000 in
theorem EF.u1 {M M1 : aM} (h : EF M M1) {j : Nat} {x : Int} (hj : j < 3) : EF M (upM M1 24 j x) := ⟨fun q a b => by rw [up_ne a]; exact h.1 q a b, fun i hi => by rw [up_j (by omega)]; exact h.2 i hi⟩
set_option maxHeartbeats 400000 in
theorem EF.u5 {M M1 : aM} (h : EF M M1) {j : Nat} {x : Int} : EF M (upM M1 25 j x) := ⟨fun q a b => by rw [up_ne b]; exact h.1 q a b, fun i hi => by rw [up_o (by decide)]; exact h.2 i hi⟩
set_option maxHeartbeats 400000 in
theorem EF.pu {M M1 : aM} (h : EF M M1) {n : Nat} {x : Int} : EF M (pu M1 n x) := h.u5.u1 (by decide)
def RFv (R R' : aM) : Prop := ∀ q, q ≠ 69 → R' q = R q
set_option maxHeartbeats 400000 in
theorem pu_1 (M : aM) (n : Nat) (x : Int) : pu M n x 24 1 = ((n + 1 : Nat) : Int) := up_s
set_option maxHeartbeats 400000 in
theorem pu_2 (M : aM) (n : Nat) (x : Int) : pu M n x 24 2 = M 24 2 := by unfold pu; rw [up_j (by decide), up_o (by decide)]
set_option maxHeartbeats 400000 in
theorem pu_s (M : aM) (n : Nat) (x : Int) : pu M n x 25 n = x := by unfold pu; rw [up_o (by decide), up_s]
set_option maxHeartbeats 400000 in
theorem pu_o (M : aM) {n i : Nat} (x : Int) (h : i ≠ n) : pu M n x 25 i = M 25 i := by unfold pu; rw [up_o (by decide), up_j h]
variable {M0 R0 : aM} {t2 : Nat} {VAL : Int → Int} {g h : Nat → Int}
def cEV (M0 : aM) (t2 a' b' d : Nat) (res : Option Int) : Prop := ∀ (M : aM) (x3 x4 : Int) (v6 v7 v8 : aV) (n : Nat), EF M0 M → M 24 2 = 0 → M 24 1 = (n : Int) → n + d ≤ 32 → (b' : Int) ≤ x4 → match res with
  | none => ∃ M', run 3 5 13 [.inr (some 24), .inr (some 47), .inr (some t2), .inl x3, .inl x4, .inl (a' : Int), v6, v7, v8] [] M = some (some (.inl 0), M') ∧ EF M0 M'
  | some x => ∃ M' w6 w7 w8, run 3 5 13 [.inr (some 24), .inr (some 47), .inr (some t2), .inl x3, .inl x4, .inl (a' : Int), v6, v7, v8] [] M = run 3 5 13 [.inr (some 24), .inr (some 47), .inr (some t2), .inl x3, .inl x4, .inl (b' : Int), w6, w7, w8] [] M' ∧ EF M0 M' ∧ M' 24 2 = 0 ∧ M' 24 1 = ((n + 1 : Nat) : Int) ∧ M' 25 n = x ∧ ∀ i, i < n → M' 25 i = M 25 i
def rEV (R0 : aM) (a b d : Nat) (res : Option Int) : Prop := ∀ (R : aM) (x1 x2 : Int) (v6 v7 : aV) (n : Nat), RFv R0 R → n + d ≤ 250 → (b : Int) ≤ x2 → match res with
  | none => ∃ R', run 1 225 16 [.inr (some 53), .inl x1, .inl x2, .inl (n : Int), .inl 0, .inl (a : Int), v6, v7] [] R = some (some (.inl 0), R') ∧ RFv R0 R'
  | some x => ∃ R' w6 w7, run 1 225 16 [.inr (some 53), .inl x1, .inl x2, .inl (n : Int), .inl 0, .inl (a : Int), v6, v7] [] R = run 1 225 16 [.inr (some 53), .inl x1, .inl x2, .inl ((n + 1 : Nat) : Int), .inl 0, .inl (b : Int), w6, w7] [] R' ∧ RFv R0 R' ∧ R' 69 n = x ∧ ∀ i, i < n → R' 69 i = R 69 i
def EVP (M0 R0 : aM) (t2 : Nat) (k : Bool) (a' a b' b d : Nat) : Prop := a' < b' ∧ a < b ∧ 1 ≤ d ∧ (b' ≤ 480 → b ≤ 260 → ∃ res : Option Int, (k = true → ∀ x, res = some x → x = 0 ∨ x = 1) ∧ cEV M0 t2 a' b' d res ∧ rEV R0 a b d res)
set_option maxHeartbeats 400000 in
theorem isW47 : isW 47 := Or.inr rfl
set_option maxHeartbeats 400000 in
theorem s49 {M : aM} {j : Nat} (hj : j < 480) : fnA 49 [.inr (some 47), .inl (j : Int)] M = some (some (.inl (M 52 j)), M) := by
  rw [E_49 _ _ _ isW47, if_neg (by omega), if_neg (by omega), if_pos (by omega), Int.toNat_natCast]
set_option maxHeartbeats 400000 in
theorem cstep (ht2 : isT t2) (hg : ∀ j, j < 480 → M0 52 j = g j) {M : aM} {x3 x4 : Int} {v6 v7 v8 : aV} {j : Nat} (hE : EF M0 M) (h2 : M 24 2 = 0) (hj : j < 480) (hx : (j : Int) < x4) : run 3 5 13 [.inr (some 24), .inr (some 47), .inr (some t2), .inl x3, .inl x4, .inl (j : Int), v6, v7, v8] [] M = if g j = 48 then bI (fnA 49 [.inr (some 47), .inl ((j + 1 : Nat) : Int)] M) fun w4 M4 => bV (fnA 6 [.inr (some 24), .inl w4] M4) fun M5 => run 3 5 13 [.inr (some 24), .inr (some 47), .inr (some t2), .inl x3, .inl x4, .inl ((j + 2 : Nat) : Int), .inl (g j), v7, v8] [] M5 else if g j = 38 then run 3 5 75 [.inr (some 24), .inr (some 47), .inr (some t2), .inl x3, .inl x4, .inl ((j + 1 : Nat) : Int), .inl (g j), v7, v8] [] M else if g j = 124 then run 3 5 75 [.inr (some 24), .inr (some 47), .inr (some t2), .inl x3, .inl x4, .inl ((j + 1 : Nat) : Int), .inl (g j), v7, v8] [] M else if g j < 97 then run 3 5 175 [.inr (some 24), .inr (some 47), .inr (some t2), .inl x3, .inl x4, .inl ((j + 1 : Nat) : Int), .inl (g j), v7, v8] [] M else if 122 < g j then run 3 5 175 [.inr (some 24), .inr (some 47), .inr (some t2), .inl x3, .inl x4, .inl ((j + 1 : Nat) : Int), .inl (g j), v7, v8] [] M else bI (fnA 9 [.inr (some 24), .inr (some t2), .inl (g j)] M) fun w2 M2 => bV (fnA 6 [.inr (some 24), .inl w2] M2) fun M3 => run 3 5 13 [.inr (some 24), .inr (some 47), .inr (some t2), .inl x3, .inl x4, .inl ((j + 1 : Nat) : Int), .inl (g j), v7, v8] [] M3 := by
  have e : M 52 j = g j := by rw [hE.1 52 (by decide) (by decide)]; exact hg j hj
  rw [B_5_13 _ _ _ _ _ _ _ _ _ isW47 ht2, if_neg (by omega), if_pos h2, s49 hj, bI_s, e, w1p (by omega), w1p (a := j + 1) (by omega)]
/- two numbers and a sign -/
def opV (c x y : Int) : Option Int := if c = 43 then some (wr (x + y)) else if c = 45 then some (wr (x - y)) else if c = 42 then some (wr (x * y)) else if c = 47 then (if y = 0 then none else some (wr (x.tdiv y))) else if c = 37 then (if y = 0 then none else some (x.tmod y)) else if c = 60 then some (if x < y then 1 else 0) else if c = 62 then some (if y < x then 1 else 0) else some (if x = y then 1 else 0)
def op2 (c : Int) : Prop := c = 43 ∨ c = 45 ∨ c = 42 ∨ c = 47 ∨ c = 37 ∨ c = 60 ∨ c = 62 ∨ c = 61
set_option maxHeartbeats 400000 in
theorem s10 {M : aM} {n : Nat} {c x y : Int} (hc : op2 c) (h1 : M 24 1 = ((n + 2 : Nat) : Int)) (hn : n + 2 ≤ 32) (hx : M 25 n = x) (hy : M 25 (n + 1) = y) : match opV c x y with
    | none => fnA 10 [.inr (some 24), .inl c] M = some (none, upM (upM (upM M 24 1 ((n + 1 : Nat) : Int)) 24 1 (n : Int)) 24 2 1)
    | some z => fnA 10 [.inr (some 24), .inl c] M = some (none, pu (upM (upM M 24 1 ((n + 1 : Nat) : Int)) 24 1 (n : Int)) n z) := by
  have p1 : fnA 8 [.inr (some 24)] M = some (some (.inl y), upM M 24 1 ((n + 1 : Nat) : Int)) := by rw [s8 (n := n + 1) h1 (by omega), hy]
  have p2 : fnA 8 [.inr (some 24)] (upM M 24 1 ((n + 1 : Nat) : Int)) = some (some (.inl x), upM (upM M 24 1 ((n + 1 : Nat) : Int)) 24 1 (n : Int)) := by rw [s8 (n := n) up_s (by omega), up_o (by decide), hx]
  have p6 : ∀ z, fnA 6 [.inr (some 24), .inl z] (upM (upM M 24 1 ((n + 1 : Nat) : Int)) 24 1 (n : Int)) = some (none, pu (upM (upM M 24 1 ((n + 1 : Nat) : Int)) 24 1 (n : Int)) n z) := fun z => s6 up_s (by omega) z
  rcases hc with rfl | rfl | rfl | rfl | rfl | rfl | rfl | rfl
  · show fnA 10 _ M = _
    rw [E_10, p1, bI_s, if_neg (by decide), p2, bI_s, if_neg (by decide), if_pos rfl, p6, bV_s]
  · show fnA 10 _ M = _
    rw [E_10, p1, bI_s, if_neg (by decide), p2, bI_s, if_neg (by decide), if_neg (by decide), if_pos rfl, p6, bV_s]
  · show fnA 10 _ M = _
    rw [E_10, p1, bI_s, if_neg (by decide), p2, bI_s, if_pos rfl, p6, bV_s]
  · have e : opV 47 x y = if y = 0 then none else some (wr (x.tdiv y)) := rfl
    have e10 : fnA 10 [.inr (some 24), .inl 47] M = bV (fnA 11 [.inr (some 24), .inl 47, .inl x, .inl y] (upM (upM M 24 1 ((n + 1 : Nat) : Int)) 24 1 (n : Int))) fun M3 => some (none, M3) := by
      rw [E_10, p1, bI_s, if_neg (by decide), p2, bI_s, if_neg (by decide), if_neg (by decide), if_neg (by decide), if_neg (by decide), if_neg (by decide), if_neg (by decide)]
    rw [e]
    by_cases g : y = 0
    · rw [if_pos g]
      show fnA 10 _ M = _
      rw [e10, E_11, if_pos g, bV_s]
    · rw [if_neg g]
      show fnA 10 _ M = _
      rw [e10, E_11, if_neg g, if_pos rfl, if_neg g, p6, bV_s, bV_s]
  · have e : opV 37 x y = if y = 0 then none else some (x.tmod y) := rfl
    have e10 : fnA 10 [.inr (some 24), .inl 37] M = bV (fnA 11 [.inr (some 24), .inl 37, .inl x, .inl y] (upM (upM M 24 1 ((n + 1 : Nat) : Int)) 24 1 (n : Int))) fun M3 => some (none, M3) := by
      rw [E_10, p1, bI_s, if_neg (by decide), p2, bI_s, if_neg (by decide), if_neg (by decide), if_neg (by decide), if_neg (by decide), if_neg (by decide), if_neg (by decide)]
    rw [e]
    by_cases g : y = 0
    · rw [if_pos g]
      show fnA 10 _ M = _
      rw [e10, E_11, if_pos g, bV_s]
    · rw [if_neg g]
      show fnA 10 _ M = _
      rw [e10, E_11, if_neg g, if_neg (by decide), if_neg g, p6, bV_s, bV_s]
  · show fnA 10 _ M = some (none, pu _ n (if x < y then 1 else 0))
    rw [E_10, p1, bI_s, if_neg (by decide), p2, bI_s, if_neg (by decide), if_neg (by decide), if_neg (by decide), if_pos rfl]
    by_cases g : y ≤ x
    · rw [if_pos g, if_neg (by omega), p6, bV_s]
    · rw [if_neg g, if_pos (by omega), p6, bV_s]
  · show fnA 10 _ M = some (none, pu _ n (if y < x then 1 else 0))
    rw [E_10, p1, bI_s, if_neg (by decide), p2, bI_s, if_neg (by decide), if_neg (by decide), if_neg (by decide), if_neg (by decide), if_neg (by decide), if_pos rfl]
    by_cases g : x ≤ y
    · rw [if_pos g, if_neg (by omega), p6, bV_s]
    · rw [if_neg g, if_pos (by omega), p6, bV_s]
  · show fnA 10 _ M = some (none, pu _ n (if x = y then 1 else 0))
    rw [E_10, p1, bI_s, if_neg (by decide), p2, bI_s, if_neg (by decide), if_neg (by decide), if_neg (by decide), if_neg (by decide), if_pos rfl]
    by_cases g : x = y
    · rw [if_pos g, if_pos g, p6, bV_s]
    · rw [if_neg g, if_neg g, p6, bV_s]
/- refused: nothing more is asked -/
set_option maxHeartbeats 400000 in
theorem crefd (ht2 : isT t2) {M : aM} {x3 x4 x5 : Int} {v6 v7 v8 : aV} (h2 : M 24 2 = 1) : run 3 5 13 [.inr (some 24), .inr (some 47), .inr (some t2), .inl x3, .inl x4, .inl x5, v6, v7, v8] [] M = some (some (.inl 0), M) := by
  have e : run 3 5 184 [.inr (some 24), .inr (some 47), .inr (some t2), .inl x3, .inl x4, .inl x5, v6, v7, v8] [] M = some (some (.inl 0), M) := by
    rw [B_5_184 _ _ _ _ _ _ _ _ _ isW47 ht2, h2, if_neg (by decide)]
  rw [B_5_13 _ _ _ _ _ _ _ _ _ isW47 ht2]
  by_cases g : x4 ≤ x5
  · rw [if_pos g, e]
  · rw [if_neg g, h2, if_neg (by decide), e]
set_option maxHeartbeats 400000 in
theorem cEV.op (ht2 : isT t2) (hg : ∀ j, j < 480 → M0 52 j = g j) {a' m' b' d e : Nat} {c : Int} {r1 r2 : Option Int} (hc : op2 c) (h1 : cEV M0 t2 a' m' d r1) (h2 : cEV M0 t2 m' b' e r2) (hm : m' ≤ b') (hb : b' + 1 ≤ 480) (h3 : g b' = c) (hd : 1 ≤ d) (he : 1 ≤ e) : cEV M0 t2 a' (b' + 1) (max d (e + 1)) (r1.bind fun x => r2.bind fun y => opV c x y) := by
  intro M x3 x4 v6 v7 v8 n hE hM2 hM1 hn hx4
  have k1 := h1 M x3 x4 v6 v7 v8 n hE hM2 hM1 (by omega) (by omega)
  rcases r1 with _ | x
  · exact k1
  obtain ⟨Ma, w6, w7, w8, c1, c2, c3, c4, c5, c6⟩ := k1
  have k2 := h2 Ma x3 x4 w6 w7 w8 (n + 1) c2 c3 c4 (by omega) (by omega)
  rcases r2 with _ | y
  · obtain ⟨Mb, d1, d2⟩ := k2
    exact ⟨Mb, c1.trans d1, d2⟩
  obtain ⟨Mb, u6, u7, u8, d1, d2, d3, d4, d5, d6⟩ := k2
  have n1 : ¬ c = 48 ∧ ¬ c = 38 ∧ ¬ c = 124 ∧ c < 97 := by unfold op2 at hc; omega
  have hst := cstep ht2 hg (x3 := x3) (v6 := u6) (v7 := u7) (v8 := u8) d2 d3 (j := b') (by omega) (by omega : (b' : Int) < x4)
  rw [h3, if_neg n1.1, if_neg n1.2.1, if_neg n1.2.2.1, if_pos n1.2.2.2, B_5_175 _ _ _ _ _ _ _ _ _ isW47 ht2] at hst
  have hxx : Mb 25 n = x := by rw [d6 n (by omega)]; exact c5
  have h10 := s10 (x := x) (y := y) hc d4 (by omega) hxx d5
  have hF : EF M0 (upM (upM Mb 24 1 ((n + 1 : Nat) : Int)) 24 1 (n : Int)) := (d2.u1 (by decide)).u1 (by decide)
  show match opV c x y with | none => _ | some z => _
  cases eo : opV c x y with
  | none =>
    rw [eo] at h10
    have h10' : fnA 10 [.inr (some 24), .inl c] Mb = some (none, upM (upM (upM Mb 24 1 ((n + 1 : Nat) : Int)) 24 1 (n : Int)) 24 2 1) := h10
    rw [h10', bV_s, crefd ht2 up_s] at hst
    exact ⟨_, c1.trans (d1.trans hst), hF.u1 (by decide)⟩
  | some z =>
    rw [eo] at h10
    have h10' : fnA 10 [.inr (some 24), .inl c] Mb = some (none, pu (upM (upM Mb 24 1 ((n + 1 : Nat) : Int)) 24 1 (n : Int)) n z) := h10
    rw [h10', bV_s] at hst
    refine ⟨_, _, _, _, c1.trans (d1.trans hst), hF.pu, ?_, pu_1 _ _ _, pu_s _ _ _, fun i hi => ?_⟩
    · rw [pu_2, up_j (by decide), up_j (by decide)]; exact d3
    · rw [pu_o _ _ (by omega), up_o (by decide), up_o (by decide), d6 i (by omega), c6 i hi]
set_option maxHeartbeats 400000 in
theorem rcode {R : aM} {j : Nat} {k v : Int} (h : R 64 j = 1048576 * k + v) (hk : 0 ≤ k ∧ k ≤ 20) (hv : 0 ≤ v ∧ v < 1000000) : wr ((R 64 j).tdiv 1048576) = k ∧ (R 64 j).tmod 1048576 = v := by
  rw [h, Int.tdiv_eq_ediv_of_nonneg (by omega), Int.tmod_eq_emod_of_nonneg (by omega)]
  refine ⟨?_, by omega⟩
  rw [show (1048576 * k + v) / 1048576 = k by omega, wr_s (by omega) (by omega)]
set_option maxHeartbeats 400000 in
theorem rEV.op (hh : ∀ j, j < 260 → R0 64 j = h j) {a m b d e : Nat} {c : Int} {r1 r2 : Option Int} (hc : op2 c) (h1 : rEV R0 a m d r1) (h2 : rEV R0 m b e r2) (hm : m ≤ b) (hb : b + 1 ≤ 260) (h3 : h b = 1048576 * opO c) (hd : 1 ≤ d) : rEV R0 a (b + 1) (max d (e + 1)) (r1.bind fun x => r2.bind fun y => opV c x y) := by
  intro R x1 x2 v6 v7 n hE hn hx2
  have k1 := h1 R x1 x2 v6 v7 n hE (by omega) (by omega)
  rcases r1 with _ | x
  · exact k1
  obtain ⟨Ra, w6, w7, c1, c2, c3, c4⟩ := k1
  have k2 := h2 Ra x1 x2 w6 w7 (n + 1) c2 (by omega) (by omega)
  rcases r2 with _ | y
  · obtain ⟨Rb, d1, d2⟩ := k2
    exact ⟨Rb, c1.trans d1, d2⟩
  obtain ⟨Rb, u6, u7, d1, d2, d3, d4⟩ := k2
  have hop : 2 ≤ opO c ∧ opO c ≤ 9 := by
    rcases hc with rfl | rfl | rfl | rfl | rfl | rfl | rfl | rfl <;> decide
  have hcd := rcode (R := Rb) (j := b) (k := opO c) (v := 0) (by rw [d2 64 (by decide), hh b (by omega), h3]; omega) (by omega) (by decide)
  have e1 : wr (((n + 1 + 1 : Nat) : Int) - 1) = ((n + 1 : Nat) : Int) := wm1 (by omega)
  have e2 : wr (((n + 1 : Nat) : Int) - 1) = (n : Int) := wm1 (by omega)
  have y0 : 0 ≤ (b : Int) ∧ (b : Int) < 260 := by omega
  have y1 : 0 ≤ ((n + 1 : Nat) : Int) ∧ ((n + 1 : Nat) : Int) < 260 := by omega
  have y2 : 0 ≤ (n : Int) ∧ (n : Int) < 260 := by omega
  have hxx : Rb 69 n = x := by rw [d4 n (by omega)]; exact c3
  have eb : run 1 225 16 [.inr (some 53), .inl x1, .inl x2, .inl ((n + 1 + 1 : Nat) : Int), .inl 0, .inl (b : Int), u6, u7] [] Rb = if opO c = 5 then run 1 225 192 [.inr (some 53), .inl x1, .inl x2, .inl ((n + 1 : Nat) : Int), .inl 0, .inl ((b + 1 : Nat) : Int), .inl (opO c), .inl 0] [] Rb else if opO c = 6 then run 1 225 192 [.inr (some 53), .inl x1, .inl x2, .inl ((n + 1 : Nat) : Int), .inl 0, .inl ((b + 1 : Nat) : Int), .inl (opO c), .inl 0] [] Rb else run 1 225 203 [.inr (some 53), .inl x1, .inl x2, .inl ((n + 1 : Nat) : Int), .inl 0, .inl ((b + 1 : Nat) : Int), .inl (opO c), .inl 0] [] Rb := by
    rw [B_225_16, if_neg (by omega), if_pos y0, if_pos y0, Int.toNat_natCast, hcd.1, hcd.2, if_neg (by omega), if_neg (by omega), if_neg (by omega), if_neg (by omega), if_neg (by omega), w1p (by omega), e1]
  have e203 : run 1 225 203 [.inr (some 53), .inl x1, .inl x2, .inl ((n + 1 : Nat) : Int), .inl 0, .inl ((b + 1 : Nat) : Int), .inl (opO c), .inl 0] [] Rb = bI (fnA 224 [.inl (opO c), .inl x, .inl y] Rb) fun w1 M1 => if 0 ≤ (n : Int) ∧ (n : Int) < 260 then run 1 225 16 [.inr (some 53), .inl x1, .inl x2, .inl ((n + 1 : Nat) : Int), .inl 0, .inl ((b + 1 : Nat) : Int), .inl (opO c), .inl 0] [] (upM M1 69 n w1) else none := by
    rw [B_225_203, e2, if_pos y2, if_pos y1, Int.toNat_natCast, Int.toNat_natCast, hxx, d3]
  have fin : ∀ z, fnA 224 [.inl (opO c), .inl x, .inl y] Rb = some (some (.inl z), Rb) → ∃ R' w6 w7, run 1 225 203 [.inr (some 53), .inl x1, .inl x2, .inl ((n + 1 : Nat) : Int), .inl 0, .inl ((b + 1 : Nat) : Int), .inl (opO c), .inl 0] [] Rb = run 1 225 16 [.inr (some 53), .inl x1, .inl x2, .inl ((n + 1 : Nat) : Int), .inl 0, .inl ((b + 1 : Nat) : Int), w6, w7] [] R' ∧ RFv R0 R' ∧ R' 69 n = z ∧ ∀ i, i < n → R' 69 i = R 69 i := fun z hz => by
    refine ⟨upM Rb 69 n z, .inl (opO c), .inl 0, ?_, fun q hq => by rw [up_ne hq]; exact d2 q hq, up_s, fun i hi => by rw [up_j (by omega), d4 i (by omega), c4 i hi]⟩
    rw [e203, hz, bI_s, if_pos y2]
  have e192 : run 1 225 192 [.inr (some 53), .inl x1, .inl x2, .inl ((n + 1 : Nat) : Int), .inl 0, .inl ((b + 1 : Nat) : Int), .inl (opO c), .inl 0] [] Rb = if y = 0 then some (some (.inl 0), Rb) else run 1 225 203 [.inr (some 53), .inl x1, .inl x2, .inl ((n + 1 : Nat) : Int), .inl 0, .inl ((b + 1 : Nat) : Int), .inl (opO c), .inl 0] [] Rb := by
    rw [B_225_192, if_pos y1, Int.toNat_natCast, d3]
  show match opV c x y with | none => _ | some z => _
  rcases hc with rfl | rfl | rfl | rfl | rfl | rfl | rfl | rfl
  · obtain ⟨R', w6', w7', f1, f2⟩ := fin (wr (x + y)) (by rw [E_224, if_pos (show opO 43 = 2 by decide)])
    rw [if_neg (by decide), if_neg (by decide)] at eb
    exact ⟨R', w6', w7', c1.trans (d1.trans (eb.trans f1)), f2⟩
  · obtain ⟨R', w6', w7', f1, f2⟩ := fin (wr (x - y)) (by rw [E_224, if_neg (show ¬ opO 45 = 2 by decide), if_pos (show opO 45 = 3 by decide)])
    rw [if_neg (by decide), if_neg (by decide)] at eb
    exact ⟨R', w6', w7', c1.trans (d1.trans (eb.trans f1)), f2⟩
  · obtain ⟨R', w6', w7', f1, f2⟩ := fin (wr (x * y)) (by rw [E_224, if_neg (show ¬ opO 42 = 2 by decide), if_neg (show ¬ opO 42 = 3 by decide), if_pos (show opO 42 = 4 by decide)])
    rw [if_neg (by decide), if_neg (by decide)] at eb
    exact ⟨R', w6', w7', c1.trans (d1.trans (eb.trans f1)), f2⟩
  · have e : opV 47 x y = if y = 0 then none else some (wr (x.tdiv y)) := rfl
    rw [if_pos (by decide), e192] at eb
    rw [e]
    by_cases g : y = 0
    · rw [if_pos g] at eb
      rw [if_pos g]
      exact ⟨Rb, c1.trans (d1.trans eb), d2⟩
    · rw [if_neg g] at eb
      rw [if_neg g]
      obtain ⟨R', w6', w7', f1, f2⟩ := fin (wr (x.tdiv y)) (by rw [E_224, if_neg (show ¬ opO 47 = 2 by decide), if_neg (show ¬ opO 47 = 3 by decide), if_neg (show ¬ opO 47 = 4 by decide), if_pos (show opO 47 = 5 by decide), if_neg g])
      exact ⟨R', w6', w7', c1.trans (d1.trans (eb.trans f1)), f2⟩
  · have e : opV 37 x y = if y = 0 then none else some (x.tmod y) := rfl
    rw [if_neg (by decide), if_pos (by decide), e192] at eb
    rw [e]
    by_cases g : y = 0
    · rw [if_pos g] at eb
      rw [if_pos g]
      exact ⟨Rb, c1.trans (d1.trans eb), d2⟩
    · rw [if_neg g] at eb
      rw [if_neg g]
      obtain ⟨R', w6', w7', f1, f2⟩ := fin (x.tmod y) (by rw [E_224, if_neg (show ¬ opO 37 = 2 by decide), if_neg (show ¬ opO 37 = 3 by decide), if_neg (show ¬ opO 37 = 4 by decide), if_neg (show ¬ opO 37 = 5 by decide), if_pos (show opO 37 = 6 by decide), if_neg g])
      exact ⟨R', w6', w7', c1.trans (d1.trans (eb.trans f1)), f2⟩
  · obtain ⟨R', w6', w7', f1, f2⟩ := fin (if x < y then 1 else 0) (by
      rw [E_224, if_neg (show ¬ opO 60 = 2 by decide), if_neg (show ¬ opO 60 = 3 by decide), if_neg (show ¬ opO 60 = 4 by decide), if_neg (show ¬ opO 60 = 5 by decide), if_neg (show ¬ opO 60 = 6 by decide), if_pos (show opO 60 = 7 by decide)]
      by_cases g : y ≤ x
      · rw [if_pos g, if_neg (by omega)]
      · rw [if_neg g, if_pos (by omega)])
    rw [if_neg (by decide), if_neg (by decide)] at eb
    exact ⟨R', w6', w7', c1.trans (d1.trans (eb.trans f1)), f2⟩
  · obtain ⟨R', w6', w7', f1, f2⟩ := fin (if y < x then 1 else 0) (by
      rw [E_224, if_neg (show ¬ opO 62 = 2 by decide), if_neg (show ¬ opO 62 = 3 by decide), if_neg (show ¬ opO 62 = 4 by decide), if_neg (show ¬ opO 62 = 5 by decide), if_neg (show ¬ opO 62 = 6 by decide), if_neg (show ¬ opO 62 = 7 by decide), if_pos (show opO 62 = 8 by decide)]
      by_cases g : x ≤ y
      · rw [if_pos g, if_neg (by omega)]
      · rw [if_neg g, if_pos (by omega)])
    rw [if_neg (by decide), if_neg (by decide)] at eb
    exact ⟨R', w6', w7', c1.trans (d1.trans (eb.trans f1)), f2⟩
  · obtain ⟨R', w6', w7', f1, f2⟩ := fin (if x = y then 1 else 0) (by
      rw [E_224, if_neg (show ¬ opO 61 = 2 by decide), if_neg (show ¬ opO 61 = 3 by decide), if_neg (show ¬ opO 61 = 4 by decide), if_neg (show ¬ opO 61 = 5 by decide), if_neg (show ¬ opO 61 = 6 by decide), if_neg (show ¬ opO 61 = 7 by decide), if_neg (show ¬ opO 61 = 8 by decide)]
      by_cases g : x = y
      · rw [if_pos g, if_pos g]
      · rw [if_neg g, if_neg g])
    rw [if_neg (by decide), if_neg (by decide)] at eb
    exact ⟨R', w6', w7', c1.trans (d1.trans (eb.trans f1)), f2⟩
end EVL
