/-! shortest: both put the two least together, again and again; what lies there is counted, in whatever order. -/
section SHO
def eq1 (a b : Int) : Nat := if a = b then 1 else 0
/-- how often v is among the first n -/
def mc (w : Nat → Int) : Nat → Int → Nat
  | 0, _ => 0
  | n + 1, v => mc w n v + eq1 (w n) v
set_option maxHeartbeats 400000 in
theorem mc_s (w : Nat → Int) (n : Nat) (v : Int) : mc w (n + 1) v = mc w n v + eq1 (w n) v := rfl
set_option maxHeartbeats 400000 in
theorem eq1_s (a : Int) : eq1 a a = 1 := by unfold eq1; rw [if_pos rfl]
set_option maxHeartbeats 400000 in
theorem eq1_n {a b : Int} (h : a ≠ b) : eq1 a b = 0 := by unfold eq1; rw [if_neg h]
set_option maxHeartbeats 400000 in
theorem mc_c {w u : Nat → Int} {v : Int} : ∀ {n : Nat}, (∀ i, i < n → w i = u i) → mc w n v = mc u n v
  | 0, _ => rfl
  | n + 1, h => by rw [mc_s, mc_s, mc_c (n := n) (fun i hi => h i (by omega)), h n (by omega)]
set_option maxHeartbeats 400000 in
theorem mc_up {w u : Nat → Int} {j : Nat} (v : Int) (ho : ∀ i, i ≠ j → u i = w i) : ∀ {n : Nat}, j < n → mc u n v + eq1 (w j) v = mc w n v + eq1 (u j) v
  | 0, h => absurd h (by omega)
  | n + 1, h => by
    rw [mc_s, mc_s]
    by_cases e : n = j
    · subst e
      have := mc_c (w := u) (u := w) (v := v) (n := n) (fun i hi => ho i (by omega))
      omega
    · have := mc_up v ho (n := n) (by omega)
      rw [ho n e]
      omega
set_option maxHeartbeats 400000 in
theorem mc_pos {w : Nat → Int} {j : Nat} : ∀ {n : Nat}, j < n → 0 < mc w n (w j)
  | 0, h => absurd h (by omega)
  | n + 1, h => by
    rw [mc_s]
    by_cases e : n = j
    · subst e; rw [eq1_s]; omega
    · have := mc_pos (w := w) (n := n) (j := j) (by omega); omega
set_option maxHeartbeats 400000 in
theorem mc_0 {w : Nat → Int} {v : Int} : ∀ {n : Nat}, (∀ i, i < n → w i ≠ v) → mc w n v = 0
  | 0, _ => rfl
  | n + 1, h => by rw [mc_s, mc_0 (n := n) (fun i hi => h i (by omega)), eq1_n (h n (by omega))]
def mnc (c : Int → Nat) (m : Int) : Prop := 0 < c m ∧ ∀ v, v < m → c v = 0
set_option maxHeartbeats 400000 in
theorem mnc_1 {c : Int → Nat} {a b : Int} (ha : mnc c a) (hb : mnc c b) : a = b := by
  by_cases h : a < b
  · have := hb.2 a h; have := ha.1; omega
  · by_cases h2 : b < a
    · have := ha.2 b h2; have := hb.1; omega
    · omega
set_option maxHeartbeats 400000 in
theorem mnc_of {w : Nat → Int} {n j : Nat} (hj : j < n) (h : ∀ i, i < n → w j ≤ w i) : mnc (mc w n) (w j) := ⟨mc_pos hj, fun v hv => mc_0 (fun i hi e => by have := h i hi; omega)⟩
/- the least of all but one -/
set_option maxHeartbeats 400000 in
theorem mnc_but {w : Nat → Int} {n a b : Nat} (ha : a < n) (hb : b < n) (hab : b ≠ a) (h : ∀ i, i < n → i ≠ a → w b ≤ w i) : mnc (fun v => mc w n v - eq1 (w a) v) (w b) := by
  have hu : ∀ (x v : Int), mc (fun i => if i = a then x else w i) n v + eq1 (w a) v = mc w n v + eq1 x v := fun x v => by
    have := mc_up (w := w) (u := fun i => if i = a then x else w i) (j := a) v (fun i hi => by simp [hi]) (n := n) ha
    simpa using this
  refine ⟨?_, fun v hv => ?_⟩
  · have h1 := hu (w b + 1) (w b)
    have h2 := mc_pos (w := fun i => if i = a then w b + 1 else w i) (j := b) (n := n) hb
    simp only [if_neg hab] at h2
    rw [eq1_n (by omega : w b + 1 ≠ w b)] at h1
    show 0 < mc w n (w b) - eq1 (w a) (w b)
    omega
  · have h1 := hu (w b) v
    have h2 := mc_0 (w := fun i => if i = a then w b else w i) (v := v) (n := n) (fun i hi => by
      by_cases e : i = a
      · simp only [if_pos e]; omega
      · simp only [if_neg e]; have := h i hi e; omega)
    rw [eq1_n (by omega : w b ≠ v)] at h1
    show mc w n v - eq1 (w a) v = 0
    omega
/- the least goes to the end -/
set_option maxHeartbeats 400000 in
theorem s37 {n : Nat} (hn : n ≤ 8) : ∀ (k i : Nat) (M : aM) (v : aV), i + 1 + k = n → (∀ j, j < i → M 45 i ≤ M 45 j) → ∃ M', run 0 37 2 [.inr (some 40), .inl (n : Int), .inl (i : Int), v] [] M = some (none, M') ∧ (∀ x, mc (M' 45) n x = mc (M 45) n x) ∧ (∀ j, j < n → M' 45 (n - 1) ≤ M' 45 j) ∧ (∀ j, n ≤ j → M' 45 j = M 45 j) ∧ ∀ q, q ≠ 45 → M' q = M q
  | 0, i, M, v, h, h1 => by
    have : n = i + 1 := by omega
    subst this
    have w : wr ((i : Int) + 1) = ((i + 1 : Nat) : Int) := by rw [wr_s (by omega) (by omega)]; rfl
    refine ⟨M, ?_, fun _ => rfl, fun j hj => ?_, fun _ _ => rfl, fun _ _ => rfl⟩
    · rw [B_37_2, w, if_pos (Int.le_refl _)]
    · rw [show i + 1 - 1 = i by omega]
      by_cases e : j = i
      · rw [e]; omega
      · exact h1 j (by omega)
  | k + 1, i, M, v, h, h1 => by
    have w : wr ((i : Int) + 1) = ((i + 1 : Nat) : Int) := by rw [wr_s (by omega) (by omega)]; rfl
    have b0 : ¬ (n : Int) ≤ ((i + 1 : Nat) : Int) := by omega
    have b1 : ¬ (8 : Int) ≤ ((i + 1 : Nat) : Int) := by omega
    have y0 : 0 ≤ (i : Int) ∧ (i : Int) < 8 := by omega
    have y1 : 0 ≤ ((i + 1 : Nat) : Int) ∧ ((i + 1 : Nat) : Int) < 8 := by omega
    rw [B_37_2, w, if_neg b0, if_neg b1, if_pos y0, if_pos y1, Int.toNat_natCast, Int.toNat_natCast]
    by_cases g : M 45 (i + 1) ≤ M 45 i
    · rw [if_pos g]
      exact s37 hn k (i + 1) M v (by omega) (fun j hj => by
        by_cases e : j = i
        · rw [e]; exact g
        · have := h1 j (by omega); omega)
    · rw [if_neg g, if_pos y0, if_pos y1, if_pos y0, if_pos y1]
      have r1 : ∀ j, j ≠ i → j ≠ i + 1 → upM (upM M 45 i (M 45 (i + 1))) 45 (i + 1) (M 45 i) 45 j = M 45 j := fun j h1 h2 => by rw [up_j h2, up_j h1]
      have r2 : upM (upM M 45 i (M 45 (i + 1))) 45 (i + 1) (M 45 i) 45 (i + 1) = M 45 i := up_s
      have r3 : upM (upM M 45 i (M 45 (i + 1))) 45 (i + 1) (M 45 i) 45 i = M 45 (i + 1) := by rw [up_j (by omega), up_s]
      obtain ⟨M', e1, e2, e3, e4, e5⟩ := s37 hn k (i + 1) (upM (upM M 45 i (M 45 (i + 1))) 45 (i + 1) (M 45 i)) (.inl (M 45 i)) (by omega) (fun j hj => by
        by_cases e : j = i
        · rw [e, r2, r3]; omega
        · rw [r2, r1 j e (by omega)]; exact h1 j (by omega))
      refine ⟨M', e1, fun x => ?_, e3, fun j hj => by rw [e4 j hj, r1 j (by omega) (by omega)], fun q hq => by rw [e5 q hq, up_ne hq, up_ne hq]⟩
      rw [e2 x]
      have m1 := mc_up (w := M 45) (u := upM M 45 i (M 45 (i + 1)) 45) (j := i) x (fun j hj => up_j hj) (n := n) (by omega)
      have m2 := mc_up (w := upM M 45 i (M 45 (i + 1)) 45) (u := upM (upM M 45 i (M 45 (i + 1))) 45 (i + 1) (M 45 i) 45) (j := i + 1) x (fun j hj => up_j hj) (n := n) (by omega)
      rw [up_s] at m1 m2
      rw [up_j (by omega)] at m2
      omega
/- where the least but one stands -/
set_option maxHeartbeats 400000 in
theorem s278 {n : Nat} (hn : n ≤ 8) {M : aM} (but : Int) : ∀ (k i : Nat) (r : Int), i + k = n → (r = -1 ∧ (∀ j : Nat, j < i → (j : Int) = but) ∨ ∃ a : Nat, r = (a : Int) ∧ a < i ∧ (a : Int) ≠ but ∧ ∀ j : Nat, j < i → (j : Int) ≠ but → M 87 a ≤ M 87 j) → ∃ r' : Int, run 0 278 5 [.inr (some 53), .inl (n : Int), .inl but, .inl r, .inl (i : Int)] [] M = some (some (.inl r'), M) ∧ (r' = -1 ∧ (∀ j : Nat, j < n → (j : Int) = but) ∨ ∃ a : Nat, r' = (a : Int) ∧ a < n ∧ (a : Int) ≠ but ∧ ∀ j : Nat, j < n → (j : Int) ≠ but → M 87 a ≤ M 87 j)
  | 0, i, r, h, h1 => by
    have : n = i := by omega
    subst this
    exact ⟨r, by rw [B_278_5, if_pos (Int.le_refl _)], h1⟩
  | k + 1, i, r, h, h1 => by
    have w : wr ((i : Int) + 1) = ((i + 1 : Nat) : Int) := by rw [wr_s (by omega) (by omega)]; rfl
    have b0 : ¬ (n : Int) ≤ (i : Int) := by omega
    rw [B_278_5, if_neg b0, w]
    by_cases g : (i : Int) = but
    · rw [if_pos g]
      refine s278 hn but k (i + 1) r (by omega) ?_
      rcases h1 with ⟨h1, h2⟩ | ⟨a, h1, h2, h3, h4⟩
      · refine Or.inl ⟨h1, fun j hj => ?_⟩
        by_cases e : j = i
        · rw [e]; exact g
        · exact h2 j (by omega)
      · refine Or.inr ⟨a, h1, by omega, h3, fun j hj hb => ?_⟩
        by_cases e : j = i
        · rw [e] at hb; exact absurd g hb
        · exact h4 j (by omega) hb
    · rw [if_neg g]
      rcases h1 with ⟨h1, h2⟩ | ⟨a, h1, h2, h3, h4⟩
      · rw [if_pos h1]
        refine s278 hn but k (i + 1) _ (by omega) (Or.inr ⟨i, rfl, by omega, g, fun j hj hb => ?_⟩)
        by_cases e : j = i
        · rw [e]; omega
        · exact absurd (h2 j (by omega)) hb
      · have ya : 0 ≤ (a : Int) ∧ (a : Int) < 8 := by omega
        have yi : 0 ≤ (i : Int) ∧ (i : Int) < 8 := by omega
        have na : ¬ (a : Int) = -1 := by omega
        subst h1
        rw [if_neg na, if_pos yi, if_pos ya, Int.toNat_natCast, Int.toNat_natCast]
        by_cases c : M 87 a ≤ M 87 i
        · rw [if_pos c]
          refine s278 hn but k (i + 1) _ (by omega) (Or.inr ⟨a, rfl, by omega, h3, fun j hj hb => ?_⟩)
          by_cases e : j = i
          · rw [e]; exact c
          · exact h4 j (by omega) hb
        · rw [if_neg c]
          refine s278 hn but k (i + 1) _ (by omega) (Or.inr ⟨i, rfl, by omega, g, fun j hj hb => ?_⟩)
          by_cases e : j = i
          · rw [e]; omega
          · have := h4 j (by omega) hb; omega
/- the joint loop: what lies there is the same, counted -/
set_option maxHeartbeats 400000 in
theorem sh_j (x2 x3 x1 : Int) : ∀ (n : Nat) (s : Int) (v6 v4 v5 u6 : aV) (M R : aM), n + 1 ≤ 8 → (∀ v, mc (M 45) (n + 1) v = mc (R 87) (n + 1) v) → ∃ s' M' R', run 1 36 41 [.inr (some 40), .inr (some 2), .inl x2, .inl x3, .inl s, .inl ((n + 1 : Nat) : Int), v6] [] M = some (some (.inl s'), M') ∧ run 1 279 65 [.inr (some 53), .inl x1, .inl s, .inl ((n + 1 : Nat) : Int), v4, v5, u6] [] R = some (some (.inl s'), R') ∧ (∀ q, q ≠ 45 → M' q = M q) ∧ ∀ q, q ≠ 87 → R' q = R q
  | 0, s, v6, v4, v5, u6, M, R, _, _ => ⟨s, M, R, by rw [B_36_41, if_pos (by decide)], by rw [B_279_65, if_pos (by decide)], fun _ _ => rfl, fun _ _ => rfl⟩
  | n + 1, s, v6, v4, v5, u6, M, R, hn, hc => by
    have b0 : ¬ ((n + 1 + 1 : Nat) : Int) ≤ 1 := by omega
    have w1 : wr (((n + 1 + 1 : Nat) : Int) - 1) = ((n + 1 : Nat) : Int) := by rw [wr_s (by omega) (by omega)]; omega
    have w2 : wr (((n + 1 + 1 : Nat) : Int) - 2) = (n : Int) := by rw [wr_s (by omega) (by omega)]; omega
    have w3 : wr (((n + 1 + 1 : Nat) : Int) + -1) = ((n + 1 : Nat) : Int) := by rw [wr_s (by omega) (by omega)]; omega
    have y1 : 0 ≤ ((n + 1 : Nat) : Int) ∧ ((n + 1 : Nat) : Int) < 8 := by omega
    have y2 : 0 ≤ (n : Int) ∧ (n : Int) < 8 := by omega
    obtain ⟨M1, a1, a2, a3, a4, a5⟩ := s37 (n := n + 1 + 1) hn (n + 1) 0 M (.inr none) (by omega) (fun j hj => absurd hj (Nat.not_lt_zero j))
    obtain ⟨M2, c1, c2, c3, c4, c5⟩ := s37 (n := n + 1) (by omega) n 0 M1 (.inr none) (by omega) (fun j hj => absurd hj (Nat.not_lt_zero j))
    rw [Nat.add_sub_cancel] at a3 c3
    have m1 : mnc (mc (M 45) (n + 1 + 1)) (M2 45 (n + 1)) := by
      have h := mnc_of (w := M1 45) (n := n + 1 + 1) (j := n + 1) (by omega) a3
      rw [← c4 (n + 1) (Nat.le_refl _)] at h
      have e : mc (M 45) (n + 1 + 1) = mc (M1 45) (n + 1 + 1) := funext fun x => (a2 x).symm
      rw [e]; exact h
    have t1 : ∀ x, mc (M2 45) n x + eq1 (M2 45 n) x + eq1 (M2 45 (n + 1)) x = mc (M 45) (n + 1 + 1) x := fun x => by
      rw [← mc_s, c2 x, c4 (n + 1) (Nat.le_refl _), ← mc_s, a2 x]
    have m2 : mnc (fun v => mc (M 45) (n + 1 + 1) v - eq1 (M2 45 (n + 1)) v) (M2 45 n) := by
      have h := mnc_of (w := M2 45) (n := n + 1) (j := n) (by omega) c3
      have e : (fun v => mc (M 45) (n + 1 + 1) v - eq1 (M2 45 (n + 1)) v) = mc (M2 45) (n + 1) := funext fun x => by
        have := t1 x
        rw [mc_s (M2 45)]
        omega
      rw [e]; exact h
    obtain ⟨r1, d1, d2⟩ := s278 (n := n + 1 + 1) hn (M := R) (-1) (n + 1 + 1) 0 (-1) (by omega) (Or.inl ⟨rfl, fun j hj => absurd hj (Nat.not_lt_zero j)⟩)
    obtain ⟨a, rfl, ha, -, ha2⟩ : ∃ a : Nat, r1 = (a : Int) ∧ a < n + 1 + 1 ∧ (a : Int) ≠ -1 ∧ ∀ j : Nat, j < n + 1 + 1 → (j : Int) ≠ -1 → R 87 a ≤ R 87 j := by
      rcases d2 with ⟨_, h⟩ | h
      · have := h 0 (by omega); omega
      · exact h
    obtain ⟨r2, d3, d4⟩ := s278 (n := n + 1 + 1) hn (M := R) (a : Int) (n + 1 + 1) 0 (-1) (by omega) (Or.inl ⟨rfl, fun j hj => absurd hj (Nat.not_lt_zero j)⟩)
    obtain ⟨b, rfl, hb, hba, hb2⟩ : ∃ b : Nat, r2 = (b : Int) ∧ b < n + 1 + 1 ∧ (b : Int) ≠ (a : Int) ∧ ∀ j : Nat, j < n + 1 + 1 → (j : Int) ≠ (a : Int) → R 87 b ≤ R 87 j := by
      rcases d4 with ⟨_, h⟩ | h
      · have h0 := h 0 (by omega); have h1 := h 1 (by omega); omega
      · exact h
    have ec : mc (R 87) (n + 1 + 1) = mc (M 45) (n + 1 + 1) := funext fun x => (hc x).symm
    have p1 : R 87 a = M2 45 (n + 1) := by
      have h := mnc_of (w := R 87) (n := n + 1 + 1) (j := a) ha (fun i hi => ha2 i hi (by omega))
      rw [ec] at h
      exact mnc_1 h m1
    have p2 : R 87 b = M2 45 n := by
      have h := mnc_but (w := R 87) (n := n + 1 + 1) (a := a) (b := b) ha hb (by omega) (fun i hi e => hb2 i hi (by omega))
      rw [ec, p1] at h
      exact mnc_1 h m2
    have ya : 0 ≤ (a : Int) ∧ (a : Int) < 8 := by omega
    have yb : 0 ≤ (b : Int) ∧ (b : Int) < 8 := by omega
    obtain ⟨lo, hi, hlo, hhi, hl1, hl2⟩ : ∃ lo hi : Nat, min (a : Int) (b : Int) = (lo : Int) ∧ max (a : Int) (b : Int) = (hi : Int) ∧ lo < hi ∧ (lo = a ∧ hi = b ∨ lo = b ∧ hi = a) := by
      by_cases e : a < b
      · exact ⟨a, b, by omega, by omega, e, Or.inl ⟨rfl, rfl⟩⟩
      · exact ⟨b, a, by omega, by omega, by omega, Or.inr ⟨rfl, rfl⟩⟩
    have ylo : 0 ≤ (lo : Int) ∧ (lo : Int) < 8 := by omega
    have yhi : 0 ≤ (hi : Int) ∧ (hi : Int) < 8 := by omega
    have hcl : run 1 36 41 [.inr (some 40), .inr (some 2), .inl x2, .inl x3, .inl s, .inl ((n + 1 + 1 : Nat) : Int), v6] [] M = run 1 36 41 [.inr (some 40), .inr (some 2), .inl x2, .inl x3, .inl (wr (s + wr (M2 45 (n + 1) + M2 45 n))), .inl ((n + 1 : Nat) : Int), .inl (wr (M2 45 (n + 1) + M2 45 n))] [] (upM M2 45 n (wr (M2 45 (n + 1) + M2 45 n))) := by
      have a0 : fnA 37 [.inr (some 40), .inl ((n + 1 + 1 : Nat) : Int)] M = some (none, M1) := by rw [E_37]; exact a1
      have c0 : fnA 37 [.inr (some 40), .inl ((n + 1 : Nat) : Int)] M1 = some (none, M2) := by rw [E_37]; exact c1
      rw [B_36_41, if_neg b0, a0, bV_s, w1, c0, bV_s, w2, w3, if_pos y1, if_pos y2, if_pos y2, Int.toNat_natCast, Int.toNat_natCast]
    let R1 := upM R 87 lo (wr (M2 45 (n + 1) + M2 45 n))
    have hrf : run 1 279 65 [.inr (some 53), .inl x1, .inl s, .inl ((n + 1 + 1 : Nat) : Int), v4, v5, u6] [] R = run 1 279 65 [.inr (some 53), .inl x1, .inl (wr (s + wr (M2 45 (n + 1) + M2 45 n))), .inl ((n + 1 : Nat) : Int), .inl (a : Int), .inl (b : Int), .inl (wr (M2 45 (n + 1) + M2 45 n))] [] (upM R1 87 hi (R1 87 (n + 1))) := by
      have d0 : fnA 278 [.inr (some 53), .inl ((n + 1 + 1 : Nat) : Int), .inl (-1)] R = some (some (.inl (a : Int)), R) := by rw [E_278]; exact d1
      have d5 : fnA 278 [.inr (some 53), .inl ((n + 1 + 1 : Nat) : Int), .inl (a : Int)] R = some (some (.inl (b : Int)), R) := by rw [E_278]; exact d3
      rw [B_279_65, if_neg b0, d0, bI_s, d5, bI_s, if_pos ya, if_pos yb, s182, bI_s, hlo, if_pos ylo, s183, bI_s, hhi, w1, w3, if_pos y1, if_pos yhi, Int.toNat_natCast, Int.toNat_natCast, Int.toNat_natCast, Int.toNat_natCast, Int.toNat_natCast, p1, p2]
    have hcn : ∀ v, mc (upM M2 45 n (wr (M2 45 (n + 1) + M2 45 n)) 45) (n + 1) v = mc (upM R1 87 hi (R1 87 (n + 1)) 87) (n + 1) v := fun v => by
      have q1 : mc (upM M2 45 n (wr (M2 45 (n + 1) + M2 45 n)) 45) (n + 1) v = mc (M2 45) n v + eq1 (wr (M2 45 (n + 1) + M2 45 n)) v := by
        rw [mc_s, up_s, mc_c (u := M2 45) (fun i hi => up_j (by omega))]
      have q2 := mc_up (w := R 87) (u := R1 87) (j := lo) v (fun j hj => up_j hj) (n := n + 1 + 1) (by omega)
      have q3 := mc_up (w := R1 87) (u := upM R1 87 hi (R1 87 (n + 1)) 87) (j := hi) v (fun j hj => up_j hj) (n := n + 1 + 1) (by omega)
      have q4 : R1 87 lo = wr (M2 45 (n + 1) + M2 45 n) := up_s
      have q5 : R1 87 hi = R 87 hi := up_j (by omega)
      have q6 : upM R1 87 hi (R1 87 (n + 1)) 87 (n + 1) = R1 87 (n + 1) := by
        by_cases e : n + 1 = hi
        · rw [e, up_s]
        · exact up_j e
      have q7 := t1 v
      have q8 := hc v
      rw [up_s, q5, mc_s, q6] at q3
      rw [q4] at q2
      have q9 : eq1 (R 87 lo) v + eq1 (R 87 hi) v = eq1 (M2 45 n) v + eq1 (M2 45 (n + 1)) v := by
        rcases hl2 with ⟨rfl, rfl⟩ | ⟨rfl, rfl⟩
        · rw [p1, p2]; omega
        · rw [p1, p2]
      omega
    obtain ⟨s', M', R', f1, f2, f3, f4⟩ := sh_j x2 x3 x1 n (wr (s + wr (M2 45 (n + 1) + M2 45 n))) (.inl (wr (M2 45 (n + 1) + M2 45 n))) (.inl (a : Int)) (.inl (b : Int)) (.inl (wr (M2 45 (n + 1) + M2 45 n))) _ _ (by omega) hcn
    refine ⟨s', M', R', hcl.trans f1, hrf.trans f2, fun q hq => ?_, fun q hq => ?_⟩
    · rw [f3 q hq, up_ne hq, c5 q hq, a5 q hq]
    · rw [f4 q hq, up_ne hq]; exact up_ne hq
/- the class lays what is told -/
set_option maxHeartbeats 400000 in
theorem s36l {M : aM} {m n : Nat} (hm : TP M m) (hn : n ≤ m) (hn8 : n ≤ 8) : ∀ (k i : Nat) (M2 : aM), i + k = n → (∀ j, j < i → M2 45 j = M 3 j) → (∀ q, q ≠ 45 → M2 q = M q) → ∃ M', run 1 36 10 [.inr (some 40), .inr (some 2), .inl (n : Int), .inl (n : Int), .inl (i : Int), .inr none, .inr none] [] M2 = run 1 36 41 [.inr (some 40), .inr (some 2), .inl (n : Int), .inl (n : Int), .inl 0, .inl (n : Int), .inr none] [] M' ∧ (∀ j, j < n → M' 45 j = M 3 j) ∧ ∀ q, q ≠ 45 → M' q = M q
  | 0, i, M2, h, h1, h2 => by
    have : n = i := by omega
    subst this
    exact ⟨M2, by rw [B_36_10, if_pos (Int.le_refl _)], h1, h2⟩
  | k + 1, i, M2, h, h1, h2 => by
    have w : wr ((i : Int) + 1) = ((i + 1 : Nat) : Int) := by rw [wr_s (by omega) (by omega)]; rfl
    have b0 : ¬ (n : Int) ≤ (i : Int) := by omega
    have y : 0 ≤ (i : Int) ∧ (i : Int) < 8 := by omega
    have hm2 : TP M2 m := hm.mv (by rw [h2 2 (by decide)]) (by rw [h2 53 (by decide)]) (h2 3 (by decide)) (h2 57 (by decide))
    obtain ⟨M', e, h3, h4⟩ := s36l hm hn hn8 k (i + 1) (upM M2 45 i (M 3 i)) (by omega) (fun j hj => by
      by_cases e : j = i
      · rw [e, up_s]
      · rw [up_j e]; exact h1 j (by omega)) (fun q hq => by rw [up_ne hq]; exact h2 q hq)
    refine ⟨M', ?_, h3, h4⟩
    rw [B_36_10, if_neg b0, tape_at hm2 (by omega), bI_s, if_pos y, w, Int.toNat_natCast, h2 3 (by decide)]
    exact e
set_option maxHeartbeats 400000 in
theorem s279l {M M1 : aM} {m n : Nat} (h57 : M1 57 = M 57) (hm : TP M m) (hn : n ≤ m) (hn8 : n ≤ 8) : ∀ (k i : Nat) (M2 : aM), i + k = n → (∀ j, j < i → M 3 j ≠ 0 ∧ M2 87 j = M 3 j) → (∀ q, q ≠ 87 → M2 q = M1 q) → ∃ M', (∀ q, q ≠ 87 → M' q = M1 q) ∧ (hasZ (M 3) n ∧ run 1 279 27 [.inr (some 53), .inl (n : Int), .inl (i : Int), .inr none, .inr none, .inr none, .inr none] [] M2 = some (some (.inl (-2)), M') ∨ ¬ hasZ (M 3) n ∧ run 1 279 27 [.inr (some 53), .inl (n : Int), .inl (i : Int), .inr none, .inr none, .inr none, .inr none] [] M2 = run 1 279 65 [.inr (some 53), .inl (n : Int), .inl 0, .inl (n : Int), .inr none, .inr none, .inr none] [] M' ∧ ∀ j, j < n → M' 87 j = M 3 j)
  | 0, i, M2, h, h1, h2 => by
    have : n = i := by omega
    subst this
    exact ⟨M2, h2, Or.inr ⟨fun ⟨b, hb, e⟩ => (h1 b hb).1 e, by rw [B_279_27, if_pos (Int.le_refl _)], fun j hj => (h1 j hj).2⟩⟩
  | k + 1, i, M2, h, h1, h2 => by
    have w : wr ((i : Int) + 1) = ((i + 1 : Nat) : Int) := by rw [wr_s (by omega) (by omega)]; rfl
    have b0 : ¬ (n : Int) ≤ (i : Int) := by omega
    have y : 0 ≤ (i : Int) ∧ (i : Int) < 8 := by omega
    have e2 : iAnd (M2 57 i) 255 = M 3 i := by rw [h2 57 (by decide), h57, ← (hm.2.2.2 i (by omega)).1]
    have ho := oct_at (M := M2) (i := i) (by omega)
    rw [B_279_27, if_neg b0, ho, bI_s, if_pos y, if_pos y, Int.toNat_natCast, up_s, e2, w]
    have h3 : ∀ q, q ≠ 87 → upM M2 87 i (M 3 i) q = M1 q := fun q hq => by rw [up_ne hq]; exact h2 q hq
    by_cases g : M 3 i = 0
    · exact ⟨_, h3, Or.inl ⟨⟨i, by omega, g⟩, by rw [if_pos g]⟩⟩
    · rw [if_neg g]
      refine s279l h57 hm hn hn8 k (i + 1) _ (by omega) (fun j hj => ?_) h3
      by_cases e : j = i
      · rw [e]; exact ⟨g, up_s⟩
      · rw [up_j e]; exact h1 j (by omega)
set_option maxHeartbeats 400000 in
theorem c_shortest {W : aM → Prop} (hW : WM W) (x : Int) : OK2 W 170 279 [.inl x] := fun M hI _ => by
  obtain ⟨m, hm⟩ := hI.2.2.1
  have m1 := hm.1
  have m2 := hm.2.1
  by_cases hx : 2 ≤ x ∧ x ≤ 8
  · by_cases hxm : x ≤ (m : Int)
    · obtain ⟨n, hn, rfl⟩ : ∃ n : Nat, n + 1 ≤ 8 ∧ x = ((n + 1 : Nat) : Int) := ⟨x.toNat - 1, by omega, by omega⟩
      have hnm : n + 1 ≤ m := by omega
      have e0 : fnA 170 [.inr (some 1), .inl ((n + 1 : Nat) : Int)] M = bI (fnA 98 [.inr (some 2), .inl ((n + 1 : Nat) : Int)] M) fun w1 M1 => if w1 = 0 then bI (fnA 36 [.inr (some 40), .inr (some 2), .inl ((n + 1 : Nat) : Int)] M1) fun w2 M2 => run 2 170 52 [.inr (some 1), .inl ((n + 1 : Nat) : Int), .inr none] [.inl w2] M2 else run 2 170 52 [.inr (some 1), .inl ((n + 1 : Nat) : Int), .inr none] [.inl ((-2))] M1 := by
        rw [E_170, if_neg (by omega), if_neg (by omega), if_pos (by omega)]
      have f0 : ∀ M1 : aM, M1 53 4 = M 53 4 → fnA 279 [.inr (some 53), .inl ((n + 1 : Nat) : Int)] M1 = run 1 279 27 [.inr (some 53), .inl ((n + 1 : Nat) : Int), .inl 0, .inr none, .inr none, .inr none, .inr none] [] (upM M1 53 4 0) := fun M1 h => by
        rw [E_279, s181, bI_s, bI1_t hx, if_neg (by decide), h, if_pos (by omega)]
      by_cases hz : hasZ (M 3) (n + 1)
      · have h57 : upM (upM M 2 1 0) 53 4 0 57 = M 57 := by rw [up_ne (by decide), up_ne (by decide)]
        obtain ⟨M3, h3, g | g⟩ := s279l h57 hm hnm hn (n + 1) 0 (upM (upM M 2 1 0) 53 4 0) (by omega) (fun j hj => absurd hj (Nat.not_lt_zero j)) (fun _ _ => rfl)
        · refine ⟨-2, upM M 2 1 0, M3, ?_, ?_, ?_, ?_⟩
          · rw [e0, s98 hm hnm, bI_s, bI1_t hz, if_neg (by decide), B_170_52, E_94, bV_s]
          · rw [f0 _ (up_o (by decide))]; exact g.2
          · exact ((SM.one (c := 87) (by decide) h3).inv hW ((SG.rf.cl.rl).zap hW hI))
          · rw [h3 0 (by decide), up_ne (by decide), up_ne (by decide)]
        · exact absurd hz g.1
      · obtain ⟨M1, a1, a2, a3⟩ := s36l hm hnm hn (n + 1) 0 M (by omega) (fun j hj => absurd hj (Nat.not_lt_zero j)) (fun _ _ => rfl)
        have hR : ∀ M9 : aM, (∀ q, q ≠ 45 → M9 q = M q) → ∃ M3, (∀ q, q ≠ 87 → M3 q = upM (upM M9 2 1 0) 53 4 0 q) ∧ run 1 279 27 [.inr (some 53), .inl ((n + 1 : Nat) : Int), .inl 0, .inr none, .inr none, .inr none, .inr none] [] (upM (upM M9 2 1 0) 53 4 0) = run 1 279 65 [.inr (some 53), .inl ((n + 1 : Nat) : Int), .inl 0, .inl ((n + 1 : Nat) : Int), .inr none, .inr none, .inr none] [] M3 ∧ ∀ j, j < n + 1 → M3 87 j = M 3 j := fun M9 h9 => by
          have h57 : upM (upM M9 2 1 0) 53 4 0 57 = M 57 := by rw [up_ne (by decide), up_ne (by decide)]; exact h9 57 (by decide)
          obtain ⟨M3, h3, g | g⟩ := s279l h57 hm hnm hn (n + 1) 0 (upM (upM M9 2 1 0) 53 4 0) (by omega) (fun j hj => absurd hj (Nat.not_lt_zero j)) (fun _ _ => rfl)
          · exact absurd g.1 hz
          · exact ⟨M3, h3, g.2.1, g.2.2⟩
        obtain ⟨s0, N0, _, n1, _, n2, _⟩ := sh_j ((n + 1 : Nat) : Int) ((n + 1 : Nat) : Int) ((n + 1 : Nat) : Int) n 0 (.inr none) (.inr none) (.inr none) (.inr none) M1 (fun q => if q = 87 then M1 45 else M1 q) hn (fun v => mc_c (fun j hj => by rw [if_pos rfl]))
        have n3 : ∀ q, q ≠ 45 → N0 q = M q := fun q hq => (n2 q hq).trans (a3 q hq)
        obtain ⟨M3, b1, b2, b3⟩ := hR N0 n3
        obtain ⟨s1, N1, R1, r1, r2, r3, r4⟩ := sh_j ((n + 1 : Nat) : Int) ((n + 1 : Nat) : Int) ((n + 1 : Nat) : Int) n 0 (.inr none) (.inr none) (.inr none) (.inr none) M1 M3 hn (fun v => mc_c (fun j hj => by rw [a2 j hj, b3 j hj]))
        have hs : s1 = s0 := by
          have h := r1.symm.trans n1
          injection h with h
          injection h with h _
          injection h with h
          injection h with h
        subst hs
        refine ⟨s1, upM N0 2 1 0, R1, ?_, ?_, ?_, ?_⟩
        · have e36 : fnA 36 [.inr (some 40), .inr (some 2), .inl ((n + 1 : Nat) : Int)] M = some (some (.inl s1), N0) := by
            rw [E_36, show min ((n + 1 : Nat) : Int) 8 = ((n + 1 : Nat) : Int) by omega]
            exact a1.trans n1
          rw [e0, s98 hm hnm, bI_s, bI1_f hz, if_pos rfl, e36, bI_s, B_170_52, E_94, bV_s]
        · rw [f0 _ (by rw [up_o (by decide)]; rw [n3 53 (by decide)])]
          exact b2.trans r2
        · have g1 : SG M N0 (M 2 1) (M 53 4) := SG.of (SM.one (c := 45) (by decide) n3)
          have g2 : SG M (upM (upM N0 2 1 0) 53 4 0) 0 0 := g1.cl.rl
          have g3 : SM (upM (upM N0 2 1 0) 53 4 0) R1 := SM.one (c := 87) (by decide) (fun q hq => (r4 q hq).trans (b1 q hq))
          exact g3.inv hW (g2.zap hW hI)
        · rw [r4 0 (by decide), b1 0 (by decide), up_ne (by decide), up_ne (by decide), n3 0 (by decide)]
    · refine ⟨-1, M, M, ?_, ?_, hI, rfl⟩
      · rw [E_170, if_neg (by omega), if_neg (by omega), if_neg (by omega)]
      · rw [E_279, s181, bI_s, bI1_t hx, if_neg (by decide), if_neg (by omega)]
  · refine ⟨-1, M, M, ?_, ?_, hI, rfl⟩
    · rw [E_170]
      by_cases h1 : x < 2
      · rw [if_pos h1]
      · rw [if_neg h1, if_pos (by omega)]
    · rw [E_279, s181, bI_s, bI1_f hx, if_pos rfl]
end SHO
