/-! law: the call. -/
section CLW
set_option maxHeartbeats 400000 in
theorem r95 {x : Int} {b : Nat} (hb : b ≤ 260) : ∀ (k i : Nat) (M : aM), i + k = b → M 53 10 = (b : Int) → ∃ M', run 8 223 95 [.inr (some 53), .inl x, .inl 1, .inl (i : Int)] [] M = run 8 223 123 [.inr (some 53), .inl x, .inl 1, .inl 0] [] M' ∧ (∀ q, q ≠ 64 → M' q = M q) ∧ (∀ j, j < i → M' 64 j = M 64 j) ∧ ∀ j, i ≤ j → j < b → M' 64 j = M 58 j := by
  intro k
  induction k with
  | zero =>
    intro i M hi h10
    refine ⟨M, ?_, fun _ _ => rfl, fun _ _ => rfl, fun j h1 h2 => by omega⟩
    rw [B_223_95, h10, if_pos (by omega)]
  | succ k ih =>
    intro i M hi h10
    have y : 0 ≤ (i : Int) ∧ (i : Int) < 260 := by omega
    have w := w1p (a := i) (by omega)
    obtain ⟨M', h1, h2, h3, h4⟩ := ih (i + 1) (upM M 64 i (M 58 i)) (by omega) (by rw [up_o (by decide)]; exact h10)
    refine ⟨M', ?_, fun q hq => (h2 q hq).trans (up_ne hq), fun j hj => ?_, fun j j1 j2 => ?_⟩
    · rw [B_223_95, h10, if_neg (by omega), if_pos y, if_pos y, Int.toNat_natCast, w]; exact h1
    · rw [h3 j (by omega), up_j (by omega)]
    · by_cases e : j = i
      · subst e
        rw [h3 j (by omega), up_s]
      · rw [h4 j (by omega) j2, up_o (by decide)]
set_option maxHeartbeats 400000 in
theorem r123 {x : Int} {b : Nat} (hb : b ≤ 16) : ∀ (k i : Nat) (M : aM), i + k = b → M 53 12 = (b : Int) → ∃ M', run 8 223 123 [.inr (some 53), .inl x, .inl 1, .inl (i : Int)] [] M = some (some (.inl (b : Int)), M') ∧ (∀ q, q ≠ 65 → q ≠ 66 → q ≠ 67 → q ≠ 68 → M' q = M q) ∧ (∀ j, j < i → M' 65 j = M 65 j ∧ M' 66 j = M 66 j ∧ M' 67 j = M 67 j ∧ M' 68 j = M 68 j) ∧ ∀ j, i ≤ j → j < b → M' 65 j = M 60 j ∧ M' 66 j = M 61 j ∧ M' 67 j = M 62 j ∧ M' 68 j = M 63 j := by
  intro k
  induction k with
  | zero =>
    intro i M hi h10
    refine ⟨M, ?_, fun _ _ _ _ _ => rfl, fun _ _ => ⟨rfl, rfl, rfl, rfl⟩, fun j h1 h2 => by omega⟩
    rw [B_223_123, h10, if_pos (by omega)]
  | succ k ih =>
    intro i M hi h10
    have y : 0 ≤ (i : Int) ∧ (i : Int) < 16 := by omega
    have w := w1p (a := i) (by omega)
    have e1 : upM M 65 i (M 60 i) 61 i = M 61 i := up_o (by decide)
    have e2 : upM (upM M 65 i (M 60 i)) 66 i (M 61 i) 62 i = M 62 i := by rw [up_o (by decide), up_o (by decide)]
    have e3 : upM (upM (upM M 65 i (M 60 i)) 66 i (M 61 i)) 67 i (M 62 i) 63 i = M 63 i := by rw [up_o (by decide), up_o (by decide), up_o (by decide)]
    have hq1 : ∀ q, q ≠ 65 → q ≠ 66 → q ≠ 67 → q ≠ 68 → upM (upM (upM (upM M 65 i (M 60 i)) 66 i (M 61 i)) 67 i (M 62 i)) 68 i (M 63 i) q = M q := fun q a1 a2 a3 a4 => by rw [up_ne a4, up_ne a3, up_ne a2, up_ne a1]
    have c65 : upM (upM (upM (upM M 65 i (M 60 i)) 66 i (M 61 i)) 67 i (M 62 i)) 68 i (M 63 i) 65 = tset (M 65) i (M 60 i) := by rw [up_ne (by decide), up_ne (by decide), up_ne (by decide), up_q]
    have c66 : upM (upM (upM (upM M 65 i (M 60 i)) 66 i (M 61 i)) 67 i (M 62 i)) 68 i (M 63 i) 66 = tset (M 66) i (M 61 i) := by rw [up_ne (by decide), up_ne (by decide), up_q, up_ne (by decide)]
    have c67 : upM (upM (upM (upM M 65 i (M 60 i)) 66 i (M 61 i)) 67 i (M 62 i)) 68 i (M 63 i) 67 = tset (M 67) i (M 62 i) := by rw [up_ne (by decide), up_q, up_ne (by decide), up_ne (by decide)]
    have c68 : upM (upM (upM (upM M 65 i (M 60 i)) 66 i (M 61 i)) 67 i (M 62 i)) 68 i (M 63 i) 68 = tset (M 68) i (M 63 i) := by rw [up_q, up_ne (by decide), up_ne (by decide), up_ne (by decide)]
    obtain ⟨M', h1, h2, h3, h4⟩ := ih (i + 1) (upM (upM (upM (upM M 65 i (M 60 i)) 66 i (M 61 i)) 67 i (M 62 i)) 68 i (M 63 i)) (by omega) (by rw [hq1 53 (by decide) (by decide) (by decide) (by decide)]; exact h10)
    refine ⟨M', ?_, fun q a1 a2 a3 a4 => (h2 q a1 a2 a3 a4).trans (hq1 q a1 a2 a3 a4), fun j hj => ?_, fun j j1 j2 => ?_⟩
    · rw [B_223_123, h10, if_neg (by omega), if_pos y, if_pos y, if_pos y, if_pos y, if_pos y, if_pos y, if_pos y, if_pos y, Int.toNat_natCast, w, e1, e2, e3]; exact h1
    · obtain ⟨b1, b2, b3, b4⟩ := h3 j (by omega)
      rw [b1, b2, b3, b4, c65, c66, c67, c68]
      unfold tset
      rw [if_neg (by omega), if_neg (by omega), if_neg (by omega), if_neg (by omega)]
      exact ⟨rfl, rfl, rfl, rfl⟩
    · by_cases e : j = i
      · subst e
        obtain ⟨b1, b2, b3, b4⟩ := h3 j (by omega)
        rw [b1, b2, b3, b4, c65, c66, c67, c68]
        unfold tset
        rw [if_pos rfl, if_pos rfl, if_pos rfl, if_pos rfl]
        exact ⟨rfl, rfl, rfl, rfl⟩
      · obtain ⟨b1, b2, b3, b4⟩ := h4 j (by omega) j2
        rw [b1, b2, b3, b4, hq1 60 (by decide) (by decide) (by decide) (by decide), hq1 61 (by decide) (by decide) (by decide) (by decide), hq1 62 (by decide) (by decide) (by decide) (by decide), hq1 63 (by decide) (by decide) (by decide) (by decide)]
        exact ⟨rfl, rfl, rfl, rfl⟩
set_option maxHeartbeats 400000 in
theorem s43 (M : aM) : ∃ M', fnA 43 [.inr (some 47), .inr (some 18)] M = some (none, M') ∧ (∀ q, ¬ (47 ≤ q ∧ q ≤ 52) → M' q = M q) ∧ M' 47 5 = M 18 5 ∧ (∀ i, i < 16 → M' 48 i = M 19 i ∧ M' 49 i = M 20 i ∧ M' 50 i = M 21 i ∧ M' 51 i = M 22 i) ∧ ∀ j, j < 480 → M' 52 j = M 23 j := by
  refine ⟨_, E_43 47 18 M (Or.inr rfl) (Or.inl rfl), fun q hq => ?_, ?_, fun i hi => ?_, fun j hj => ?_⟩
  · rw [up_ne (by omega), up_ne (by omega), cp_o (by omega), cp_o (by omega), cp_o (by omega), cp_o (by omega), cp_o (by omega)]
  · rw [up_j (by decide), up_s, cp_o (by decide), cp_o (by decide), cp_o (by decide), cp_o (by decide), cp_o (by decide)]
  · refine ⟨?_, ?_, ?_, ?_⟩ <;> simp [upM, cpM, hi]
  · simp [upM, cpM, hj]
/- the law that stands, in both -/
def Wl (M : aM) : Prop := M 81 0 = 0 ∧ ∃ (L : Nat) (D : RU), L ≤ 16 ∧ CRU 47 M L D ∧ M 53 13 = (L : Int) ∧ RRU 65 M L D ∧ RD (0, M 52, 480, M 64, 260) L D
set_option maxHeartbeats 400000 in
theorem WM_l : WM Wl := fun M M' h h13 h81 hW => by
  obtain ⟨h0, L, D, h1, h2, h3, h4, h5⟩ := hW
  refine ⟨h81.trans h0, L, D, h1, ⟨by rw [h 47 rfl]; exact h2.1, fun i hi => ?_⟩, h13.trans h3, fun i hi => ?_, ?_⟩
  · rw [h 48 rfl, h 49 rfl, h 50 rfl, h 51 rfl]; exact h2.2 i hi
  · rw [h 65 rfl, h 66 rfl, h 67 rfl, h 68 rfl]; exact h4 i hi
  · rw [h 52 rfl, h 64 rfl]; exact h5
set_option maxHeartbeats 400000 in
theorem INV.law {M M' : aM} (hI : INV Wl M) (hW : Wl M') (h : ∀ q, keepQ q = true → lawQ q = false → M' q = M q) (h1 : M' 1 13 = M 1 13) (h49 : M' 53 49 = M 53 49) (ht : M' 2 1 = 0 ∧ M' 53 4 = 0) : INV Wl M' := by
  obtain ⟨T, t1, t2, t3, t4⟩ := hI.1
  refine ⟨⟨T, t1.mv (h 4 rfl rfl) (h 5 rfl rfl) (h 6 rfl rfl) (h 7 rfl rfl), t2.mv (h 54 rfl rfl), t3, t4⟩, hI.2.1.mv h1 h49 (fun q a b => h q (kq1 (by omega) b) (by
    unfold lawQ
    simp only [Bool.or_eq_false_iff, Bool.and_eq_false_iff, decide_eq_false_iff_not]
    omega)) (h 56 rfl rfl), ⟨0, ht.1, ht.2, by decide, fun i hi => absurd hi (by omega)⟩, hI.2.2.2.1.mv (h 41 rfl rfl) (h 42 rfl rfl) (h 82 rfl rfl) (h 83 rfl rfl), hW⟩
end CLW
