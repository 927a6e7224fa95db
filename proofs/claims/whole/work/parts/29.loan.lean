/-! loan and payment. -/
def nxt (h p l : Int) : Int := wr ((wr (l + (wr ((wr ((wr (l * h)) + 99)).tdiv 100)))) - p)
def mof (h p : Int) : Nat → Int → Int → Int
  | 0, _, _ => -2
  | n + 1, l, m => if 0 < nxt h p l then (if nxt h p l < l then mof h p n (nxt h p l) (m + 1) else -2) else m
theorem mof_s (h p : Int) (n : Nat) (l m : Int) : mof h p (n + 1) l m = if 0 < nxt h p l then (if nxt h p l < l then mof h p n (nxt h p l) (m + 1) else -2) else m := rfl
theorem s164 (x h p : Int) (M : aM) : fnA 164 [.inl x, .inl h, .inl p] M = some (some (.inl (mof h p 600 x 1)), M) := by
  rw [E_164]
  have key : ∀ (n : Nat) (m l : Int) (v : aV), m + n = 601 → 1 ≤ m → run 0 164 5 [.inl x, .inl h, .inl p, .inl l, .inl m, v] [] M = some (some (.inl (mof h p n l m)), M) := by
    intro n
    induction n with
    | zero => intro m l v h1 h2; rw [B_164_5, if_pos (by omega)]; rfl
    | succ n ih =>
      intro m l v h1 h2
      have e : wr (m + 1) = m + 1 := wr_s (by omega) (by omega)
      have i0 : ¬ 600 < m := by omega
      have hih := ih (m + 1) (nxt h p l) (.inl l) (by omega) (by omega)
      rw [B_164_5, if_neg i0, mof_s, e]
      unfold nxt at hih ⊢
      by_cases g1 : 0 < wr ((wr (l + (wr ((wr ((wr (l * h)) + 99)).tdiv 100)))) - p)
      · rw [if_pos g1, if_pos g1]
        by_cases g2 : wr ((wr (l + (wr ((wr ((wr (l * h)) + 99)).tdiv 100)))) - p) < l
        · rw [if_pos g2, if_pos g2]; exact hih
        · rw [if_neg g2, if_neg g2]
      · rw [if_neg g1, if_neg g1]
  exact key 600 1 x (.inr none) (by decide) (by decide)
theorem s268 (x h p : Int) (M : aM) : fnA 268 [.inl x, .inl h, .inl p] M = some (some (.inl (mof h p 600 x 1)), M) := by
  rw [E_268]
  have key : ∀ (n : Nat) (m l : Int) (v w : aV), m + n = 601 → 1 ≤ m → run 0 268 5 [.inl x, .inl h, .inl p, .inl l, .inl m, v, w] [] M = some (some (.inl (mof h p n l m)), M) := by
    intro n
    induction n with
    | zero => intro m l v w h1 h2; rw [B_268_5, if_pos (by omega)]; rfl
    | succ n ih =>
      intro m l v w h1 h2
      have e : wr (m + 1) = m + 1 := wr_s (by omega) (by omega)
      have i0 : ¬ 600 < m := by omega
      have hih := ih (m + 1) (nxt h p l) (.inl (wr ((wr ((wr (l * h)) + 99)).tdiv 100))) (.inl (nxt h p l)) (by omega) (by omega)
      rw [B_268_5, if_neg i0, mof_s, e]
      unfold nxt at hih ⊢
      by_cases g1 : 0 < wr ((wr (l + (wr ((wr ((wr (l * h)) + 99)).tdiv 100)))) - p)
      · rw [if_pos g1, if_pos g1]
        by_cases g2 : wr ((wr (l + (wr ((wr ((wr (l * h)) + 99)).tdiv 100)))) - p) < l
        · rw [if_pos g2, if_pos g2]; exact hih
        · rw [if_neg g2, if_neg g2]
      · rw [if_neg g1, if_neg g1]
  exact key 600 1 x (.inr none) (.inr none) (by decide) (by decide)
theorem s163 (x h : Int) (M : aM) : fnA 163 [.inl x, .inl h] M = some (some (.inl (bI1 ((1 ≤ x ∧ x ≤ 9999) ∧ 0 ≤ h ∧ h ≤ 20))), M) := by
  rw [E_163]
  by_cases h1 : x < 1
  · rw [if_pos h1, bI1_f (by omega)]
  · rw [if_neg h1]
    by_cases h2 : 9999 < x
    · rw [if_pos h2, bI1_f (by omega)]
    · rw [if_neg h2]
      by_cases h3 : h < 0
      · rw [if_pos h3, bI1_f (by omega)]
      · rw [if_neg h3]
        by_cases h4 : 20 < h
        · rw [if_pos h4, bI1_f (by omega)]
        · rw [if_neg h4, bI1_t (by omega)]
theorem c_loan {W : aM → Prop} (x h p : Int) : OK2 W 162 269 [.inl x, .inl h, .inl p] := fun M hI _ => by
  have key : fnA 162 [.inr (some 1), .inl x, .inl h, .inl p] M = fnA 269 [.inr (some 53), .inl x, .inl h, .inl p] M ∧ ∃ v, fnA 269 [.inr (some 53), .inl x, .inl h, .inl p] M = some (some (.inl v), M) := by
    rw [E_162, E_269, s163, bI_s, s181, bI_s]
    by_cases h1 : 1 ≤ x ∧ x ≤ 9999
    · rw [bI1_t h1, if_neg (c := (1 : Int) = 0) (by decide), s181, bI_s]
      by_cases h2 : 0 ≤ h ∧ h ≤ 20
      · rw [bI1_t h2, bI1_t ⟨h1, h2⟩, if_neg (c := (1 : Int) = 0) (by decide), if_neg (c := (1 : Int) = 0) (by decide), s181, bI_s]
        by_cases h3 : 1 ≤ p ∧ p ≤ 9999
        · rw [bI1_t h3, if_neg (c := (1 : Int) = 0) (by decide), if_neg (show ¬ p < 1 by omega), if_pos h3.2, s164, bI_s, s268, bI_s]
          exact ⟨rfl, _, rfl⟩
        · rw [bI1_f h3, if_pos (c := (0 : Int) = 0) rfl]
          by_cases h4 : p < 1
          · rw [if_pos h4]; exact ⟨rfl, _, rfl⟩
          · rw [if_neg h4, if_neg (show ¬ p ≤ 9999 by omega)]; exact ⟨rfl, _, rfl⟩
      · rw [bI1_f h2, bI1_f (fun z => h2 z.2), if_pos (c := (0 : Int) = 0) rfl, if_pos (c := (0 : Int) = 0) rfl]; exact ⟨rfl, _, rfl⟩
    · rw [bI1_f h1, bI1_f (fun z => h1 z.1), if_pos (c := (0 : Int) = 0) rfl, if_pos (c := (0 : Int) = 0) rfl]; exact ⟨rfl, _, rfl⟩
  obtain ⟨e1, v, e2⟩ := key
  exact ⟨v, M, M, e1.trans e2, e2, hI, rfl⟩
/-- the interest -/
def itr (h l : Int) : Int := (l * h + 99) / 100
theorem itr_b {h l : Int} (hh : 0 ≤ h ∧ h ≤ 20) (hl : 0 ≤ l ∧ l ≤ 9999) : 0 ≤ l * h ∧ l * h ≤ 199980 ∧ 0 ≤ itr h l ∧ itr h l ≤ 2000 := by
  have h1 : 0 ≤ l * h := Int.mul_nonneg hl.1 hh.1
  have h2 : l * h ≤ 9999 * 20 := Int.le_trans (Int.mul_le_mul_of_nonneg_right hl.2 hh.1) (Int.mul_le_mul_of_nonneg_left hh.2 (by decide))
  unfold itr
  omega
theorem itr_m {h l k : Int} (hh : 0 ≤ h) (hlk : l ≤ k) : itr h l ≤ itr h k := by
  have h1 : l * h ≤ k * h := Int.mul_le_mul_of_nonneg_right hlk hh
  unfold itr
  omega
theorem nxt_e {h p l : Int} (hh : 0 ≤ h ∧ h ≤ 20) (hl : 0 ≤ l ∧ l ≤ 9999) (hp : 1 ≤ p ∧ p ≤ 20000) : nxt h p l = l + itr h l - p := by
  obtain ⟨h1, h2, h3, h4⟩ := itr_b hh hl
  have e1 : wr (l * h) = l * h := wr_s (by omega) (by omega)
  have e2 : wr (l * h + 99) = l * h + 99 := wr_s (by omega) (by omega)
  have e3 : (l * h + 99).tdiv 100 = itr h l := Int.tdiv_eq_ediv_of_nonneg (by omega)
  have e4 : wr (itr h l) = itr h l := wr_s (by omega) (by omega)
  have e5 : wr (l + itr h l) = l + itr h l := wr_s (by omega) (by omega)
  unfold nxt
  rw [e1, e2, e3, e4, e5, wr_s (by omega) (by omega)]
theorem mof_ge (h p : Int) : ∀ (n : Nat) (l m : Int), 1 ≤ m → mof h p n l m = -2 ∨ m ≤ mof h p n l m
  | 0, _, _, _ => Or.inl rfl
  | n + 1, l, m, hm => by
    rw [mof_s]
    split
    · split
      · rcases mof_ge h p n (nxt h p l) (m + 1) (by omega) with g | g
        · exact Or.inl g
        · exact Or.inr (by omega)
      · exact Or.inl rfl
    · exact Or.inr (Int.le_refl m)
theorem mof_m {h p q : Int} (hh : 0 ≤ h ∧ h ≤ 20) (hp : 1 ≤ p) (hpq : p ≤ q) (hq : q ≤ 20000) : ∀ (n : Nat) (l k m : Int), 1 ≤ m → 0 ≤ k → k ≤ l → l ≤ 9999 → 1 ≤ mof h p n l m → 1 ≤ mof h q n k m ∧ mof h q n k m ≤ mof h p n l m
  | 0, _, _, _, _, _, _, _, h1 => absurd h1 (by show ¬ (1 : Int) ≤ -2; decide)
  | n + 1, l, k, m, hm, hk, hkl, hl, h1 => by
    have e1 := nxt_e hh (p := p) (l := l) ⟨by omega, hl⟩ ⟨hp, by omega⟩
    have e2 := nxt_e hh (p := q) (l := k) ⟨hk, by omega⟩ ⟨by omega, hq⟩
    have e3 := itr_m hh.1 hkl
    rw [mof_s] at h1
    rw [mof_s, mof_s]
    by_cases g1 : 0 < nxt h p l
    · rw [if_pos g1] at h1 ⊢
      by_cases g2 : nxt h p l < l
      · rw [if_pos g2] at h1 ⊢
        by_cases g3 : 0 < nxt h q k
        · rw [if_pos g3, if_pos (by omega)]
          exact mof_m hh hp hpq hq n _ _ (m + 1) (by omega) (by omega) (by omega) (by omega) h1
        · rw [if_neg g3]
          rcases mof_ge h p n (nxt h p l) (m + 1) (by omega) with g | g
          · omega
          · omega
      · rw [if_neg g2] at h1; omega
    · rw [if_neg g1, if_neg (by omega)]
      exact ⟨hm, Int.le_refl m⟩
theorem lst_n {Q : Int → Prop} (hm : ∀ a b : Int, 1 ≤ a → a ≤ b → b ≤ 20000 → Q a → Q b) : ∀ (n : Nat) (hi : Int), hi = 1 + n → hi ≤ 20000 → Q hi → ∃ t, 1 ≤ t ∧ t ≤ hi ∧ ∀ h, 1 ≤ h → h ≤ 20000 → (Q h ↔ t ≤ h) := by
  intro n
  induction n with
  | zero =>
    intro hi e hb hq
    have e1 : hi = 1 := by omega
    subst e1
    exact ⟨1, Int.le_refl 1, Int.le_refl 1, fun h h1 h2 => ⟨fun _ => h1, fun _ => hm 1 h (Int.le_refl 1) h1 h2 hq⟩⟩
  | succ n ih =>
    intro hi e hb hq
    by_cases g : Q (hi - 1)
    · obtain ⟨t, t1, t2, t3⟩ := ih (hi - 1) (by omega) (by omega) g
      exact ⟨t, t1, by omega, t3⟩
    · refine ⟨hi, by omega, by omega, fun h h1 h2 => ⟨fun hh => ?_, fun hh => hm _ h (by omega) hh h2 hq⟩⟩
      exact Classical.byContradiction fun hn => g (hm h (hi - 1) h1 (by omega) (by omega) hh)
theorem bsF_r {P : Int → Prop} {t : Int} (hP : ∀ h, 1 ≤ h → h ≤ 20000 → (P h ↔ t ≤ h)) : ∀ (n : Nat) (lo hi : Int), hi - lo ≤ n → 1 ≤ lo → hi ≤ 20000 → lo ≤ t → t ≤ hi → bsF P n lo hi = t
  | 0, lo, hi, h1, _, _, h2, h3 => by show lo = t; omega
  | n + 1, lo, hi, h1, a1, a2, h2, h3 => by
    unfold bsF
    by_cases h : hi ≤ lo
    · rw [if_pos h]; omega
    · rw [if_neg h]
      have hh := hP ((lo + hi) / 2) (by omega) (by omega)
      by_cases hp : P ((lo + hi) / 2)
      · rw [@if_pos _ (Classical.propDecidable _) hp]
        have := hh.mp hp
        exact bsF_r hP n _ _ (by omega) a1 (by omega) h2 this
      · rw [@if_neg _ (Classical.propDecidable _) hp]
        have : ¬ t ≤ (lo + hi) / 2 := fun z => hp (hh.mpr z)
        exact bsF_r hP n _ _ (by omega) (by omega) a2 (by omega) h3
theorem c_payment {W : aM → Prop} (x h n : Int) : OK2 W 165 270 [.inl x, .inl h, .inl n] := fun M hI _ => by
  by_cases hx : 1 ≤ x ∧ x ≤ 9999
  · by_cases hh : 0 ≤ h ∧ h ≤ 20
    · by_cases hn : 1 ≤ n ∧ n ≤ 60
      · obtain ⟨b1, b2, b3, b4⟩ := itr_b hh (l := x) ⟨by omega, hx.2⟩
        have ehi : wr (x + (wr ((wr ((wr (x * h)) + 99)).tdiv 100))) = x + itr h x := by
          have e1 : wr (x * h) = x * h := wr_s (by omega) (by omega)
          have e2 : wr (x * h + 99) = x * h + 99 := wr_s (by omega) (by omega)
          have e3 : (x * h + 99).tdiv 100 = itr h x := Int.tdiv_eq_ediv_of_nonneg (by omega)
          have e4 : wr (itr h x) = itr h x := wr_s (by omega) (by omega)
          rw [e1, e2, e3, e4, wr_s (by omega) (by omega)]
        have hix : itr h x ≤ x := by
          have h1 : x * h ≤ x * 20 := Int.mul_le_mul_of_nonneg_left hh.2 (by omega)
          unfold itr
          omega
        obtain ⟨t, t1, t2', t3⟩ := lst_n (Q := fun p => 1 ≤ mof h p 600 x 1 ∧ mof h p 600 x 1 ≤ n) (fun a b ha hab hb hQ => by
          have := mof_m hh ha hab hb 600 x x 1 (by decide) (by omega) (Int.le_refl x) hx.2 hQ.1
          exact ⟨this.1, Int.le_trans this.2 hQ.2⟩) (x + itr h x - 1).toNat (x + itr h x) (by omega) (by omega) (by
          have e := nxt_e hh (p := x + itr h x) (l := x) ⟨by omega, hx.2⟩ ⟨by omega, by omega⟩
          have : mof h (x + itr h x) 600 x 1 = 1 := by rw [mof_s, if_neg (by omega)]
          rw [this]
          exact ⟨by decide, hn.1⟩)
        obtain ⟨s1, j1, c1⟩ := bs_run (fun lo hi (s : aV × aV) => run 1 165 37 [.inr (some 1), .inl x, .inl h, .inl n, .inl lo, .inl hi, s.1, s.2] [] M) (fun _ => True) (fun p => 1 ≤ mof h p 600 x 1 ∧ mof h p 600 x 1 ≤ n) (fun v _ => some (some (.inl v), M)) 20000 (by decide) (fun lo hi s hJ g => by
          rw [B_165_37, if_pos g]) (fun lo hi s hJ h0 h1 h2 => by
          obtain ⟨k1, k2, k3, k4⟩ := half h0 h1 h2
          refine ⟨(.inl ((lo + hi) / 2), .inl (mof h ((lo + hi) / 2) 600 x 1)), trivial, ?_⟩
          rw [B_165_37, if_neg (by omega), k1, s164, bI_s, k2]
          by_cases g1 : mof h ((lo + hi) / 2) 600 x 1 < 1
          · rw [if_pos g1, @if_neg _ (Classical.propDecidable _) (fun z => absurd z.1 (by omega))]
          · rw [if_neg g1]
            by_cases g2 : n < mof h ((lo + hi) / 2) 600 x 1
            · rw [if_pos g2, @if_neg _ (Classical.propDecidable _) (fun z => absurd z.2 (by omega))]
            · rw [if_neg g2, @if_pos _ (Classical.propDecidable _) ⟨by omega, by omega⟩]) 20000 1 (x + itr h x) (.inr none, .inr none) trivial (by decide) (by omega) (by omega)
        obtain ⟨s2, j2, c2⟩ := bs_run (fun lo hi (s : aV × aV) => run 1 270 41 [.inr (some 53), .inl x, .inl h, .inl n, .inl lo, .inl hi, s.1, s.2] [] M) (fun _ => True) (fun p => 1 ≤ mof h p 600 x 1 ∧ mof h p 600 x 1 ≤ n) (fun v _ => some (some (.inl v), M)) 20000 (by decide) (fun lo hi s hJ g => by
          rw [B_270_41, if_pos g]) (fun lo hi s hJ h0 h1 h2 => by
          obtain ⟨k1, k2, k3, k4⟩ := half h0 h1 h2
          have hg := mof_ge h ((lo + hi) / 2) 600 x 1 (by decide)
          refine ⟨(.inl ((lo + hi) / 2), .inl (mof h ((lo + hi) / 2) 600 x 1)), trivial, ?_⟩
          rw [B_270_41, if_neg (by omega), k1, s268, bI_s, k2]
          by_cases g1 : mof h ((lo + hi) / 2) 600 x 1 = -2
          · rw [if_pos g1, @if_neg _ (Classical.propDecidable _) (fun z => absurd z.1 (by omega))]
          · rw [if_neg g1]
            by_cases g2 : n < mof h ((lo + hi) / 2) 600 x 1
            · rw [if_pos g2, @if_neg _ (Classical.propDecidable _) (fun z => absurd z.2 (by omega))]
            · rw [if_neg g2, @if_pos _ (Classical.propDecidable _) ⟨by omega, by omega⟩]) 20000 1 (2 * x) (.inr none, .inr none) trivial (by decide) (by omega) (by omega)
        rw [bsF_r t3 20000 1 _ (by omega) (by decide) (by omega) t1 t2'] at c1
        rw [bsF_r t3 20000 1 _ (by omega) (by decide) (by omega) t1 (by omega)] at c2
        refine ⟨t, M, M, ?_, ?_, hI, rfl⟩
        · rw [E_165, s163, bI_s, bI1_t ⟨hx, hh⟩, if_neg (by decide), if_neg (by omega), if_pos hn.2, ehi]
          exact c1
        · rw [E_270, s181, bI_s, bI1_t hx, if_neg (by decide), s181, bI_s, bI1_t hh, if_neg (by decide), s181, bI_s, bI1_t hn, if_neg (by decide), wr_s (by omega) (by omega)]
          exact c2
      · refine ⟨-1, M, M, ?_, ?_, hI, rfl⟩
        · rw [E_165, s163, bI_s, bI1_t ⟨hx, hh⟩, if_neg (by decide)]
          by_cases g : n < 1
          · rw [if_pos g]
          · rw [if_neg g, if_neg (by omega)]
        · rw [E_270, s181, bI_s, bI1_t hx, if_neg (by decide), s181, bI_s, bI1_t hh, if_neg (by decide), s181, bI_s, bI1_f hn, if_pos rfl]
    · refine ⟨-1, M, M, ?_, ?_, hI, rfl⟩
      · rw [E_165, s163, bI_s, bI1_f (fun z => hh z.2), if_pos rfl]
      · rw [E_270, s181, bI_s, bI1_t hx, if_neg (by decide), s181, bI_s, bI1_f hh, if_pos rfl]
  · refine ⟨-1, M, M, ?_, ?_, hI, rfl⟩
    · rw [E_165, s163, bI_s, bI1_f (fun z => hx z.1), if_pos rfl]
    · rw [E_270, s181, bI_s, bI1_f hx, if_pos rfl]
