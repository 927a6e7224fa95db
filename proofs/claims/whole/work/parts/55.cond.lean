/-! Conditions: the abstract reader, and the class's. -/
section CND
def emL2 (s : PS) (c k : Int) : PS := (s.1, tset (tset s.2.1 s.2.2.1 c) (s.2.2.1 + 1) 0, s.2.2.1 + 2, tset s.2.2.2.1 s.2.2.2.2 (1048576 * k), s.2.2.2.2 + 1)
def land (s : PS) (la lb : Nat) (k : Int) : PS := (s.1, tset s.2.1 la (s.2.2.1 : Int), s.2.2.1, tset s.2.2.2.1 lb (1048576 * k + (s.2.2.2.2 : Int)), s.2.2.2.2)
/- 0 a test, 1 a part, 2 its rest, 3 a condition, 4 its rest -/
def pC (f : Nat → Int) : Nat → Nat → Nat → PS → RES
  | 0, _, _, _ => none
  | n + 1, 0, o, s => if f s.1 = 33 ∨ f s.1 = 40 then (if 6 ≤ o then some (.inl (flt 5 s.1)) else if f s.1 = 40 then bnd (pC f n 3 (o + 1) (adv s)) (clo f 41) else bnd (pC f n 0 (o + 1) (adv s)) (fun t => some (.inr (em1 t 33 (1048576 * 10))))) else bnd (pS f n 3 o s) (fun t => if f t.1 = 60 ∨ f t.1 = 62 ∨ f t.1 = 61 then bnd (pS f n 3 o (adv t)) (fun u => some (.inr (em1 u (f t.1) (1048576 * opO (f t.1))))) else some (.inl (flt 1 t.1)))
  | n + 1, 1, o, s => bnd (pC f n 0 o s) (fun t => pC f n 2 o t)
  | n + 1, 2, o, s => if f s.1 = 38 then bnd (pC f n 0 o (emL2 (adv s) 38 11)) (fun t => pC f n 2 o (land t (s.2.2.1 + 1) s.2.2.2.2 11)) else some (.inr s)
  | n + 1, 3, o, s => bnd (pC f n 1 o s) (fun t => pC f n 4 o t)
  | n + 1, _, o, s => if f s.1 = 124 then bnd (pC f n 1 o (emL2 (adv s) 124 12)) (fun t => pC f n 4 o (land t (s.2.2.1 + 1) s.2.2.2.2 12)) else some (.inr s)
set_option maxHeartbeats 400000 in
theorem pC_0 (f : Nat → Int) (n o : Nat) (s : PS) : pC f (n + 1) 0 o s = if f s.1 = 33 ∨ f s.1 = 40 then (if 6 ≤ o then some (.inl (flt 5 s.1)) else if f s.1 = 40 then bnd (pC f n 3 (o + 1) (adv s)) (clo f 41) else bnd (pC f n 0 (o + 1) (adv s)) (fun t => some (.inr (em1 t 33 (1048576 * 10))))) else bnd (pS f n 3 o s) (fun t => if f t.1 = 60 ∨ f t.1 = 62 ∨ f t.1 = 61 then bnd (pS f n 3 o (adv t)) (fun u => some (.inr (em1 u (f t.1) (1048576 * opO (f t.1))))) else some (.inl (flt 1 t.1))) := rfl
set_option maxHeartbeats 400000 in
theorem pC_1 (f : Nat → Int) (n o : Nat) (s : PS) : pC f (n + 1) 1 o s = bnd (pC f n 0 o s) (fun t => pC f n 2 o t) := rfl
set_option maxHeartbeats 400000 in
theorem pC_2 (f : Nat → Int) (n o : Nat) (s : PS) : pC f (n + 1) 2 o s = if f s.1 = 38 then bnd (pC f n 0 o (emL2 (adv s) 38 11)) (fun t => pC f n 2 o (land t (s.2.2.1 + 1) s.2.2.2.2 11)) else some (.inr s) := rfl
set_option maxHeartbeats 400000 in
theorem pC_3 (f : Nat → Int) (n o : Nat) (s : PS) : pC f (n + 1) 3 o s = bnd (pC f n 1 o s) (fun t => pC f n 4 o t) := rfl
set_option maxHeartbeats 400000 in
theorem pC_4 (f : Nat → Int) (n o : Nat) (s : PS) : pC f (n + 1) 4 o s = if f s.1 = 124 then bnd (pC f n 1 o (emL2 (adv s) 124 12)) (fun t => pC f n 4 o (land t (s.2.2.1 + 1) s.2.2.2.2 12)) else some (.inr s) := rfl
section
variable {f : Nat → Int} {N : Nat}
set_option maxHeartbeats 400000 in
theorem GR.lk {s : PS} {c k : Int} (h : s.1 < N) : GR N s (emL2 (adv s) c k) := by
  unfold GR emL2 adv
  dsimp only
  omega
set_option maxHeartbeats 400000 in
theorem GR.ld {s t : PS} {la lb : Nat} {k : Int} (h : GR N s t) : GR N s (land t la lb k) := h
set_option maxHeartbeats 400000 in
theorem pC_gr (hf : FT f N) : ∀ (n md o : Nat) (s t : PS), s.1 ≤ N → pC f n md o s = some (.inr t) → GR N s t := by
  intro n
  induction n with
  | zero => intro md o s t _ h; cases h
  | succ n ih =>
    intro md o s t hs h
    match md, h with
    | 0, h =>
      rw [pC_0] at h
      by_cases g1 : f s.1 = 33 ∨ f s.1 = 40
      · rw [if_pos g1] at h
        have hp : s.1 < N := p240 hf (by omega)
        by_cases g2 : 6 ≤ o
        · rw [if_pos g2] at h; cases h
        · rw [if_neg g2] at h
          by_cases g3 : f s.1 = 40
          · rw [if_pos g3] at h
            obtain ⟨u, h1, h2⟩ := bnd_r h
            have i1 := ih 3 (o + 1) (adv s) u (by show s.1 + 1 ≤ N; omega) h1
            obtain ⟨-, rfl, hu⟩ := clo_r hf (by decide) h2
            unfold GR adv at *
            dsimp only at *
            omega
          · rw [if_neg g3] at h
            obtain ⟨u, h1, h2⟩ := bnd_r h
            have i1 := ih 0 (o + 1) (adv s) u (by show s.1 + 1 ≤ N; omega) h1
            injection h2 with h2
            injection h2 with h2
            rw [← h2]
            exact i1.op
      · rw [if_neg g1] at h
        obtain ⟨u, h1, h2⟩ := bnd_r h
        have i1 := pS_gr hf n 3 o s u hs h1
        by_cases g2 : f u.1 = 60 ∨ f u.1 = 62 ∨ f u.1 = 61
        · rw [if_pos g2] at h2
          have hp : u.1 < N := p240 hf (by omega)
          obtain ⟨w, h3, h4⟩ := bnd_r h2
          have i2 := pS_gr hf n 3 o (adv u) w (by show u.1 + 1 ≤ N; omega) h3
          injection h4 with h4
          injection h4 with h4
          rw [← h4]
          exact i1.tr i2.op
        · rw [if_neg g2] at h2; cases h2
    | 1, h =>
      rw [pC_1] at h
      obtain ⟨u, h1, h2⟩ := bnd_r h
      have i1 := ih 0 o s u hs h1
      exact i1.tr (ih 2 o u t i1.2.1 h2)
    | 2, h =>
      rw [pC_2] at h
      by_cases g : f s.1 = 38
      · rw [if_pos g] at h
        have hp : s.1 < N := p240 hf (by omega)
        obtain ⟨u, h1, h2⟩ := bnd_r h
        have i1 := ih 0 o _ u (by show s.1 + 1 ≤ N; omega) h1
        have i2 := ((GR.lk (c := 38) (k := 11) hp).tr i1).ld (la := s.2.2.1 + 1) (lb := s.2.2.2.2) (k := 11)
        exact i2.tr (ih 2 o _ t i2.2.1 h2)
      · rw [if_neg g] at h
        injection h with h
        injection h with h
        rw [← h]; exact GR.rf hs
    | 3, h =>
      rw [pC_3] at h
      obtain ⟨u, h1, h2⟩ := bnd_r h
      have i1 := ih 1 o s u hs h1
      exact i1.tr (ih 4 o u t i1.2.1 h2)
    | md + 4, h =>
      have h' : (if f s.1 = 124 then bnd (pC f n 1 o (emL2 (adv s) 124 12)) (fun t => pC f n 4 o (land t (s.2.2.1 + 1) s.2.2.2.2 12)) else some (.inr s)) = some (.inr t) := h
      by_cases g : f s.1 = 124
      · rw [if_pos g] at h'
        have hp : s.1 < N := p240 hf (by omega)
        obtain ⟨u, h1, h2⟩ := bnd_r h'
        have i1 := ih 1 o _ u (by show s.1 + 1 ≤ N; omega) h1
        have i2 := ((GR.lk (c := 124) (k := 12) hp).tr i1).ld (la := s.2.2.1 + 1) (lb := s.2.2.2.2) (k := 12)
        exact i2.tr (ih 4 o _ t i2.2.1 h2)
      · rw [if_neg g] at h'
        injection h' with h'
        injection h' with h'
        rw [← h']; exact GR.rf hs
def fuC (md : Nat) : Nat := if md = 0 then 4 else if md = 1 then 5 else if md = 3 then 6 else 1
set_option maxHeartbeats 400000 in
theorem pC_tot (hf : FT f N) : ∀ (n md o : Nat) (s : PS), md ≤ 4 → s.1 ≤ N → 10 * (N - s.1) + fuC md ≤ n → pC f n md o s ≠ none := by
  intro n
  induction n with
  | zero => intro md o s _ _ h; unfold fuC at h; split at h <;> (try split at h) <;> (try split at h) <;> omega
  | succ n ih =>
    intro md o s hm hs h
    match md, hm, h with
    | 0, _, h =>
      have h' : 10 * (N - s.1) + 4 ≤ n + 1 := h
      rw [pC_0]
      by_cases g1 : f s.1 = 33 ∨ f s.1 = 40
      · rw [if_pos g1]
        have hp : s.1 < N := p240 hf (by omega)
        by_cases g2 : 6 ≤ o
        · rw [if_pos g2]; intro z; cases z
        · rw [if_neg g2]
          by_cases g3 : f s.1 = 40
          · rw [if_pos g3]
            refine bnd_n (ih 3 (o + 1) (adv s) (by decide) (by show s.1 + 1 ≤ N; omega) (by show 10 * (N - (s.1 + 1)) + 6 ≤ n; omega)) (fun u hu => ?_)
            unfold clo
            split <;> (intro z; cases z)
          · rw [if_neg g3]
            exact bnd_n (ih 0 (o + 1) (adv s) (by decide) (by show s.1 + 1 ≤ N; omega) (by show 10 * (N - (s.1 + 1)) + 4 ≤ n; omega)) (fun u hu z => by cases z)
      · rw [if_neg g1]
        refine bnd_n (pS_tot hf n 3 o s (by decide) hs (by show 10 * (N - s.1) + 3 ≤ n; omega)) (fun u hu => ?_)
        have g := pS_gr hf n 3 o s u hs hu
        by_cases g2 : f u.1 = 60 ∨ f u.1 = 62 ∨ f u.1 = 61
        · rw [if_pos g2]
          have hp : u.1 < N := p240 hf (by omega)
          exact bnd_n (pS_tot hf n 3 o (adv u) (by decide) (by show u.1 + 1 ≤ N; omega) (by have := g.1; show 10 * (N - (u.1 + 1)) + 3 ≤ n; omega)) (fun u hu z => by cases z)
        · rw [if_neg g2]; intro z; cases z
    | 1, _, h =>
      have h' : 10 * (N - s.1) + 5 ≤ n + 1 := h
      rw [pC_1]
      refine bnd_n (ih 0 o s (by decide) hs (by show 10 * (N - s.1) + 4 ≤ n; omega)) (fun u hu => ?_)
      have g := pC_gr hf n 0 o s u hs hu
      exact ih 2 o u (by decide) g.2.1 (by have := g.1; show 10 * (N - u.1) + 1 ≤ n; omega)
    | 2, _, h =>
      have h' : 10 * (N - s.1) + 1 ≤ n + 1 := h
      rw [pC_2]
      by_cases g : f s.1 = 38
      · rw [if_pos g]
        have hp : s.1 < N := p240 hf (by omega)
        refine bnd_n (ih 0 o _ (by decide) (by show s.1 + 1 ≤ N; omega) (by show 10 * (N - (s.1 + 1)) + 4 ≤ n; omega)) (fun u hu => ?_)
        have g := pC_gr hf n 0 o _ u (by show s.1 + 1 ≤ N; omega) hu
        have g1 : s.1 + 1 ≤ u.1 := g.1
        exact ih 2 o _ (by decide) g.2.1 (by show 10 * (N - u.1) + 1 ≤ n; omega)
      · rw [if_neg g]; intro z; cases z
    | 3, _, h =>
      have h' : 10 * (N - s.1) + 6 ≤ n + 1 := h
      rw [pC_3]
      refine bnd_n (ih 1 o s (by decide) hs (by show 10 * (N - s.1) + 5 ≤ n; omega)) (fun u hu => ?_)
      have g := pC_gr hf n 1 o s u hs hu
      exact ih 4 o u (by decide) g.2.1 (by have := g.1; show 10 * (N - u.1) + 1 ≤ n; omega)
    | 4, _, h =>
      have h' : 10 * (N - s.1) + 1 ≤ n + 1 := h
      rw [pC_4]
      by_cases g : f s.1 = 124
      · rw [if_pos g]
        have hp : s.1 < N := p240 hf (by omega)
        refine bnd_n (ih 1 o _ (by decide) (by show s.1 + 1 ≤ N; omega) (by show 10 * (N - (s.1 + 1)) + 5 ≤ n; omega)) (fun u hu => ?_)
        have g := pC_gr hf n 1 o _ u (by show s.1 + 1 ≤ N; omega) hu
        have g1 : s.1 + 1 ≤ u.1 := g.1
        exact ih 4 o _ (by decide) g.2.1 (by show 10 * (N - u.1) + 1 ≤ n; omega)
      · rw [if_neg g]; intro z; cases z
set_option maxHeartbeats 400000 in
theorem rk57 (o : Nat) (c : Int) : rkF 57 [.inr (some 17), .inr (some 2), .inl c, .inl (o : Int)] = 6 + 8 * (7 - o) := by rw [rk_57]; rfl
set_option maxHeartbeats 400000 in
theorem rk56 (o : Nat) : rkF 56 [.inr (some 17), .inr (some 2), .inl (o : Int)] = 7 + 8 * (7 - o) := by rw [rk_56]; rfl
set_option maxHeartbeats 400000 in
theorem rk54 (o : Nat) : rkF 54 [.inr (some 17), .inr (some 2), .inl (o : Int)] = 8 + 8 * (7 - o) := by rw [rk_54]; rfl
set_option maxHeartbeats 400000 in
theorem rk53 (o : Nat) : rkF 53 [.inr (some 17), .inr (some 2), .inl (o : Int)] = 9 + 8 * (7 - o) := by rw [rk_53]; rfl
/- a link is begun and told -/
def lk1 (M : aM) (p a : Nat) (c : Int) : aM := ad1 (ad1 (upM M 2 3 ((p + 1 : Nat) : Int)) a c) (a + 1) 0
set_option maxHeartbeats 400000 in
theorem s55 {M : aM} {s : PS} (hM : relC f N M s) (hp : s.1 < 900) (ha : s.2.2.1 + 2 ≤ 480) (c : Int) : fnA 55 [.inr (some 17), .inr (some 2), .inl c] M = some (some (.inl ((s.2.2.1 + 1 : Nat) : Int)), lk1 M s.1 s.2.2.1 c) := by
  have h6 : upM M 2 3 ((s.1 + 1 : Nat) : Int) 18 6 = (s.2.2.1 : Int) := by rw [up_o (by decide)]; exact hM.2.1
  rw [E_55, s102 (p := s.1) (by omega) hM.1.2.1, bV_s, s47 (by omega) h6, bV_s, s47 (a := s.2.2.1 + 1) (by omega) (ad1_6 _ _ _), bV_s, ad1_6, wm1 (by omega)]
  rfl
set_option maxHeartbeats 400000 in
theorem relClk {M : aM} {s : PS} (hM : relC f N M s) (c k : Int) : relC f N (lk1 M s.1 s.2.2.1 c) (emL2 (adv s) c k) := by
  have h := hM.adv
  refine ⟨(h.1.ad _ _).ad _ _, ad1_6 _ _ _, ?_⟩
  unfold lk1
  rw [ad1_23, ad1_23, h.2.2]
  rfl
set_option maxHeartbeats 400000 in
theorem CFc.lk {M : aM} (p a : Nat) (c : Int) : CFc M (lk1 M p a c) := ((CFc.rf.u2 (by omega)).ad).ad
set_option maxHeartbeats 400000 in
theorem s48 {M : aM} {j : Nat} (hj : j < 480) (x : Int) : fnA 48 [.inr (some 18), .inl (j : Int), .inl x] M = some (none, upM M 23 j x) := by
  rw [E_48 _ _ _ _ (Or.inl rfl), if_neg (by omega), if_neg (by omega), if_pos (by omega), Int.toNat_natCast]
set_option maxHeartbeats 400000 in
theorem relC.ld {M : aM} {t : PS} (h : relC f N M t) (la lb : Nat) (k : Int) : relC f N (upM M 23 la (t.2.2.1 : Int)) (land t la lb k) := ⟨h.1.o (by decide), by rw [up_o (by decide)]; exact h.2.1, by rw [up_q, h.2.2]; rfl⟩
set_option maxHeartbeats 400000 in
theorem cC (hf : FT f N) : ∀ (n md o : Nat) (s : PS) (r : Int ⊕ PS) (M : aM), md ≤ 4 → o ≤ 6 → s.1 ≤ N → s.2.2.1 ≤ 2 * s.1 → pC f n md o s = some r → relC f N M s → (md = 0 → cOut f N M r (fnA 56 [.inr (some 17), .inr (some 2), .inl (o : Int)] M)) ∧ (md = 1 → cOut f N M r (fnA 54 [.inr (some 17), .inr (some 2), .inl (o : Int)] M)) ∧ (md = 2 → ∀ (i : Nat) (v : aV), i ≤ s.1 → cOut f N M r (run (8 + 8 * (7 - o)) 54 13 [.inr (some 17), .inr (some 2), .inl (o : Int), .inl (i : Int), v] [] M)) ∧ (md = 3 → cOut f N M r (fnA 53 [.inr (some 17), .inr (some 2), .inl (o : Int)] M)) ∧ (md = 4 → ∀ (i : Nat) (v : aV), i ≤ s.1 → cOut f N M r (run (9 + 8 * (7 - o)) 53 13 [.inr (some 17), .inr (some 2), .inl (o : Int), .inl (i : Int), v] [] M)) := by
  have hN := hf.1
  intro n
  induction n with
  | zero => intro md o s r M _ _ _ _ h; cases h
  | succ n ih =>
    intro md o s r M hmd ho hs ha h hM
    match md, hmd, h with
    | 0, _, h =>
      refine ⟨fun _ => ?_, fun z => absurd z (by decide), fun z => absurd z (by decide), fun z => absurd z (by decide), fun z => absurd z (by decide)⟩
      rw [pC_0] at h
      have hr : 3 ≤ 7 + 8 * (7 - o) := by omega
      have hrk7 : 6 + 8 * (7 - o) < 7 + 8 * (7 - o) := by omega
      have hrk8 : 5 + 8 * (7 - o) < 7 + 8 * (7 - o) := by omega
      rw [E_56, Int.toNat_natCast, B_56_0 hr, s101 hf hM.1, bI_s]
      by_cases g1 : f s.1 = 33 ∨ f s.1 = 40
      · rw [if_pos g1] at h
        have hp : s.1 < N := p240 hf (by omega)
        have hr7 : 3 ≤ 6 + 8 * (7 - o) := by omega
        have e57 : (if f s.1 = 33 then run (7 + 8 * (7 - o)) 56 17 [.inr (some 17), .inr (some 2), .inl (o : Int), .inl (f s.1), .inr none] [] M else if f s.1 = 40 then run (7 + 8 * (7 - o)) 56 17 [.inr (some 17), .inr (some 2), .inl (o : Int), .inl (f s.1), .inr none] [] M else if rkF 58 [.inr (some 17), .inr (some 2), .inl (o : Int)] < 7 + 8 * (7 - o) then bI (fnA 58 [.inr (some 17), .inr (some 2), .inl (o : Int)] M) fun w2 M2 => if w2 = 0 then some (some (.inl 0), M2) else bI (fnA 101 [.inr (some 2)] M2) fun w3 M3 => if w3 = 60 then run (7 + 8 * (7 - o)) 56 69 [.inr (some 17), .inr (some 2), .inl (o : Int), .inl (f s.1), .inl w3] [] M3 else if w3 = 62 then run (7 + 8 * (7 - o)) 56 69 [.inr (some 17), .inr (some 2), .inl (o : Int), .inl (f s.1), .inl w3] [] M3 else if w3 = 61 then run (7 + 8 * (7 - o)) 56 69 [.inr (some 17), .inr (some 2), .inl (o : Int), .inl (f s.1), .inl w3] [] M3 else bI (fnA 103 [.inr (some 2), .inl 1] M3) fun w4 M4 => if w4 = 0 ∨ w4 = 1 then some (some (.inl w4), M4) else none else none) = bI (fnA 57 [.inr (some 17), .inr (some 2), .inl (f s.1), .inl (o : Int)] M) fun w1 M1 => if w1 = 0 ∨ w1 = 1 then some (some (.inl w1), M1) else none := by
          have e1 : run (7 + 8 * (7 - o)) 56 17 [.inr (some 17), .inr (some 2), .inl (o : Int), .inl (f s.1), .inr none] [] M = bI (fnA 57 [.inr (some 17), .inr (some 2), .inl (f s.1), .inl (o : Int)] M) fun w1 M1 => if w1 = 0 ∨ w1 = 1 then some (some (.inl w1), M1) else none := by
            rw [B_56_17 hr, rk57, if_pos hrk7]
          by_cases g : f s.1 = 33
          · rw [if_pos g]; exact e1
          · rw [if_neg g, if_pos (g1.resolve_left g)]; exact e1
        rw [e57]
        have fin : cOut f N M r (fnA 57 [.inr (some 17), .inr (some 2), .inl (f s.1), .inl (o : Int)] M) → cOut f N M r (bI (fnA 57 [.inr (some 17), .inr (some 2), .inl (f s.1), .inl (o : Int)] M) fun w1 M1 => if w1 = 0 ∨ w1 = 1 then some (some (.inl w1), M1) else none) := fun z => by
          rcases r with x | t
          · obtain ⟨M', z1, z2, z3⟩ := z
            exact ⟨M', by rw [z1, bI_s, if_pos (Or.inl rfl)], z2, z3⟩
          · obtain ⟨M', z1, z2, z3⟩ := z
            exact ⟨M', by rw [z1, bI_s, if_pos (Or.inr rfl)], z2, z3⟩
        refine fin ?_
        rw [E_57, Int.toNat_natCast, B_57_0 hr7]
        by_cases g2 : 6 ≤ o
        · rw [if_pos g2] at h
          injection h with h
          subst h
          have h5 := cfail (k := 5) (p := s.1) (by decide) (by omega) hM.1.2.1
          rw [if_neg (by omega)]
          exact ⟨_, h5, up_s, CFc.rf.u2 (by omega)⟩
        rw [if_neg g2] at h
        have hM1 := hM.adv
        have wo1 : wr ((o : Int) + 1) = ((o + 1 : Nat) : Int) := w1p (by omega)
        rw [if_pos (by omega), s102 (p := s.1) (by omega) hM.1.2.1, bV_s, wo1]
        by_cases g3 : f s.1 = 40
        · rw [if_pos g3] at h
          have hrk : 9 + 8 * (7 - (o + 1)) < 6 + 8 * (7 - o) := by omega
          rw [if_pos g3, rk53, if_pos hrk]
          have ih3 := fun r h => (ih 3 (o + 1) (adv s) r _ (by decide) (by omega) (by show s.1 + 1 ≤ N; omega) (by show s.2.2.1 ≤ 2 * (s.1 + 1); omega) h hM1).2.2.2.1 rfl
          rcases bnd_o h with ⟨e, h1, rfl⟩ | ⟨u, h1, h2⟩
          · obtain ⟨M', c1, c2, c3⟩ := ih3 _ h1
            exact ⟨M', by rw [c1, bI_s, if_pos rfl], c2, (CFc.rf.u2 (by omega)).tr c3⟩
          · obtain ⟨M', c1, c2, c3⟩ := ih3 _ h1
            have hg := pC_gr hf n 3 (o + 1) (adv s) u (by show s.1 + 1 ≤ N; omega) h1
            have hu := hg.2.1
            rw [c1, bI_s, if_neg (by decide), s105 hf c2.1 (by omega)]
            unfold clo at h2
            by_cases g4 : f u.1 = 41
            · rw [if_pos g4] at h2
              injection h2 with h2
              subst h2
              rw [if_pos g4, bI_s, if_neg (by decide)]
              exact ⟨_, rfl, c2.adv, ((CFc.rf.u2 (by omega)).tr c3).u2 (by omega)⟩
            · rw [if_neg g4] at h2
              injection h2 with h2
              subst h2
              rw [if_neg g4, bI_s, if_pos rfl]
              exact ⟨_, rfl, up_s, ((CFc.rf.u2 (by omega)).tr c3).u2 (by omega)⟩
        · rw [if_neg g3] at h
          have hrk : 7 + 8 * (7 - (o + 1)) < 6 + 8 * (7 - o) := by omega
          rw [if_neg g3, rk56, if_pos hrk]
          have ih0 := fun r h => (ih 0 (o + 1) (adv s) r _ (by decide) (by omega) (by show s.1 + 1 ≤ N; omega) (by show s.2.2.1 ≤ 2 * (s.1 + 1); omega) h hM1).1 rfl
          rcases bnd_o h with ⟨e, h1, rfl⟩ | ⟨u, h1, h2⟩
          · obtain ⟨M', c1, c2, c3⟩ := ih0 _ h1
            exact ⟨M', by rw [c1, bI_s, if_pos rfl], c2, (CFc.rf.u2 (by omega)).tr c3⟩
          · obtain ⟨M', c1, c2, c3⟩ := ih0 _ h1
            have hg := pC_gr hf n 0 (o + 1) (adv s) u (by show s.1 + 1 ≤ N; omega) h1
            have hau : u.2.2.1 + 2 ≤ 2 * u.1 := by
              have hg3 : u.2.2.1 + 2 * (s.1 + 1) ≤ s.2.2.1 + 2 * u.1 := hg.2.2.1
              omega
            have hu := hg.2.1
            injection h2 with h2
            subst h2
            rw [c1, bI_s, if_neg (by decide), s47 (a := u.2.2.1) (by omega) c2.2.1, bV_s]
            exact ⟨_, rfl, c2.op _ _, ((CFc.rf.u2 (by omega)).tr c3).ad⟩
      · rw [if_neg g1] at h
        rw [if_neg (fun z => g1 (Or.inl z)), if_neg (fun z => g1 (Or.inr z)), rk58, if_pos hrk8]
        rcases bnd_o h with ⟨e, h1, rfl⟩ | ⟨u, h1, h2⟩
        · obtain ⟨M', c1, c2, c3⟩ := (cS hf n 3 o s _ M (by decide) ho hs ha h1 hM).2.2.2.1 rfl
          exact ⟨M', by rw [c1, bI_s, if_pos rfl], c2, c3⟩
        obtain ⟨M1, c1, c2, c3⟩ := (cS hf n 3 o s _ M (by decide) ho hs ha h1 hM).2.2.2.1 rfl
        have hg := pS_gr hf n 3 o s u hs h1
        have hau : u.2.2.1 ≤ 2 * u.1 := by unfold GR at hg; omega
        have huN := hg.2.1
        rw [c1, bI_s, if_neg (by decide), s101 hf c2.1, bI_s]
        by_cases g2 : f u.1 = 60 ∨ f u.1 = 62 ∨ f u.1 = 61
        · rw [if_pos g2] at h2
          have hp : u.1 < N := p240 hf (by omega)
          have hM1 := c2.adv
          have e69 : (if f u.1 = 60 then run (7 + 8 * (7 - o)) 56 69 [.inr (some 17), .inr (some 2), .inl (o : Int), .inl (f s.1), .inl (f u.1)] [] M1 else if f u.1 = 62 then run (7 + 8 * (7 - o)) 56 69 [.inr (some 17), .inr (some 2), .inl (o : Int), .inl (f s.1), .inl (f u.1)] [] M1 else if f u.1 = 61 then run (7 + 8 * (7 - o)) 56 69 [.inr (some 17), .inr (some 2), .inl (o : Int), .inl (f s.1), .inl (f u.1)] [] M1 else bI (fnA 103 [.inr (some 2), .inl 1] M1) fun w4 M4 => if w4 = 0 ∨ w4 = 1 then some (some (.inl w4), M4) else none) = bI (fnA 58 [.inr (some 17), .inr (some 2), .inl (o : Int)] (upM M1 2 3 ((u.1 + 1 : Nat) : Int))) fun w2 M2 => if w2 = 0 then some (some (.inl 0), M2) else bV (fnA 47 [.inr (some 18), .inl (f u.1)] M2) fun M3 => some (some (.inl 1), M3) := by
            have e1 : run (7 + 8 * (7 - o)) 56 69 [.inr (some 17), .inr (some 2), .inl (o : Int), .inl (f s.1), .inl (f u.1)] [] M1 = bI (fnA 58 [.inr (some 17), .inr (some 2), .inl (o : Int)] (upM M1 2 3 ((u.1 + 1 : Nat) : Int))) fun w2 M2 => if w2 = 0 then some (some (.inl 0), M2) else bV (fnA 47 [.inr (some 18), .inl (f u.1)] M2) fun M3 => some (some (.inl 1), M3) := by
              rw [B_56_69 hr, s102 (p := u.1) (by omega) c2.1.2.1, bV_s, rk58, if_pos hrk8]
            by_cases g : f u.1 = 60
            · rw [if_pos g]; exact e1
            · rw [if_neg g]
              by_cases g' : f u.1 = 62
              · rw [if_pos g']; exact e1
              · rw [if_neg g', if_pos ((g2.resolve_left g).resolve_left g')]; exact e1
          rw [e69]
          rcases bnd_o h2 with ⟨e, h3, rfl⟩ | ⟨w, h3, h4⟩
          · obtain ⟨M', d1, d2, d3⟩ := (cS hf n 3 o (adv u) _ _ (by decide) ho (by show u.1 + 1 ≤ N; omega) (by show u.2.2.1 ≤ 2 * (u.1 + 1); omega) h3 hM1).2.2.2.1 rfl
            exact ⟨M', by rw [d1, bI_s, if_pos rfl], d2, (c3.u2 (by omega)).tr d3⟩
          · obtain ⟨M', d1, d2, d3⟩ := (cS hf n 3 o (adv u) _ _ (by decide) ho (by show u.1 + 1 ≤ N; omega) (by show u.2.2.1 ≤ 2 * (u.1 + 1); omega) h3 hM1).2.2.2.1 rfl
            have hg2 := pS_gr hf n 3 o (adv u) w (by show u.1 + 1 ≤ N; omega) h3
            have haw : w.2.2.1 + 2 ≤ 2 * w.1 := by
              have hg3 : w.2.2.1 + 2 * (u.1 + 1) ≤ u.2.2.1 + 2 * w.1 := hg2.2.2.1
              omega
            have hwN := hg2.2.1
            injection h4 with h4
            subst h4
            rw [d1, bI_s, if_neg (by decide), s47 (a := w.2.2.1) (by omega) d2.2.1, bV_s]
            exact ⟨_, rfl, d2.op _ _, ((c3.u2 (by omega)).tr d3).ad⟩
        · rw [if_neg g2] at h2
          injection h2 with h2
          subst h2
          have h1' := cfail (k := 1) (p := u.1) (by decide) (by omega) c2.1.2.1
          rw [if_neg (fun z => g2 (Or.inl z)), if_neg (fun z => g2 (Or.inr (Or.inl z))), if_neg (fun z => g2 (Or.inr (Or.inr z)))]
          exact ⟨_, h1', up_s, c3.u2 (by omega)⟩
    | 1, _, h =>
      refine ⟨fun z => absurd z (by decide), fun _ => ?_, fun z => absurd z (by decide), fun z => absurd z (by decide), fun z => absurd z (by decide)⟩
      rw [pC_1] at h
      have hr : 3 ≤ 8 + 8 * (7 - o) := by omega
      have hrk : 7 + 8 * (7 - o) < 8 + 8 * (7 - o) := by omega
      rw [E_54, Int.toNat_natCast, B_54_0 hr, rk56, if_pos hrk]
      have ih0 := fun r h => (ih 0 o s r M (by decide) ho hs ha h hM).1 rfl
      rcases bnd_o h with ⟨e, h1, rfl⟩ | ⟨u, h1, h2⟩
      · obtain ⟨M', c1, c2, c3⟩ := ih0 _ h1
        exact ⟨M', by rw [c1, bI_s, if_pos rfl], c2, c3⟩
      · obtain ⟨M', c1, c2, c3⟩ := ih0 _ h1
        have hg := pC_gr hf n 0 o s u hs h1
        have hau : u.2.2.1 ≤ 2 * u.1 := by unfold GR at hg; omega
        refine ((ih 2 o u r M' (by decide) ho hg.2.1 hau h2 c2).2.2.1 rfl 0 (.inr none) (Nat.zero_le _)).go ?_ c3
        rw [c1, bI_s, if_neg (by decide)]
        rfl
    | 2, _, h =>
      refine ⟨fun z => absurd z (by decide), fun z => absurd z (by decide), fun _ i v hi => ?_, fun z => absurd z (by decide), fun z => absurd z (by decide)⟩
      rw [pC_2] at h
      have hr : 3 ≤ 8 + 8 * (7 - o) := by omega
      have hrk : 7 + 8 * (7 - o) < 8 + 8 * (7 - o) := by omega
      by_cases g : f s.1 = 38
      case neg =>
        rw [if_neg g] at h
        injection h with h
        subst h
        refine ⟨M, ?_, hM, CFc.rf⟩
        rw [B_54_13 hr]
        by_cases g0 : (240 : Int) ≤ (i : Int)
        · rw [if_pos g0]
        · rw [if_neg g0, s101 hf hM.1, bI_s, if_neg g]
      rw [if_pos g] at h
      have hp : s.1 < N := p240 hf (by omega)
      have hM1 := relClk hM 38 11
      have e0 : run (8 + 8 * (7 - o)) 54 13 [.inr (some 17), .inr (some 2), .inl (o : Int), .inl (i : Int), v] [] M = bI (fnA 56 [.inr (some 17), .inr (some 2), .inl (o : Int)] (lk1 M s.1 s.2.2.1 38)) fun w3 M3 => if w3 = 0 then some (some (.inl 0), M3) else bV (fnA 48 [.inr (some 18), .inl ((s.2.2.1 + 1 : Nat) : Int), .inl (M3 18 6)] M3) fun M4 => run (8 + 8 * (7 - o)) 54 13 [.inr (some 17), .inr (some 2), .inl (o : Int), .inl ((i + 1 : Nat) : Int), .inl ((s.2.2.1 + 1 : Nat) : Int)] [] M4 := by
        rw [B_54_13 hr, if_neg (by omega), s101 hf hM.1, bI_s, if_pos g, s55 hM (by omega) (by omega), bI_s, rk56, if_pos hrk, w1p (by omega)]
      rw [e0]
      have ih0 := fun r h => (ih 0 o (emL2 (adv s) 38 11) r _ (by decide) ho (by show s.1 + 1 ≤ N; omega) (by show s.2.2.1 + 2 ≤ 2 * (s.1 + 1); omega) h hM1).1 rfl
      rcases bnd_o h with ⟨e, h1, rfl⟩ | ⟨u, h1, h2⟩
      · obtain ⟨M', c1, c2, c3⟩ := ih0 _ h1
        exact ⟨M', by rw [c1, bI_s, if_pos rfl], c2, (CFc.lk _ _ _).tr c3⟩
      · obtain ⟨M', c1, c2, c3⟩ := ih0 _ h1
        have hg := pC_gr hf n 0 o _ u (by show s.1 + 1 ≤ N; omega) h1
        have hg1 : s.1 + 1 ≤ u.1 := hg.1
        have hau : u.2.2.1 ≤ 2 * u.1 := by
          have hg3 : u.2.2.1 + 2 * (s.1 + 1) ≤ s.2.2.1 + 2 + 2 * u.1 := hg.2.2.1
          omega
        refine ((ih 2 o (land u (s.2.2.1 + 1) s.2.2.2.2 11) r (upM M' 23 (s.2.2.1 + 1) (u.2.2.1 : Int)) (by decide) ho hg.2.1 hau h2 (c2.ld _ _ _)).2.2.1 rfl (i + 1) (.inl ((s.2.2.1 + 1 : Nat) : Int)) (by show i + 1 ≤ u.1; omega)).go ?_ ((CFc.lk _ _ _).tr c3).u23
        rw [c1, bI_s, if_neg (by decide), c2.2.1, s48 (by omega), bV_s]
    | 3, _, h =>
      refine ⟨fun z => absurd z (by decide), fun z => absurd z (by decide), fun z => absurd z (by decide), fun _ => ?_, fun z => absurd z (by decide)⟩
      rw [pC_3] at h
      have hr : 3 ≤ 9 + 8 * (7 - o) := by omega
      have hrk : 8 + 8 * (7 - o) < 9 + 8 * (7 - o) := by omega
      rw [E_53, Int.toNat_natCast, B_53_0 hr, rk54, if_pos hrk]
      have ih1 := fun r h => (ih 1 o s r M (by decide) ho hs ha h hM).2.1 rfl
      rcases bnd_o h with ⟨e, h1, rfl⟩ | ⟨u, h1, h2⟩
      · obtain ⟨M', c1, c2, c3⟩ := ih1 _ h1
        exact ⟨M', by rw [c1, bI_s, if_pos rfl], c2, c3⟩
      · obtain ⟨M', c1, c2, c3⟩ := ih1 _ h1
        have hg := pC_gr hf n 1 o s u hs h1
        have hau : u.2.2.1 ≤ 2 * u.1 := by unfold GR at hg; omega
        refine ((ih 4 o u r M' (by decide) ho hg.2.1 hau h2 c2).2.2.2.2 rfl 0 (.inr none) (Nat.zero_le _)).go ?_ c3
        rw [c1, bI_s, if_neg (by decide)]
        rfl
    | 4, _, h =>
      refine ⟨fun z => absurd z (by decide), fun z => absurd z (by decide), fun z => absurd z (by decide), fun z => absurd z (by decide), fun _ i v hi => ?_⟩
      rw [pC_4] at h
      have hr : 3 ≤ 9 + 8 * (7 - o) := by omega
      have hrk : 8 + 8 * (7 - o) < 9 + 8 * (7 - o) := by omega
      by_cases g : f s.1 = 124
      case neg =>
        rw [if_neg g] at h
        injection h with h
        subst h
        refine ⟨M, ?_, hM, CFc.rf⟩
        rw [B_53_13 hr]
        by_cases g0 : (240 : Int) ≤ (i : Int)
        · rw [if_pos g0]
        · rw [if_neg g0, s101 hf hM.1, bI_s, if_neg g]
      rw [if_pos g] at h
      have hp : s.1 < N := p240 hf (by omega)
      have hM1 := relClk hM 124 12
      have e0 : run (9 + 8 * (7 - o)) 53 13 [.inr (some 17), .inr (some 2), .inl (o : Int), .inl (i : Int), v] [] M = bI (fnA 54 [.inr (some 17), .inr (some 2), .inl (o : Int)] (lk1 M s.1 s.2.2.1 124)) fun w3 M3 => if w3 = 0 then some (some (.inl 0), M3) else bV (fnA 48 [.inr (some 18), .inl ((s.2.2.1 + 1 : Nat) : Int), .inl (M3 18 6)] M3) fun M4 => run (9 + 8 * (7 - o)) 53 13 [.inr (some 17), .inr (some 2), .inl (o : Int), .inl ((i + 1 : Nat) : Int), .inl ((s.2.2.1 + 1 : Nat) : Int)] [] M4 := by
        rw [B_53_13 hr, if_neg (by omega), s101 hf hM.1, bI_s, if_pos g, s55 hM (by omega) (by omega), bI_s, rk54, if_pos hrk, w1p (by omega)]
      rw [e0]
      have ih1 := fun r h => (ih 1 o (emL2 (adv s) 124 12) r _ (by decide) ho (by show s.1 + 1 ≤ N; omega) (by show s.2.2.1 + 2 ≤ 2 * (s.1 + 1); omega) h hM1).2.1 rfl
      rcases bnd_o h with ⟨e, h1, rfl⟩ | ⟨u, h1, h2⟩
      · obtain ⟨M', c1, c2, c3⟩ := ih1 _ h1
        exact ⟨M', by rw [c1, bI_s, if_pos rfl], c2, (CFc.lk _ _ _).tr c3⟩
      · obtain ⟨M', c1, c2, c3⟩ := ih1 _ h1
        have hg := pC_gr hf n 1 o _ u (by show s.1 + 1 ≤ N; omega) h1
        have hg1 : s.1 + 1 ≤ u.1 := hg.1
        have hau : u.2.2.1 ≤ 2 * u.1 := by
          have hg3 : u.2.2.1 + 2 * (s.1 + 1) ≤ s.2.2.1 + 2 + 2 * u.1 := hg.2.2.1
          omega
        refine ((ih 4 o (land u (s.2.2.1 + 1) s.2.2.2.2 12) r (upM M' 23 (s.2.2.1 + 1) (u.2.2.1 : Int)) (by decide) ho hg.2.1 hau h2 (c2.ld _ _ _)).2.2.2.2 rfl (i + 1) (.inl ((s.2.2.1 + 1 : Nat) : Int)) (by show i + 1 ≤ u.1; omega)).go ?_ ((CFc.lk _ _ _).tr c3).u23
        rw [c1, bI_s, if_neg (by decide), c2.2.1, s48 (by omega), bV_s]
end
end CND
