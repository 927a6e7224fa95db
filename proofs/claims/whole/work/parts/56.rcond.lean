/-! Conditions in the reference: links that wait, what is kept below. -/
section RCD
variable {f : Nat → Int} {N : Nat}
/- what was written before stays -/
def FRm (s t : PS) : Prop := (∀ j, j < s.2.2.1 → t.2.1 j = s.2.1 j) ∧ ∀ j, j < s.2.2.2.2 → t.2.2.2.1 j = s.2.2.2.1 j
set_option maxHeartbeats 400000 in
theorem FRm.rf {s : PS} : FRm s s := ⟨fun _ _ => rfl, fun _ _ => rfl⟩
set_option maxHeartbeats 400000 in
theorem FRm.tr {N : Nat} {s t u : PS} (h1 : FRm s t) (h2 : FRm t u) (hg : GR N s t) : FRm s u := ⟨fun j hj => (h2.1 j (by unfold GR at hg; omega)).trans (h1.1 j hj), fun j hj => (h2.2 j (by unfold GR at hg; omega)).trans (h1.2 j hj)⟩
set_option maxHeartbeats 400000 in
theorem FRm.op {N : Nat} {s t : PS} {c v : Int} (h : FRm s t) (hg : GR N s t) : FRm s (em1 t c v) := by
  unfold GR at hg
  refine ⟨fun j hj => ?_, fun j hj => ?_⟩
  · show tset t.2.1 t.2.2.1 c j = _
    rw [ts_o (by omega)]; exact h.1 j hj
  · show tset t.2.2.2.1 t.2.2.2.2 v j = _
    rw [ts_o (by omega)]; exact h.2 j hj
set_option maxHeartbeats 400000 in
theorem FRm.ld {s t : PS} {la lb : Nat} {k : Int} (h : FRm s t) (ha : s.2.2.1 ≤ la) (hb : s.2.2.2.2 ≤ lb) : FRm s (land t la lb k) := by
  refine ⟨fun j hj => ?_, fun j hj => ?_⟩
  · show tset t.2.1 la _ j = _
    rw [ts_o (by omega)]; exact h.1 j hj
  · show tset t.2.2.2.1 lb _ j = _
    rw [ts_o (by omega)]; exact h.2 j hj
set_option maxHeartbeats 400000 in
theorem FRm.lk {s : PS} {c k : Int} : FRm s (emL2 (adv s) c k) := by
  refine ⟨fun j hj => ?_, fun j hj => ?_⟩
  · show tset (tset s.2.1 s.2.2.1 c) (s.2.2.1 + 1) 0 j = _
    rw [ts_o (by omega), ts_o (by omega)]
  · show tset s.2.2.2.1 s.2.2.2.2 _ j = _
    rw [ts_o (by omega)]
set_option maxHeartbeats 400000 in
theorem gr_adv {s : PS} (h : s.1 < N) : GR N s (adv s) := by
  unfold GR adv
  dsimp only
  omega
set_option maxHeartbeats 400000 in
theorem pS_fr (hf : FT f N) : ∀ (n md o : Nat) (s t : PS), s.1 ≤ N → pS f n md o s = some (.inr t) → FRm s t := by
  intro n
  induction n with
  | zero => intro md o s t _ h; cases h
  | succ n ih =>
    intro md o s t hs h
    match md, h with
    | 0, h =>
      rw [pS_0] at h
      by_cases g1 : f s.1 = 91
      · rw [if_pos g1] at h
        have hp : s.1 < N := p240 hf (by omega)
        by_cases g2 : 6 ≤ o
        · rw [if_pos g2] at h; cases h
        · rw [if_neg g2] at h
          obtain ⟨u, h1, h2⟩ := bnd_r h
          have i1 := ih 3 (o + 1) (adv s) u (by show s.1 + 1 ≤ N; omega) h1
          obtain ⟨-, rfl, hu⟩ := clo_r hf (by decide) h2
          exact i1
      · rw [if_neg g1] at h
        by_cases g2 : f s.1 = 98 ∨ f s.1 = 99 ∨ f s.1 = 111 ∨ f s.1 = 103 ∨ f s.1 = 101 ∨ f s.1 = 100 ∨ f s.1 = 109
        · rw [if_pos g2] at h
          have hp : s.1 < N := p240 hf (by omega)
          injection h with h
          injection h with h
          rw [← h]
          have i1 : FRm s (adv s) := FRm.rf
          exact i1.op (gr_adv hp)
        · rw [if_neg g2] at h
          cases e : pnum1 f 5 s.1 with
          | inl x => rw [e] at h; cases h
          | inr pv =>
            obtain ⟨p', v⟩ := pv
            rw [e] at h
            injection h with h
            injection h with h
            rw [← h]
            refine ⟨fun j hj => ?_, fun j hj => ?_⟩
            · show tset (tset s.2.1 s.2.2.1 48) (s.2.2.1 + 1) v j = _
              rw [ts_o (by omega), ts_o (by omega)]
            · show tset s.2.2.2.1 s.2.2.2.2 v j = _
              rw [ts_o (by omega)]
    | 1, h =>
      rw [pS_1] at h
      obtain ⟨u, h1, h2⟩ := bnd_r h
      have g := pS_gr hf n 0 o s u hs h1
      exact (ih 0 o s u hs h1).tr (ih 2 o u t g.2.1 h2) g
    | 2, h =>
      rw [pS_2] at h
      by_cases g : f s.1 = 42 ∨ f s.1 = 47 ∨ f s.1 = 37
      · rw [if_pos g] at h
        have hp : s.1 < N := p240 hf (by omega)
        obtain ⟨u, h1, h2⟩ := bnd_r h
        have g1 := pS_gr hf n 0 o (adv s) u (by show s.1 + 1 ≤ N; omega) h1
        have i1 : FRm s u := ih 0 o (adv s) u (by show s.1 + 1 ≤ N; omega) h1
        exact (i1.op (c := f s.1) (v := 1048576 * opO (f s.1)) g1.ad).tr (ih 2 o _ t g1.2.1 h2) g1.op
      · rw [if_neg g] at h
        injection h with h
        injection h with h
        rw [← h]; exact FRm.rf
    | 3, h =>
      rw [pS_3] at h
      obtain ⟨u, h1, h2⟩ := bnd_r h
      have g := pS_gr hf n 1 o s u hs h1
      exact (ih 1 o s u hs h1).tr (ih 4 o u t g.2.1 h2) g
    | md + 4, h =>
      have h' : (if f s.1 = 43 ∨ f s.1 = 45 then bnd (pS f n 1 o (adv s)) (fun t => pS f n 4 o (em1 t (f s.1) (1048576 * opO (f s.1)))) else some (.inr s)) = some (.inr t) := h
      by_cases g : f s.1 = 43 ∨ f s.1 = 45
      · rw [if_pos g] at h'
        have hp : s.1 < N := p240 hf (by omega)
        obtain ⟨u, h1, h2⟩ := bnd_r h'
        have g1 := pS_gr hf n 1 o (adv s) u (by show s.1 + 1 ≤ N; omega) h1
        have i1 : FRm s u := ih 1 o (adv s) u (by show s.1 + 1 ≤ N; omega) h1
        exact (i1.op (c := f s.1) (v := 1048576 * opO (f s.1)) g1.ad).tr (ih 4 o _ t g1.2.1 h2) g1.op
      · rw [if_neg g] at h'
        injection h' with h'
        injection h' with h'
        rw [← h']; exact FRm.rf
set_option maxHeartbeats 400000 in
theorem pC_fr (hf : FT f N) : ∀ (n md o : Nat) (s t : PS), s.1 ≤ N → pC f n md o s = some (.inr t) → FRm s t := by
  intro n
  induction n with
  | zero => intro md o s t _ h; cases h
  | succ n ih =>
    intro md o s t hs h
    match md, h with
    | 0, h =>
      rw [pC_0] at h
      by_cases g1 : f s.1 = 33 ∨ f s.1 = 40
      · rw [if_pos g1] at h
        have hp : s.1 < N := p240 hf (by omega)
        by_cases g2 : 6 ≤ o
        · rw [if_pos g2] at h; cases h
        · rw [if_neg g2] at h
          by_cases g3 : f s.1 = 40
          · rw [if_pos g3] at h
            obtain ⟨u, h1, h2⟩ := bnd_r h
            have i1 := ih 3 (o + 1) (adv s) u (by show s.1 + 1 ≤ N; omega) h1
            obtain ⟨-, rfl, hu⟩ := clo_r hf (by decide) h2
            exact i1
          · rw [if_neg g3] at h
            obtain ⟨u, h1, h2⟩ := bnd_r h
            have g := pC_gr hf n 0 (o + 1) (adv s) u (by show s.1 + 1 ≤ N; omega) h1
            have i1 : FRm s u := ih 0 (o + 1) (adv s) u (by show s.1 + 1 ≤ N; omega) h1
            injection h2 with h2
            injection h2 with h2
            rw [← h2]
            exact i1.op g.ad
      · rw [if_neg g1] at h
        obtain ⟨u, h1, h2⟩ := bnd_r h
        have i1 := pS_fr hf n 3 o s u hs h1
        have g := pS_gr hf n 3 o s u hs h1
        by_cases g2 : f u.1 = 60 ∨ f u.1 = 62 ∨ f u.1 = 61
        · rw [if_pos g2] at h2
          have hp : u.1 < N := p240 hf (by omega)
          obtain ⟨w, h3, h4⟩ := bnd_r h2
          have i2 : FRm u w := pS_fr hf n 3 o (adv u) w (by show u.1 + 1 ≤ N; omega) h3
          have g3 := pS_gr hf n 3 o (adv u) w (by show u.1 + 1 ≤ N; omega) h3
          injection h4 with h4
          injection h4 with h4
          rw [← h4]
          exact i1.tr (i2.op g3.ad) g
        · rw [if_neg g2] at h2; cases h2
    | 1, h =>
      rw [pC_1] at h
      obtain ⟨u, h1, h2⟩ := bnd_r h
      have g := pC_gr hf n 0 o s u hs h1
      exact (ih 0 o s u hs h1).tr (ih 2 o u t g.2.1 h2) g
    | 2, h =>
      rw [pC_2] at h
      by_cases g : f s.1 = 38
      · rw [if_pos g] at h
        have hp : s.1 < N := p240 hf (by omega)
        obtain ⟨u, h1, h2⟩ := bnd_r h
        have g1 := (GR.lk (c := 38) (k := 11) hp).tr (pC_gr hf n 0 o _ u (by show s.1 + 1 ≤ N; omega) h1)
        have i1 := (FRm.lk (s := s) (c := 38) (k := 11)).tr (ih 0 o _ u (by show s.1 + 1 ≤ N; omega) h1) (GR.lk (c := 38) (k := 11) hp)
        exact (i1.ld (k := 11) (Nat.le_succ _) (Nat.le_refl _)).tr (ih 2 o _ t g1.2.1 h2) (g1.ld (la := s.2.2.1 + 1) (lb := s.2.2.2.2) (k := 11))
      · rw [if_neg g] at h
        injection h with h
        injection h with h
        rw [← h]; exact FRm.rf
    | 3, h =>
      rw [pC_3] at h
      obtain ⟨u, h1, h2⟩ := bnd_r h
      have g := pC_gr hf n 1 o s u hs h1
      exact (ih 1 o s u hs h1).tr (ih 4 o u t g.2.1 h2) g
    | md + 4, h =>
      have h' : (if f s.1 = 124 then bnd (pC f n 1 o (emL2 (adv s) 124 12)) (fun t => pC f n 4 o (land t (s.2.2.1 + 1) s.2.2.2.2 12)) else some (.inr s)) = some (.inr t) := h
      by_cases g : f s.1 = 124
      · rw [if_pos g] at h'
        have hp : s.1 < N := p240 hf (by omega)
        obtain ⟨u, h1, h2⟩ := bnd_r h'
        have g1 := (GR.lk (c := 124) (k := 12) hp).tr (pC_gr hf n 1 o _ u (by show s.1 + 1 ≤ N; omega) h1)
        have i1 := (FRm.lk (s := s) (c := 124) (k := 12)).tr (ih 1 o _ u (by show s.1 + 1 ≤ N; omega) h1) (GR.lk (c := 124) (k := 12) hp)
        exact (i1.ld (k := 12) (Nat.le_succ _) (Nat.le_refl _)).tr (ih 4 o _ t g1.2.1 h2) (g1.ld (la := s.2.2.1 + 1) (lb := s.2.2.2.2) (k := 12))
      · rw [if_neg g] at h'
        injection h' with h'
        injection h' with h'
        rw [← h']; exact FRm.rf
set_option maxHeartbeats 400000 in
theorem pC_end (f : Nat → Int) : ∀ (n md o : Nat) (s t : PS), md ≤ 4 → pC f n md o s = some (.inr t) → ((md = 1 ∨ md = 2) → ¬ f t.1 = 38) ∧ (md = 3 → ¬ f t.1 = 38 ∧ ¬ f t.1 = 124) ∧ (md = 4 → ¬ f s.1 = 38 → ¬ f t.1 = 38 ∧ ¬ f t.1 = 124) := by
  intro n
  induction n with
  | zero => intro md o s t _ h; cases h
  | succ n ih =>
    intro md o s t hmd h
    match md, hmd, h with
    | 0, _, h => exact ⟨fun z => absurd z (by decide), fun z => absurd z (by decide), fun z => absurd z (by decide)⟩
    | 1, _, h =>
      rw [pC_1] at h
      obtain ⟨u, h1, h2⟩ := bnd_r h
      exact ⟨fun _ => (ih 2 o u t (by decide) h2).1 (Or.inr rfl), fun z => absurd z (by decide), fun z => absurd z (by decide)⟩
    | 2, _, h =>
      refine ⟨fun _ => ?_, fun z => absurd z (by decide), fun z => absurd z (by decide)⟩
      rw [pC_2] at h
      by_cases g : f s.1 = 38
      · rw [if_pos g] at h
        obtain ⟨u, h1, h2⟩ := bnd_r h
        exact (ih 2 o _ t (by decide) h2).1 (Or.inr rfl)
      · rw [if_neg g] at h
        injection h with h
        injection h with h
        rw [← h]; exact g
    | 3, _, h =>
      refine ⟨fun z => absurd z (by decide), fun _ => ?_, fun z => absurd z (by decide)⟩
      rw [pC_3] at h
      obtain ⟨u, h1, h2⟩ := bnd_r h
      exact (ih 4 o u t (by decide) h2).2.2 rfl ((ih 1 o s u (by decide) h1).1 (Or.inl rfl))
    | 4, _, h =>
      refine ⟨fun z => absurd z (by decide), fun z => absurd z (by decide), fun _ hs => ?_⟩
      rw [pC_4] at h
      by_cases g : f s.1 = 124
      · rw [if_pos g] at h
        obtain ⟨u, h1, h2⟩ := bnd_r h
        exact (ih 4 o _ t (by decide) h2).2.2 rfl ((ih 1 o _ u (by decide) h1).1 (Or.inl rfl))
      · rw [if_neg g] at h
        injection h with h
        injection h with h
        rw [← h]; exact ⟨hs, g⟩
/- links that wait -/
def ldL : (Nat → Int) → Nat → List (Int × Nat) → (Nat → Int)
  | h, _, [] => h
  | h, b, x :: xs => ldL (tset h x.2 (1048576 * x.1 + (b : Int))) b xs
set_option maxHeartbeats 400000 in
theorem ldL_app : ∀ (pl ql : List (Int × Nat)) (h : Nat → Int) (b : Nat), ldL h b (pl ++ ql) = ldL (ldL h b pl) b ql
  | [], _, _, _ => rfl
  | x :: xs, ql, h, b => ldL_app xs ql _ b
set_option maxHeartbeats 400000 in
theorem ldL_o : ∀ (pl : List (Int × Nat)) (h : Nat → Int) (b j : Nat), (∀ x, x ∈ pl → j ≠ x.2) → ldL h b pl j = h j
  | [], _, _, _, _ => rfl
  | x :: xs, h, b, j, hj => by
    rw [ldL, ldL_o xs _ b j (fun y hy => hj y (List.mem_cons_of_mem _ hy)), ts_o (hj x List.mem_cons_self)]
def LK (R : aM) (w0 : Nat) : Nat → List (Int × Nat) → Prop
  | _, [] => True
  | b, x :: xs => R 59 (w0 + xs.length) = 1048576 * x.1 + (x.2 : Int) ∧ R 58 x.2 = 1048576 * x.1 ∧ x.2 < b ∧ (x.1 = 11 ∨ x.1 = 12) ∧ LK R w0 x.2 xs
set_option maxHeartbeats 400000 in
theorem LK.c {R R' : aM} {w0 : Nat} : ∀ {b : Nat} {pl : List (Int × Nat)}, (∀ i, i < w0 + pl.length → R' 59 i = R 59 i) → (∀ j, j < b → R' 58 j = R 58 j) → LK R w0 b pl → LK R' w0 b pl
  | _, [], _, _, _ => trivial
  | b, x :: xs, h, h2, ⟨a1, a2, a3, a4, a5⟩ => ⟨by rw [h _ (by simp only [List.length_cons]; omega)]; exact a1, by rw [h2 _ a3]; exact a2, a3, a4, LK.c (fun i hi => h i (by simp only [List.length_cons]; omega)) (fun j hj => h2 j (by omega)) a5⟩
set_option maxHeartbeats 400000 in
theorem LK.app {R : aM} {w0 lb : Nat} {k : Int} (ha : R 59 w0 = 1048576 * k + (lb : Int)) (h58 : R 58 lb = 1048576 * k) (hk : k = 11 ∨ k = 12) : ∀ {b : Nat} {pl : List (Int × Nat)}, lb < b → (∀ x, x ∈ pl → lb < x.2) → LK R (w0 + 1) b pl → LK R w0 b (pl ++ [(k, lb)])
  | _, [], hb, _, _ => ⟨ha, h58, hb, hk, trivial⟩
  | b, x :: xs, hb, hx, ⟨a1, a2, a3, a4, a5⟩ => by
    refine ⟨?_, a2, a3, a4, LK.app ha h58 hk (hx x List.mem_cons_self) (fun y hy => hx y (List.mem_cons_of_mem _ hy)) a5⟩
    show R 59 (w0 + (xs ++ [(k, lb)]).length) = _
    rw [List.length_append, List.length_singleton, show w0 + (xs.length + 1) = w0 + 1 + xs.length by omega]
    exact a1
set_option maxHeartbeats 400000 in
theorem B_217_0v (x1 : Int) (v2 : aV) (M : aM)  : run 1 217 0 [.inr (some 53), .inl x1, v2] [] M = bI (fnA 209 [.inr (some 53)] M) fun w1 M1 => if w1 = 11 then run 1 217 22 [.inr (some 53), .inl x1, v2] [] M1 else if x1 = 0 then some (none, M1) else bI (fnA 209 [.inr (some 53)] M1) fun w2 M2 => if w2 = 12 then run 1 217 22 [.inr (some 53), .inl x1, v2] [] M2 else some (none, M2) := (st_aload_n f_217_0 rfl).trans ((ca_I (st_V (rest := []) f_217_1 rfl rfl rfl la_53 ow_209) (rk_209 _) (by decide) vd_209).trans (teB fun w1 M1 => (st_bipush f_217_4 rfl).trans ((st_icmp_eq (t := 22) f_217_6 rfl).trans (teI (rfl) ((st_iload_n f_217_9 rfl).trans ((st_if_eq (t := 73) f_217_10 rfl).trans (teI (st_rv f_217_73) ((st_aload_n f_217_13 rfl).trans ((ca_I (st_V (rest := []) f_217_14 rfl rfl rfl la_53 ow_209) (rk_209 _) (by decide) vd_209).trans (teB fun w2 M2 => (st_bipush f_217_17 rfl).trans ((st_icmp_ne (t := 73) f_217_19 rfl).trans (teI (rfl) (st_rv f_217_73)))))))))))))
def inJ (x1 y : Int) : Prop := y = 11 ∨ (x1 ≠ 0 ∧ y = 12)
set_option maxHeartbeats 400000 in
theorem s217f {x1 : Int} {w0 b0 : Nat} (hb0 : b0 ≤ 250) : ∀ (pl : List (Int × Nat)) (R : aM) (b : Nat) (v : aV), (∀ x, x ∈ pl → inJ x1 x.1) → ¬ inJ x1 (tp R w0) → R 53 11 = ((w0 + pl.length : Nat) : Int) → LK R w0 b pl → b ≤ b0 → R 53 10 = (b0 : Int) → w0 + pl.length ≤ 250 → ∃ R', run 1 217 0 [.inr (some 53), .inl x1, v] [] R = some (none, R') ∧ R' 53 11 = (w0 : Int) ∧ R' 58 = ldL (R 58) b0 pl ∧ R' 59 = R 59 ∧ (∀ q, q ≠ 53 → q ≠ 58 → R' q = R q) ∧ ∀ j, j ≠ 11 → R' 53 j = R 53 j := by
  intro pl
  induction pl with
  | nil =>
    intro R b v _ ht hw _ _ _ hl
    have hw' : R 53 11 = (w0 : Int) := hw
    have hl' : w0 ≤ 250 := hl
    have h9 := s209 hw' (by omega)
    refine ⟨R, ?_, hw', rfl, rfl, fun _ _ _ => rfl, fun _ _ => rfl⟩
    rw [B_217_0v, h9, bI_s, if_neg (fun z => ht (Or.inl z))]
    by_cases g : x1 = 0
    · rw [if_pos g]
    · rw [if_neg g, h9, bI_s, if_neg (fun z => ht (Or.inr ⟨g, z⟩))]
  | cons x xs ih =>
    intro R b v hS ht hw hL hb h10 hl
    simp only [List.length_cons] at hl
    obtain ⟨a1, a2, a3, a4, a5⟩ := hL
    have hx : inJ x1 x.1 := hS x List.mem_cons_self
    have hw1 : R 53 11 = ((w0 + xs.length + 1 : Nat) : Int) := by rw [hw]; simp only [List.length_cons]; rfl
    have htp : tp R (w0 + xs.length + 1) = x.1 := tp_e a1 (by omega) (by omega)
    have h9 := s209 hw1 (by omega)
    rw [htp] at h9
    have e1 : wr (((w0 + xs.length + 1 : Nat) : Int) - 1) = ((w0 + xs.length : Nat) : Int) := wm1 (by omega)
    have e2 : (1048576 * x.1 + (x.2 : Int)).tmod 1048576 = (x.2 : Int) := by
      rw [Int.tmod_eq_emod_of_nonneg (by omega)]; omega
    have e3 : wr ((1048576 * x.1).tdiv 1048576) = x.1 := by
      rw [Int.tdiv_eq_ediv_of_nonneg (by omega), wr_s (by omega) (by omega)]; omega
    have e4 : wr (wr (1048576 * x.1) + (b0 : Int)) = 1048576 * x.1 + (b0 : Int) := by
      rw [wr_s (z := 1048576 * x.1) (by omega) (by omega), wr_s (by omega) (by omega)]
    have y1 : 0 ≤ ((w0 + xs.length : Nat) : Int) ∧ ((w0 + xs.length : Nat) : Int) < 260 := by omega
    have y2 : 0 ≤ (x.2 : Int) ∧ (x.2 : Int) < 260 := by omega
    have e22 : run 1 217 22 [.inr (some 53), .inl x1, v] [] R = run 1 217 0 [.inr (some 53), .inl x1, .inl (x.2 : Int)] [] (upM (upM R 58 x.2 (1048576 * x.1 + (b0 : Int))) 53 11 ((w0 + xs.length : Nat) : Int)) := by
      rw [B_217_22, hw1, e1, if_pos y1, Int.toNat_natCast, a1, e2, if_pos y2, if_pos y2, Int.toNat_natCast, a2, e3, h10, e4, up_o (by decide), hw1, e1]
    have e0 : run 1 217 0 [.inr (some 53), .inl x1, v] [] R = run 1 217 22 [.inr (some 53), .inl x1, v] [] R := by
      rw [B_217_0v, h9, bI_s]
      by_cases g : x.1 = 11
      · rw [if_pos g]
      · have g1 := hx.resolve_left g
        rw [if_neg g, if_neg g1.1, h9, bI_s, if_pos g1.2]
    have o59 : upM (upM R 58 x.2 (1048576 * x.1 + (b0 : Int))) 53 11 ((w0 + xs.length : Nat) : Int) 59 = R 59 := by rw [up_ne (by decide), up_ne (by decide)]
    have o58 : upM (upM R 58 x.2 (1048576 * x.1 + (b0 : Int))) 53 11 ((w0 + xs.length : Nat) : Int) 58 = tset (R 58) x.2 (1048576 * x.1 + (b0 : Int)) := by rw [up_ne (by decide), up_q]
    obtain ⟨R', c1, c2, c3, c4, c5, c6⟩ := ih (upM (upM R 58 x.2 (1048576 * x.1 + (b0 : Int))) 53 11 ((w0 + xs.length : Nat) : Int)) x.2 (.inl (x.2 : Int)) (fun y hy => hS y (List.mem_cons_of_mem _ hy)) (by rw [tp_c (R := R) (fun i _ => by rw [o59])]; exact ht) up_s (a5.c (fun i _ => by rw [o59]) (fun j hj => by rw [o58, ts_o (by omega)])) (by omega) (by rw [up_j (by decide), up_o (by decide)]; exact h10) (by omega)
    rw [o58] at c3
    refine ⟨R', e0.trans (e22.trans c1), c2, c3, c4.trans o59, fun q q1 q2 => ?_, fun j j1 => ?_⟩
    · rw [c5 q q1 q2, up_ne q1, up_ne q2]
    · rw [c6 j j1, up_j j1, up_o (by decide)]
/- a jump is noted and waits -/
def jp (R : aM) (w b p : Nat) (k : Int) : aM := upM (nt (upM (upM R 59 w (1048576 * k + (b : Int))) 53 11 ((w + 1 : Nat) : Int)) b (1048576 * k + 0)) 53 5 ((p + 1 : Nat) : Int)
set_option maxHeartbeats 400000 in
theorem s218 {R : aM} {w b p : Nat} {k : Int} (h11 : R 53 11 = (w : Int)) (h10 : R 53 10 = (b : Int)) (h5 : R 53 5 = (p : Int)) (hw : w < 260) (hb : b < 260) (hp : p < 900) (hk : 0 ≤ k ∧ k ≤ 20) : fnA 218 [.inr (some 53), .inl k] R = some (none, jp R w b p k) := by
  have e4 : wr (wr (1048576 * k) + (b : Int)) = 1048576 * k + (b : Int) := by
    rw [wr_s (z := 1048576 * k) (by omega) (by omega), wr_s (by omega) (by omega)]
  rw [E_218, h11, if_pos (by omega), Int.toNat_natCast, h10, e4, up_o (by decide), h11, w1p (by omega), s207 (b := b) (by rw [up_j (by decide), up_o (by decide)]; exact h10) hb hk (by decide), bV_s, nt_53 _ _ _ (by decide), up_j (by decide), up_o (by decide), h5, w1p (by omega)]
  rfl
/- a sum on its own -/
set_option maxHeartbeats 400000 in
theorem PK_14 {R : aM} {w0 : Nat} : ∀ {pd : List Int}, PK R w0 pd → (∀ x, x ∈ pd → inS 1 x) → ∀ i, w0 ≤ i → i < w0 + pd.length → ¬ wr ((R 59 i).tdiv 1048576) = 14
  | [], _, _, i, h1, h2 => absurd h2 (by simp only [List.length_nil]; omega)
  | x :: xs, ⟨a1, a2⟩, hx, i, h1, h2 => by
    simp only [List.length_cons] at h2
    by_cases e : i = w0 + xs.length
    · subst e
      have hx' := hx x List.mem_cons_self
      unfold inS at hx'
      rw [a1, Int.tdiv_eq_ediv_of_nonneg (by omega), wr_s (by omega) (by omega)]
      omega
    · exact PK_14 a2 (fun y hy => hx y (List.mem_cons_of_mem _ hy)) i h1 (by omega)
set_option maxHeartbeats 400000 in
theorem s215 (hf : FT f N) {n o w0 : Nat} {s : PS} {r : Int ⊕ PS} {R : aM} (ho : o ≤ 6) (hs : s.1 ≤ N) (hb : s.2.2.2.2 ≤ s.1) (hw : w0 ≤ s.1) (h : pS f n 3 o s = some r) (hQ : rQ f N R s o w0 []) (ht : ¬ inS 1 (tp R w0)) : match r with
    | .inl e => ∃ R', fnA 215 [.inr (some 53)] R = some (some (.inl 0), R') ∧ R' 53 7 = e ∧ KW w0 R R'
    | .inr t => ∃ R', fnA 215 [.inr (some 53)] R = some (some (.inl 1), R') ∧ rQ f N R' t o w0 [] ∧ KW w0 R R' := by
  have hN := hf.1
  have h11 : R 53 11 = (w0 : Int) := hQ.2.2.1
  have e0 : fnA 215 [.inr (some 53)] R = FACx w0 (.inr none) R := by
    rw [E_215, E_213, h11]
    rfl
  have hr := (rS hf n 3 o s r R w0 (.inr none) w0 [] (by decide) ho hs hb (Nat.le_refl _) hw h hQ).2.2.2.1 rfl rfl ht
  rcases r with e | t
  · obtain ⟨R', c1, c2, c3⟩ := hr
    exact ⟨R', e0.trans c1, c2, c3⟩
  · obtain ⟨R1, v1, pd1, c1, c2, c3, c4, c5⟩ := hr
    have hen := (pS_end f n 3 o s t (by decide) h).2.1 rfl
    have hgr := pS_gr hf n 3 o s t hs h
    have hgb : t.2.2.2.2 ≤ t.1 := by
      have z := hgr.2.2.2.1
      omega
    have htN := hgr.2.1
    have hsm := smO_n hen.1 hen.2
    obtain ⟨d1, d2, d3, d4, b1, d5, d6⟩ := c2
    have hlen := emL_b pd1 (R1 58) b1
    rw [d6] at hlen
    have hlen' : t.2.2.2.2 = b1 + pd1.length := hlen
    have k2 := kdS_len c3
    have hx14 : ¬ ∃ i, w0 ≤ i ∧ i < w0 + pd1.length ∧ wr ((R1 59 i).tdiv 1048576) = 14 := fun ⟨i, i1, i2, i3⟩ => PK_14 d4 (kdS_in c3) i i1 i2 i3
    have e214 := s214 d3 (by omega) (base := w0) (by omega)
    rw [bI1_f hx14] at e214
    have htp1 : ¬ inS 1 (tp R1 w0) := by rw [tp_c (R := R) c5.2]; exact ht
    obtain ⟨R2, m1, m2, m3, m4, m5, m6, m7⟩ := s212f (x1 := 1) pd1 R1 b1 (kdS_in c3) htp1 d3 d4 d5 (by omega) (by omega)
    rw [d6] at m3 m4
    have m1' : fnA 212 [.inr (some 53), .inl 1] R1 = some (none, R2) := by rw [E_212]; exact m1
    have n5 : R2 53 5 = (t.1 : Int) := by rw [m7 5 (by decide) (by decide)]; exact d1.2.1
    have k3 : KW w0 R1 R2 := ⟨⟨fun q q1 q2 => m6 q q1 (fun e => by rw [e] at q2; cases q2), fun j hj => m7 j (fun e => by rw [e] at hj; cases hj) (fun e => by rw [e] at hj; cases hj)⟩, fun i hi => by rw [m5]⟩
    refine ⟨R2, ?_, ⟨⟨by rw [m7 6 (by decide) (by decide)]; exact d1.1, n5, fun i hi => by rw [m6 57 (by decide) (by decide)]; exact d1.2.2 i hi⟩, by rw [m7 9 (by decide) (by decide)]; exact d2, m2, trivial, t.2.2.2.2, m3, by rw [m4]; rfl⟩, c5.tr k3⟩
    refine e0.trans (c1.trans ?_)
    have e138 : ∀ x2 : Int, run 4 215 138 [.inr (some 53), .inl (w0 : Int), .inl x2] [] R1 = some (some (.inl 1), R2) := fun x2 => by
      rw [B_215_138, e214, bI_s, if_pos rfl, m1', bV_s]
    unfold LOOPx
    rw [B_215_14, s202 hf d1, bI_s, s211, bI_s, hsm, if_pos rfl, s202 hf d1, bI_s]
    by_cases g3 : f t.1 = 93
    · rw [if_pos g3, e214, bI_s, if_pos rfl]; exact e138 _
    · rw [if_neg g3]; exact e138 _
end RCD
