/-! What a piece of code is: the same in the class's cells and in the reference's. -/
section EVS
def arO (c : Int) : Prop := c = 43 ∨ c = 45 ∨ c = 42 ∨ c = 47 ∨ c = 37
def EVr (g h : Nat → Int) (P : Bool → Nat → Nat → Nat → Nat → Nat → Prop) : Prop :=
  (∀ (a' a : Nat) (v : Int), 0 ≤ v → v < 100000 → g a' = 48 → g (a' + 1) = v → h a = v → P false a' a (a' + 2) (a + 1) 1) ∧
  (∀ (a' a : Nat) (c : Int), (c = 98 ∨ c = 99 ∨ c = 111 ∨ c = 103 ∨ c = 101 ∨ c = 100 ∨ c = 109) → g a' = c → h a = 1048576 + fcO c → P false a' a (a' + 1) (a + 1) 1) ∧
  (∀ (a' a m' m b' b d e : Nat) (c : Int), arO c → P false a' a m' m d → P false m' m b' b e → g b' = c → h b = 1048576 * opO c → P false a' a (b' + 1) (b + 1) (max d (e + 1))) ∧
  (∀ (a' a m' m b' b d e : Nat) (c : Int), (c = 60 ∨ c = 62 ∨ c = 61) → P false a' a m' m d → P false m' m b' b e → g b' = c → h b = 1048576 * opO c → P true a' a (b' + 1) (b + 1) (max d (e + 1))) ∧
  (∀ (a' a b' b d : Nat), P true a' a b' b d → g b' = 33 → h b = 1048576 * 10 → P true a' a (b' + 1) (b + 1) d) ∧
  (∀ (a' a m' m b' b d e : Nat) (c k : Int), (c = 38 ∧ k = 11 ∨ c = 124 ∧ k = 12) → P true a' a m' m d → P true (m' + 2) (m + 1) b' b e → g m' = c → g (m' + 1) = (b' : Int) → h m = 1048576 * k + (b : Int) → P true a' a b' b (max d e))
def EV (g h : Nat → Int) (k : Bool) (a' a b' b d : Nat) : Prop := ∀ P, EVr g h P → P k a' a b' b d
section
variable {g h : Nat → Int}
set_option maxHeartbeats 400000 in
theorem EV.num {a' a : Nat} {v : Int} (h0 : 0 ≤ v) (h1 : v < 100000) (h2 : g a' = 48) (h3 : g (a' + 1) = v) (h4 : h a = v) : EV g h false a' a (a' + 2) (a + 1) 1 := fun _ hP => hP.1 a' a v h0 h1 h2 h3 h4
set_option maxHeartbeats 400000 in
theorem EV.let {a' a : Nat} {c : Int} (hc : c = 98 ∨ c = 99 ∨ c = 111 ∨ c = 103 ∨ c = 101 ∨ c = 100 ∨ c = 109) (h2 : g a' = c) (h4 : h a = 1048576 + fcO c) : EV g h false a' a (a' + 1) (a + 1) 1 := fun _ hP => hP.2.1 a' a c hc h2 h4
set_option maxHeartbeats 400000 in
theorem EV.ar {a' a m' m b' b d e : Nat} {c : Int} (hc : arO c) (h1 : EV g h false a' a m' m d) (h2 : EV g h false m' m b' b e) (h3 : g b' = c) (h4 : h b = 1048576 * opO c) : EV g h false a' a (b' + 1) (b + 1) (max d (e + 1)) := fun P hP => hP.2.2.1 a' a m' m b' b d e c hc (h1 P hP) (h2 P hP) h3 h4
set_option maxHeartbeats 400000 in
theorem EV.cmp {a' a m' m b' b d e : Nat} {c : Int} (hc : c = 60 ∨ c = 62 ∨ c = 61) (h1 : EV g h false a' a m' m d) (h2 : EV g h false m' m b' b e) (h3 : g b' = c) (h4 : h b = 1048576 * opO c) : EV g h true a' a (b' + 1) (b + 1) (max d (e + 1)) := fun P hP => hP.2.2.2.1 a' a m' m b' b d e c hc (h1 P hP) (h2 P hP) h3 h4
set_option maxHeartbeats 400000 in
theorem EV.nt {a' a b' b d : Nat} (h1 : EV g h true a' a b' b d) (h3 : g b' = 33) (h4 : h b = 1048576 * 10) : EV g h true a' a (b' + 1) (b + 1) d := fun P hP => hP.2.2.2.2.1 a' a b' b d (h1 P hP) h3 h4
set_option maxHeartbeats 400000 in
theorem EV.jm {a' a m' m b' b d e : Nat} {c k : Int} (hc : c = 38 ∧ k = 11 ∨ c = 124 ∧ k = 12) (h1 : EV g h true a' a m' m d) (h2 : EV g h true (m' + 2) (m + 1) b' b e) (h3 : g m' = c) (h5 : g (m' + 1) = (b' : Int)) (h4 : h m = 1048576 * k + (b : Int)) : EV g h true a' a b' b (max d e) := fun P hP => hP.2.2.2.2.2 a' a m' m b' b d e c k hc (h1 P hP) (h2 P hP) h3 h5 h4
set_option maxHeartbeats 400000 in
theorem EV.fr' {k : Bool} {a' a b' b d : Nat} (h1 : EV g h k a' a b' b d) : a' ≤ b' ∧ a ≤ b ∧ ∀ g2 h2 : Nat → Int, (∀ j, a' ≤ j → j < b' → g2 j = g j) → (∀ j, a ≤ j → j < b → h2 j = h j) → EV g2 h2 k a' a b' b d := by
  refine h1 (fun k a' a b' b d => a' ≤ b' ∧ a ≤ b ∧ ∀ g2 h2 : Nat → Int, (∀ j, a' ≤ j → j < b' → g2 j = g j) → (∀ j, a ≤ j → j < b → h2 j = h j) → EV g2 h2 k a' a b' b d) ⟨?_, ?_, ?_, ?_, ?_, ?_⟩
  · intro a' a v v0 v1 e1 e2 e3
    refine ⟨by omega, by omega, fun g2 h2 hg hh => EV.num v0 v1 ?_ ?_ ?_⟩
    · rw [hg a' (by omega) (by omega)]; exact e1
    · rw [hg (a' + 1) (by omega) (by omega)]; exact e2
    · rw [hh a (by omega) (by omega)]; exact e3
  · intro a' a c hc e1 e2
    refine ⟨by omega, by omega, fun g2 h2 hg hh => EV.let hc ?_ ?_⟩
    · rw [hg a' (by omega) (by omega)]; exact e1
    · rw [hh a (by omega) (by omega)]; exact e2
  · intro a' a m' m b' b d e c hc i1 i2 e1 e2
    obtain ⟨p1, p2, p3⟩ := i1
    obtain ⟨q1, q2, q3⟩ := i2
    refine ⟨by omega, by omega, fun g2 h2 hg hh => EV.ar hc (p3 g2 h2 (fun j j1 j2 => hg j j1 (by omega)) (fun j j1 j2 => hh j j1 (by omega))) (q3 g2 h2 (fun j j1 j2 => hg j (by omega) (by omega)) (fun j j1 j2 => hh j (by omega) (by omega))) ?_ ?_⟩
    · rw [hg b' (by omega) (by omega)]; exact e1
    · rw [hh b (by omega) (by omega)]; exact e2
  · intro a' a m' m b' b d e c hc i1 i2 e1 e2
    obtain ⟨p1, p2, p3⟩ := i1
    obtain ⟨q1, q2, q3⟩ := i2
    refine ⟨by omega, by omega, fun g2 h2 hg hh => EV.cmp hc (p3 g2 h2 (fun j j1 j2 => hg j j1 (by omega)) (fun j j1 j2 => hh j j1 (by omega))) (q3 g2 h2 (fun j j1 j2 => hg j (by omega) (by omega)) (fun j j1 j2 => hh j (by omega) (by omega))) ?_ ?_⟩
    · rw [hg b' (by omega) (by omega)]; exact e1
    · rw [hh b (by omega) (by omega)]; exact e2
  · intro a' a b' b d i1 e1 e2
    obtain ⟨p1, p2, p3⟩ := i1
    refine ⟨by omega, by omega, fun g2 h2 hg hh => EV.nt (p3 g2 h2 (fun j j1 j2 => hg j j1 (by omega)) (fun j j1 j2 => hh j j1 (by omega))) ?_ ?_⟩
    · rw [hg b' (by omega) (by omega)]; exact e1
    · rw [hh b (by omega) (by omega)]; exact e2
  · intro a' a m' m b' b d e c k hc i1 i2 e1 e2 e3
    obtain ⟨p1, p2, p3⟩ := i1
    obtain ⟨q1, q2, q3⟩ := i2
    refine ⟨by omega, by omega, fun g2 h2 hg hh => EV.jm hc (p3 g2 h2 (fun j j1 j2 => hg j j1 (by omega)) (fun j j1 j2 => hh j j1 (by omega))) (q3 g2 h2 (fun j j1 j2 => hg j (by omega) (by omega)) (fun j j1 j2 => hh j (by omega) (by omega))) ?_ ?_ ?_⟩
    · rw [hg m' (by omega) (by omega)]; exact e1
    · rw [hg (m' + 1) (by omega) (by omega)]; exact e2
    · rw [hh m (by omega) (by omega)]; exact e3
set_option maxHeartbeats 400000 in
theorem EV.mv {g2 h2 : Nat → Int} {k : Bool} {a' a b' b d : Nat} (h1 : EV g h k a' a b' b d) (hg : ∀ j, a' ≤ j → j < b' → g2 j = g j) (hh : ∀ j, a ≤ j → j < b → h2 j = h j) : EV g2 h2 k a' a b' b d := h1.fr'.2.2 g2 h2 hg hh
end
section
variable {f : Nat → Int} {N : Nat}
/- of a state -/
def EVs (t : PS) (k : Bool) (a' a b' b d : Nat) : Prop := EV t.2.1 t.2.2.2.1 k a' a b' b d
set_option maxHeartbeats 400000 in
theorem EVs.fm {s t : PS} {k : Bool} {a' a d : Nat} (h : EVs s k a' a s.2.2.1 s.2.2.2.2 d) (hf : FRm s t) : EVs t k a' a s.2.2.1 s.2.2.2.2 d := EV.mv h (fun j _ j2 => hf.1 j j2) (fun j _ j2 => hf.2 j j2)
set_option maxHeartbeats 400000 in
theorem EVs.fo {t : PS} {k : Bool} {a' a b' b d : Nat} {c v : Int} (h : EVs t k a' a b' b d) (hb' : b' ≤ t.2.2.1) (hb : b ≤ t.2.2.2.2) : EVs (em1 t c v) k a' a b' b d := EV.mv h (fun j _ j2 => by
  show tset t.2.1 t.2.2.1 c j = _
  rw [ts_o (by omega)]) (fun j _ j2 => by
  show tset t.2.2.2.1 t.2.2.2.2 v j = _
  rw [ts_o (by omega)])
set_option maxHeartbeats 400000 in
theorem pS_ev (hf : FT f N) : ∀ (n md o : Nat) (s t : PS), md ≤ 4 → o ≤ 6 → s.1 ≤ N → pS f n md o s = some (.inr t) → (md = 0 → ∃ d, d ≤ 1 + 2 * (6 - o) ∧ EVs t false s.2.2.1 s.2.2.2.2 t.2.2.1 t.2.2.2.2 d) ∧ (md = 1 → ∃ d, d ≤ 2 + 2 * (6 - o) ∧ EVs t false s.2.2.1 s.2.2.2.2 t.2.2.1 t.2.2.2.2 d) ∧ (md = 2 → ∀ x' x d, d ≤ 2 + 2 * (6 - o) → EVs s false x' x s.2.2.1 s.2.2.2.2 d → ∃ d', d' ≤ 2 + 2 * (6 - o) ∧ EVs t false x' x t.2.2.1 t.2.2.2.2 d') ∧ (md = 3 → ∃ d, d ≤ 3 + 2 * (6 - o) ∧ EVs t false s.2.2.1 s.2.2.2.2 t.2.2.1 t.2.2.2.2 d) ∧ (md = 4 → ∀ x' x d, d ≤ 3 + 2 * (6 - o) → EVs s false x' x s.2.2.1 s.2.2.2.2 d → ∃ d', d' ≤ 3 + 2 * (6 - o) ∧ EVs t false x' x t.2.2.1 t.2.2.2.2 d') := by
  intro n
  induction n with
  | zero => intro md o s t _ _ _ h; cases h
  | succ n ih =>
    intro md o s t hmd ho hs h
    match md, hmd, h with
    | 0, _, h =>
      refine ⟨fun _ => ?_, fun z => absurd z (by decide), fun z => absurd z (by decide), fun z => absurd z (by decide), fun z => absurd z (by decide)⟩
      rw [pS_0] at h
      by_cases g1 : f s.1 = 91
      · rw [if_pos g1] at h
        have hp : s.1 < N := p240 hf (by omega)
        by_cases g2 : 6 ≤ o
        · rw [if_pos g2] at h; cases h
        · rw [if_neg g2] at h
          obtain ⟨u, h1, h2⟩ := bnd_r h
          obtain ⟨-, rfl, hu⟩ := clo_r hf (by decide) h2
          obtain ⟨d, d1, d2⟩ := (ih 3 (o + 1) (adv s) u (by decide) (by omega) (by show s.1 + 1 ≤ N; omega) h1).2.2.2.1 rfl
          exact ⟨d, by omega, d2⟩
      · rw [if_neg g1] at h
        by_cases g2 : f s.1 = 98 ∨ f s.1 = 99 ∨ f s.1 = 111 ∨ f s.1 = 103 ∨ f s.1 = 101 ∨ f s.1 = 100 ∨ f s.1 = 109
        · rw [if_pos g2] at h
          injection h with h
          injection h with h
          rw [← h]
          exact ⟨1, by omega, EV.let g2 ts_s ts_s⟩
        · rw [if_neg g2] at h
          cases e : pnum1 f 5 s.1 with
          | inl x => rw [e] at h; cases h
          | inr pv =>
            obtain ⟨p', v⟩ := pv
            rw [e] at h
            injection h with h
            injection h with h
            have b1 := pnum1_b (k := 4) e
            rw [← h]
            refine ⟨1, by omega, EV.num (v := v) b1.2.1 b1.2.2 ?_ ts_s ts_s⟩
            show tset (tset s.2.1 s.2.2.1 48) (s.2.2.1 + 1) v s.2.2.1 = 48
            rw [ts_o (by omega), ts_s]
    | 1, _, h =>
      refine ⟨fun z => absurd z (by decide), fun _ => ?_, fun z => absurd z (by decide), fun z => absurd z (by decide), fun z => absurd z (by decide)⟩
      rw [pS_1] at h
      obtain ⟨u, h1, h2⟩ := bnd_r h
      have hg := pS_gr hf n 0 o s u hs h1
      obtain ⟨d, d1, d2⟩ := (ih 0 o s u (by decide) ho hs h1).1 rfl
      exact (ih 2 o u t (by decide) ho hg.2.1 h2).2.2.1 rfl s.2.2.1 s.2.2.2.2 d (by omega) d2
    | 2, _, h =>
      refine ⟨fun z => absurd z (by decide), fun z => absurd z (by decide), fun _ x' x d hd hx => ?_, fun z => absurd z (by decide), fun z => absurd z (by decide)⟩
      rw [pS_2] at h
      by_cases g : f s.1 = 42 ∨ f s.1 = 47 ∨ f s.1 = 37
      · rw [if_pos g] at h
        have hp : s.1 < N := p240 hf (by omega)
        obtain ⟨u, h1, h2⟩ := bnd_r h
        have hg := pS_gr hf n 0 o (adv s) u (by show s.1 + 1 ≤ N; omega) h1
        have hfr : FRm s u := pS_fr hf n 0 o (adv s) u (by show s.1 + 1 ≤ N; omega) h1
        obtain ⟨e, e1, e2⟩ := (ih 0 o (adv s) u (by decide) ho (by show s.1 + 1 ≤ N; omega) h1).1 rfl
        have hga := hg.2.2.2.2.1
        have hgb := hg.2.2.2.2.2
        have hc : arO (f s.1) := by unfold arO; omega
        refine (ih 2 o (em1 u (f s.1) (1048576 * opO (f s.1))) t (by decide) ho hg.2.1 h2).2.2.1 rfl x' x (max d (e + 1)) (by omega) ?_
        exact EV.ar hc ((hx.fm hfr).fo hga hgb) (EVs.fo e2 (Nat.le_refl _) (Nat.le_refl _)) ts_s ts_s
      · rw [if_neg g] at h
        injection h with h
        injection h with h
        rw [← h]; exact ⟨d, hd, hx⟩
    | 3, _, h =>
      refine ⟨fun z => absurd z (by decide), fun z => absurd z (by decide), fun z => absurd z (by decide), fun _ => ?_, fun z => absurd z (by decide)⟩
      rw [pS_3] at h
      obtain ⟨u, h1, h2⟩ := bnd_r h
      have hg := pS_gr hf n 1 o s u hs h1
      obtain ⟨d, d1, d2⟩ := (ih 1 o s u (by decide) ho hs h1).2.1 rfl
      exact (ih 4 o u t (by decide) ho hg.2.1 h2).2.2.2.2 rfl s.2.2.1 s.2.2.2.2 d (by omega) d2
    | 4, _, h =>
      refine ⟨fun z => absurd z (by decide), fun z => absurd z (by decide), fun z => absurd z (by decide), fun z => absurd z (by decide), fun _ x' x d hd hx => ?_⟩
      rw [pS_4] at h
      by_cases g : f s.1 = 43 ∨ f s.1 = 45
      · rw [if_pos g] at h
        have hp : s.1 < N := p240 hf (by omega)
        obtain ⟨u, h1, h2⟩ := bnd_r h
        have hg := pS_gr hf n 1 o (adv s) u (by show s.1 + 1 ≤ N; omega) h1
        have hfr : FRm s u := pS_fr hf n 1 o (adv s) u (by show s.1 + 1 ≤ N; omega) h1
        obtain ⟨e, e1, e2⟩ := (ih 1 o (adv s) u (by decide) ho (by show s.1 + 1 ≤ N; omega) h1).2.1 rfl
        have hga := hg.2.2.2.2.1
        have hgb := hg.2.2.2.2.2
        have hc : arO (f s.1) := by unfold arO; omega
        refine (ih 4 o (em1 u (f s.1) (1048576 * opO (f s.1))) t (by decide) ho hg.2.1 h2).2.2.2.2 rfl x' x (max d (e + 1)) (by omega) ?_
        exact EV.ar hc ((hx.fm hfr).fo hga hgb) (EVs.fo e2 (Nat.le_refl _) (Nat.le_refl _)) ts_s ts_s
      · rw [if_neg g] at h
        injection h with h
        injection h with h
        rw [← h]; exact ⟨d, hd, hx⟩
set_option maxHeartbeats 400000 in
theorem pC_ev (hf : FT f N) : ∀ (n md o : Nat) (s t : PS), md ≤ 4 → o ≤ 6 → s.1 ≤ N → pC f n md o s = some (.inr t) → ((md = 0 ∨ md = 1 ∨ md = 3) → ∃ d, d ≤ 16 ∧ EVs t true s.2.2.1 s.2.2.2.2 t.2.2.1 t.2.2.2.2 d) ∧ ((md = 2 ∨ md = 4) → ∀ x' x d, d ≤ 16 → EVs s true x' x s.2.2.1 s.2.2.2.2 d → ∃ d', d' ≤ 16 ∧ EVs t true x' x t.2.2.1 t.2.2.2.2 d') := by
  intro n
  induction n with
  | zero => intro md o s t _ _ _ h; cases h
  | succ n ih =>
    intro md o s t hmd ho hs h
    have jmp : ∀ (md' : Nat) (u : PS) (c k : Int), (c = 38 ∧ k = 11 ∨ c = 124 ∧ k = 12) → s.1 < N → (md' = 0 ∨ md' = 1) → pC f n md' o (emL2 (adv s) c k) = some (.inr u) → ∀ x' x d, d ≤ 16 → EVs s true x' x s.2.2.1 s.2.2.2.2 d → ∃ d', d' ≤ 16 ∧ EVs (land u (s.2.2.1 + 1) s.2.2.2.2 k) true x' x u.2.2.1 u.2.2.2.2 d' := by
      intro md' u c k hc hp hm h1 x' x d hd hx
      have hg := pC_gr hf n md' o _ u (by show s.1 + 1 ≤ N; omega) h1
      have hfr := pC_fr hf n md' o _ u (by show s.1 + 1 ≤ N; omega) h1
      obtain ⟨e, e1, e2⟩ := (ih md' o _ u (by omega) ho (by show s.1 + 1 ≤ N; omega) h1).1 (by omega)
      have hga : s.2.2.1 + 2 ≤ u.2.2.1 := hg.2.2.2.2.1
      have hgb : s.2.2.2.2 + 1 ≤ u.2.2.2.2 := hg.2.2.2.2.2
      have e2' : EVs u true (s.2.2.1 + 2) (s.2.2.2.2 + 1) u.2.2.1 u.2.2.2.2 e := e2
      have hlk := FRm.lk (s := s) (c := c) (k := k)
      have h1' : ∀ j, j < s.2.2.1 → u.2.1 j = s.2.1 j := fun j hj => (hfr.1 j (by show j < s.2.2.1 + 2; omega)).trans (hlk.1 j hj)
      have h2' : ∀ j, j < s.2.2.2.2 → u.2.2.2.1 j = s.2.2.2.1 j := fun j hj => (hfr.2 j (by show j < s.2.2.2.2 + 1; omega)).trans (hlk.2 j hj)
      have hx2 : EV (tset u.2.1 (s.2.2.1 + 1) (u.2.2.1 : Int)) (tset u.2.2.2.1 s.2.2.2.2 (1048576 * k + (u.2.2.2.2 : Int))) true x' x s.2.2.1 s.2.2.2.2 d := EV.mv hx (fun j _ j2 => by rw [ts_o (by omega)]; exact h1' j j2) (fun j _ j2 => by rw [ts_o (by omega)]; exact h2' j j2)
      have e3 : EV (tset u.2.1 (s.2.2.1 + 1) (u.2.2.1 : Int)) (tset u.2.2.2.1 s.2.2.2.2 (1048576 * k + (u.2.2.2.2 : Int))) true (s.2.2.1 + 2) (s.2.2.2.2 + 1) u.2.2.1 u.2.2.2.2 e := EV.mv e2' (fun j j1 _ => ts_o (by omega)) (fun j j1 _ => ts_o (by omega))
      refine ⟨max d e, by omega, EV.jm hc hx2 e3 ?_ ts_s ts_s⟩
      show tset u.2.1 (s.2.2.1 + 1) _ s.2.2.1 = c
      rw [ts_o (by omega), hfr.1 s.2.2.1 (by show s.2.2.1 < s.2.2.1 + 2; omega)]
      show tset (tset s.2.1 s.2.2.1 c) (s.2.2.1 + 1) 0 s.2.2.1 = c
      rw [ts_o (by omega), ts_s]
    match md, hmd, h with
    | 0, _, h =>
      refine ⟨fun _ => ?_, fun z => absurd z (by decide)⟩
      rw [pC_0] at h
      by_cases g1 : f s.1 = 33 ∨ f s.1 = 40
      · rw [if_pos g1] at h
        have hp : s.1 < N := p240 hf (by omega)
        by_cases g2 : 6 ≤ o
        · rw [if_pos g2] at h; cases h
        · rw [if_neg g2] at h
          by_cases g3 : f s.1 = 40
          · rw [if_pos g3] at h
            obtain ⟨u, h1, h2⟩ := bnd_r h
            obtain ⟨-, rfl, hu⟩ := clo_r hf (by decide) h2
            exact (ih 3 (o + 1) (adv s) u (by decide) (by omega) (by show s.1 + 1 ≤ N; omega) h1).1 (by omega)
          · rw [if_neg g3] at h
            obtain ⟨u, h1, h2⟩ := bnd_r h
            obtain ⟨d, d1, d2⟩ := (ih 0 (o + 1) (adv s) u (by decide) (by omega) (by show s.1 + 1 ≤ N; omega) h1).1 (by omega)
            injection h2 with h2
            injection h2 with h2
            rw [← h2]
            exact ⟨d, d1, EV.nt (EVs.fo d2 (Nat.le_refl _) (Nat.le_refl _)) ts_s ts_s⟩
      · rw [if_neg g1] at h
        obtain ⟨u, h1, h2⟩ := bnd_r h
        have hg := pS_gr hf n 3 o s u hs h1
        obtain ⟨d, d1, d2⟩ := (pS_ev hf n 3 o s u (by decide) ho hs h1).2.2.2.1 rfl
        by_cases g2 : f u.1 = 60 ∨ f u.1 = 62 ∨ f u.1 = 61
        · rw [if_pos g2] at h2
          have hp : u.1 < N := p240 hf (by omega)
          obtain ⟨w, h3, h4⟩ := bnd_r h2
          have hg2 := pS_gr hf n 3 o (adv u) w (by show u.1 + 1 ≤ N; omega) h3
          have hfr : FRm u w := pS_fr hf n 3 o (adv u) w (by show u.1 + 1 ≤ N; omega) h3
          obtain ⟨e, e1, e2⟩ := (pS_ev hf n 3 o (adv u) w (by decide) ho (by show u.1 + 1 ≤ N; omega) h3).2.2.2.1 rfl
          injection h4 with h4
          injection h4 with h4
          rw [← h4]
          exact ⟨max d (e + 1), by omega, EV.cmp g2 ((EVs.fm d2 hfr).fo hg2.2.2.2.2.1 hg2.2.2.2.2.2) (EVs.fo e2 (Nat.le_refl _) (Nat.le_refl _)) ts_s ts_s⟩
        · rw [if_neg g2] at h2; cases h2
    | 1, _, h =>
      refine ⟨fun _ => ?_, fun z => absurd z (by decide)⟩
      rw [pC_1] at h
      obtain ⟨u, h1, h2⟩ := bnd_r h
      have hg := pC_gr hf n 0 o s u hs h1
      obtain ⟨d, d1, d2⟩ := (ih 0 o s u (by decide) ho hs h1).1 (by omega)
      exact (ih 2 o u t (by decide) ho hg.2.1 h2).2 (by omega) s.2.2.1 s.2.2.2.2 d d1 d2
    | 2, _, h =>
      refine ⟨fun z => absurd z (by decide), fun _ x' x d hd hx => ?_⟩
      rw [pC_2] at h
      by_cases g : f s.1 = 38
      · rw [if_pos g] at h
        have hp : s.1 < N := p240 hf (by omega)
        obtain ⟨u, h1, h2⟩ := bnd_r h
        have hg := pC_gr hf n 0 o _ u (by show s.1 + 1 ≤ N; omega) h1
        obtain ⟨d', d1, d2⟩ := jmp 0 u 38 11 (by omega) hp (by omega) h1 x' x d hd hx
        exact (ih 2 o (land u (s.2.2.1 + 1) s.2.2.2.2 11) t (by decide) ho hg.2.1 h2).2 (by omega) x' x d' d1 d2
      · rw [if_neg g] at h
        injection h with h
        injection h with h
        rw [← h]; exact ⟨d, hd, hx⟩
    | 3, _, h =>
      refine ⟨fun _ => ?_, fun z => absurd z (by decide)⟩
      rw [pC_3] at h
      obtain ⟨u, h1, h2⟩ := bnd_r h
      have hg := pC_gr hf n 1 o s u hs h1
      obtain ⟨d, d1, d2⟩ := (ih 1 o s u (by decide) ho hs h1).1 (by omega)
      exact (ih 4 o u t (by decide) ho hg.2.1 h2).2 (by omega) s.2.2.1 s.2.2.2.2 d d1 d2
    | 4, _, h =>
      refine ⟨fun z => absurd z (by decide), fun _ x' x d hd hx => ?_⟩
      rw [pC_4] at h
      by_cases g : f s.1 = 124
      · rw [if_pos g] at h
        have hp : s.1 < N := p240 hf (by omega)
        obtain ⟨u, h1, h2⟩ := bnd_r h
        have hg := pC_gr hf n 1 o _ u (by show s.1 + 1 ≤ N; omega) h1
        obtain ⟨d', d1, d2⟩ := jmp 1 u 124 12 (by omega) hp (by omega) h1 x' x d hd hx
        exact (ih 4 o (land u (s.2.2.1 + 1) s.2.2.2.2 12) t (by decide) ho hg.2.1 h2).2 (by omega) x' x d' d1 d2
      · rw [if_neg g] at h
        injection h with h
        injection h with h
        rw [← h]; exact ⟨d, hd, hx⟩
end
end EVS
