/-! The law's text, read once in the abstract: sums. A state: the place, the class's cells and their number, the reference's cells and their number. -/
section PAR
abbrev PS : Type := Nat × (Nat → Int) × Nat × (Nat → Int) × Nat
abbrev RES : Type := Option (Int ⊕ PS)
def bnd (r : RES) (k : PS → RES) : RES := match r with
  | some (.inr t) => k t
  | some (.inl e) => some (.inl e)
  | none => none
def adv (s : PS) : PS := (s.1 + 1, s.2)
def em1 (s : PS) (c v : Int) : PS := (s.1, tset s.2.1 s.2.2.1 c, s.2.2.1 + 1, tset s.2.2.2.1 s.2.2.2.2 v, s.2.2.2.2 + 1)
def emN (s : PS) (p' : Nat) (v : Int) : PS := (p', tset (tset s.2.1 s.2.2.1 48) (s.2.2.1 + 1) v, s.2.2.1 + 2, tset s.2.2.2.1 s.2.2.2.2 v, s.2.2.2.2 + 1)
def fcO (c : Int) : Int := if c = 98 then 0 else if c = 99 then 1 else if c = 100 then 5 else if c = 101 then 4 else if c = 103 then 3 else if c = 109 then 6 else if c = 111 then 2 else -1
def opO (c : Int) : Int := if c = 43 then 2 else if c = 45 then 3 else if c = 42 then 4 else if c = 47 then 5 else if c = 37 then 6 else if c = 60 then 7 else if c = 62 then 8 else if c = 61 then 9 else if c = 33 then 10 else -1
def isL (c : Int) : Prop := c = 98 ∨ c = 99 ∨ c = 111 ∨ c = 103 ∨ c = 101 ∨ c = 100 ∨ c = 109
def isM (c : Int) : Prop := c = 42 ∨ c = 47 ∨ c = 37
def isA' (c : Int) : Prop := c = 43 ∨ c = 45
/- a closing sign -/
def clo (f : Nat → Int) (c : Int) (t : PS) : RES := if f t.1 = c then some (.inr (adv t)) else some (.inl (flt 1 t.1))
/- 0 a factor, 1 a term, 2 the rest of a term, 3 a sum, 4 the rest of a sum -/
def pS (f : Nat → Int) : Nat → Nat → Nat → PS → RES
  | 0, _, _, _ => none
  | n + 1, 0, o, s => if f s.1 = 91 then (if 6 ≤ o then some (.inl (flt 5 s.1)) else bnd (pS f n 3 (o + 1) (adv s)) (clo f 93)) else if f s.1 = 98 ∨ f s.1 = 99 ∨ f s.1 = 111 ∨ f s.1 = 103 ∨ f s.1 = 101 ∨ f s.1 = 100 ∨ f s.1 = 109 then some (.inr (em1 (adv s) (f s.1) (1048576 + fcO (f s.1)))) else match pnum1 f 5 s.1 with
    | .inl e => some (.inl e)
    | .inr (p', v) => some (.inr (emN s p' v))
  | n + 1, 1, o, s => bnd (pS f n 0 o s) (fun t => pS f n 2 o t)
  | n + 1, 2, o, s => if f s.1 = 42 ∨ f s.1 = 47 ∨ f s.1 = 37 then bnd (pS f n 0 o (adv s)) (fun t => pS f n 2 o (em1 t (f s.1) (1048576 * opO (f s.1)))) else some (.inr s)
  | n + 1, 3, o, s => bnd (pS f n 1 o s) (fun t => pS f n 4 o t)
  | n + 1, _, o, s => if f s.1 = 43 ∨ f s.1 = 45 then bnd (pS f n 1 o (adv s)) (fun t => pS f n 4 o (em1 t (f s.1) (1048576 * opO (f s.1)))) else some (.inr s)
set_option maxHeartbeats 200000 in
theorem pS_0 (f : Nat → Int) (n o : Nat) (s : PS) : pS f (n + 1) 0 o s = if f s.1 = 91 then (if 6 ≤ o then some (.inl (flt 5 s.1)) else bnd (pS f n 3 (o + 1) (adv s)) (clo f 93)) else if f s.1 = 98 ∨ f s.1 = 99 ∨ f s.1 = 111 ∨ f s.1 = 103 ∨ f s.1 = 101 ∨ f s.1 = 100 ∨ f s.1 = 109 then some (.inr (em1 (adv s) (f s.1) (1048576 + fcO (f s.1)))) else match pnum1 f 5 s.1 with
    | .inl e => some (.inl e)
    | .inr (p', v) => some (.inr (emN s p' v)) := rfl
set_option maxHeartbeats 200000 in
theorem pS_1 (f : Nat → Int) (n o : Nat) (s : PS) : pS f (n + 1) 1 o s = bnd (pS f n 0 o s) (fun t => pS f n 2 o t) := rfl
set_option maxHeartbeats 200000 in
theorem pS_2 (f : Nat → Int) (n o : Nat) (s : PS) : pS f (n + 1) 2 o s = if f s.1 = 42 ∨ f s.1 = 47 ∨ f s.1 = 37 then bnd (pS f n 0 o (adv s)) (fun t => pS f n 2 o (em1 t (f s.1) (1048576 * opO (f s.1)))) else some (.inr s) := rfl
set_option maxHeartbeats 200000 in
theorem pS_3 (f : Nat → Int) (n o : Nat) (s : PS) : pS f (n + 1) 3 o s = bnd (pS f n 1 o s) (fun t => pS f n 4 o t) := rfl
set_option maxHeartbeats 200000 in
theorem pS_4 (f : Nat → Int) (n o : Nat) (s : PS) : pS f (n + 1) 4 o s = if f s.1 = 43 ∨ f s.1 = 45 then bnd (pS f n 1 o (adv s)) (fun t => pS f n 4 o (em1 t (f s.1) (1048576 * opO (f s.1)))) else some (.inr s) := rfl
set_option maxHeartbeats 200000 in
theorem bnd_r {r : RES} {k : PS → RES} {t : PS} (h : bnd r k = some (.inr t)) : ∃ u, r = some (.inr u) ∧ k u = some (.inr t) := by
  unfold bnd at h
  rcases r with _ | (e | u)
  · cases h
  · cases h
  · exact ⟨u, rfl, h⟩
set_option maxHeartbeats 200000 in
theorem bnd_l {r : RES} {k : PS → RES} {e : Int} (h : bnd r k = some (.inl e)) : r = some (.inl e) ∨ ∃ u, r = some (.inr u) ∧ k u = some (.inl e) := by
  unfold bnd at h
  rcases r with _ | (x | u)
  · cases h
  · exact Or.inl h
  · exact Or.inr ⟨u, rfl, h⟩
set_option maxHeartbeats 200000 in
theorem bnd_o {r : RES} {k : PS → RES} {x : Int ⊕ PS} (h : bnd r k = some x) : (∃ e, r = some (.inl e) ∧ x = .inl e) ∨ ∃ u, r = some (.inr u) ∧ k u = some x := by
  unfold bnd at h
  rcases r with _ | (e | u)
  · cases h
  · exact Or.inl ⟨e, rfl, by injection h with h; exact h.symm⟩
  · exact Or.inr ⟨u, rfl, h⟩
set_option maxHeartbeats 200000 in
theorem bnd_n {r : RES} {k : PS → RES} (hr : r ≠ none) (hk : ∀ u, r = some (.inr u) → k u ≠ none) : bnd r k ≠ none := by
  unfold bnd
  rcases r with _ | (e | u)
  · exact absurd rfl hr
  · intro h; cases h
  · exact hk u rfl
/- how far: a place on for each two of the class's cells, for each one of the reference's -/
def GR (N : Nat) (s t : PS) : Prop := s.1 ≤ t.1 ∧ t.1 ≤ N ∧ t.2.2.1 + 2 * s.1 ≤ s.2.2.1 + 2 * t.1 ∧ t.2.2.2.2 + s.1 ≤ s.2.2.2.2 + t.1 ∧ s.2.2.1 ≤ t.2.2.1 ∧ s.2.2.2.2 ≤ t.2.2.2.2
set_option maxHeartbeats 200000 in
theorem GR.tr {N : Nat} {s t u : PS} (h1 : GR N s t) (h2 : GR N t u) : GR N s u := by
  unfold GR at *
  omega
set_option maxHeartbeats 200000 in
theorem GR.rf {N : Nat} {s : PS} (h : s.1 ≤ N) : GR N s s := by unfold GR; omega
/- a sign read, its cells written behind what it stands ahead of -/
set_option maxHeartbeats 200000 in
theorem GR.op {N : Nat} {s t : PS} {c v : Int} (h : GR N (adv s) t) : GR N s (em1 t c v) := by
  unfold GR adv em1 at *
  dsimp only at *
  omega
set_option maxHeartbeats 200000 in
theorem GR.ad {N : Nat} {s t : PS} (h : GR N (adv s) t) : GR N s t := by
  unfold GR adv at *
  dsimp only at *
  omega
section
variable {f : Nat → Int} {N : Nat}
set_option maxHeartbeats 200000 in
theorem pnum_f (hf : FT f N) : ∀ (k p : Nat) (a : Int) (p' : Nat) (v : Int), p ≤ N → pnum f k p a = .inr (p', v) → p' ≤ N := by
  intro k
  induction k with
  | zero =>
    intro p a p' v hp h
    unfold pnum at h
    by_cases g : 48 ≤ f p ∧ f p ≤ 57
    · rw [if_pos g] at h; cases h
    · rw [if_neg g] at h
      injection h with h
      injection h with h1 h2
      omega
  | succ k ih =>
    intro p a p' v hp h
    have h' : (if 48 ≤ f p ∧ f p ≤ 57 then pnum f k (p + 1) (10 * a + f p - 48) else .inr (p, a)) = (.inr (p', v) : Int ⊕ (Nat × Int)) := h
    by_cases g : 48 ≤ f p ∧ f p ≤ 57
    · rw [if_pos g] at h'
      have : p < N := p240 hf (by omega)
      exact ih (p + 1) _ p' v (by omega) h'
    · rw [if_neg g] at h'
      injection h' with h'
      injection h' with h1 h2
      omega
set_option maxHeartbeats 200000 in
theorem pnum1_f (hf : FT f N) {k p p' : Nat} {v : Int} (hp : p ≤ N) (h : pnum1 f k p = .inr (p', v)) : p' ≤ N := by
  unfold pnum1 at h
  by_cases g : 48 ≤ f p ∧ f p ≤ 57
  · rw [if_pos g] at h; exact pnum_f hf k p 0 p' v hp h
  · rw [if_neg g] at h; cases h
set_option maxHeartbeats 200000 in
theorem clo_r {c : Int} {s t : PS} (hf : FT f N) (hc : 0 ≤ c) (h : clo f c s = some (.inr t)) : f s.1 = c ∧ t = adv s ∧ s.1 < N := by
  unfold clo at h
  by_cases g : f s.1 = c
  · rw [if_pos g] at h
    injection h with h
    injection h with h
    exact ⟨g, h.symm, p240 hf (by omega)⟩
  · rw [if_neg g] at h; cases h
set_option maxHeartbeats 200000 in
theorem pS_gr (hf : FT f N) : ∀ (n md o : Nat) (s t : PS), s.1 ≤ N → pS f n md o s = some (.inr t) → GR N s t := by
  intro n
  induction n with
  | zero => intro md o s t _ h; cases h
  | succ n ih =>
    intro md o s t hs h
    match md, h with
    | 0, h =>
      rw [pS_0] at h
      by_cases g1 : f s.1 = 91
      · rw [if_pos g1] at h
        have hp : s.1 < N := p240 hf (by omega)
        by_cases g2 : 6 ≤ o
        · rw [if_pos g2] at h; cases h
        · rw [if_neg g2] at h
          obtain ⟨u, h1, h2⟩ := bnd_r h
          have i1 := ih 3 (o + 1) (adv s) u (by show s.1 + 1 ≤ N; omega) h1
          obtain ⟨-, rfl, hu⟩ := clo_r hf (by decide) h2
          unfold GR adv at *
          dsimp only at *
          omega
      · rw [if_neg g1] at h
        by_cases g2 : f s.1 = 98 ∨ f s.1 = 99 ∨ f s.1 = 111 ∨ f s.1 = 103 ∨ f s.1 = 101 ∨ f s.1 = 100 ∨ f s.1 = 109
        · rw [if_pos g2] at h
          have hp : s.1 < N := p240 hf (by omega)
          injection h with h
          injection h with h
          rw [← h]
          unfold GR em1 adv
          dsimp only
          omega
        · rw [if_neg g2] at h
          cases e : pnum1 f 5 s.1 with
          | inl x => rw [e] at h; cases h
          | inr pv =>
            obtain ⟨p', v⟩ := pv
            rw [e] at h
            injection h with h
            injection h with h
            have b1 := pnum1_b (k := 4) e
            have b2 := pnum1_f hf hs e
            rw [← h]
            unfold GR emN
            dsimp only
            omega
    | 1, h =>
      rw [pS_1] at h
      obtain ⟨u, h1, h2⟩ := bnd_r h
      have i1 := ih 0 o s u hs h1
      exact i1.tr (ih 2 o u t i1.2.1 h2)
    | 2, h =>
      rw [pS_2] at h
      by_cases g : f s.1 = 42 ∨ f s.1 = 47 ∨ f s.1 = 37
      · rw [if_pos g] at h
        have hp : s.1 < N := p240 hf (by omega)
        obtain ⟨u, h1, h2⟩ := bnd_r h
        have i1 := ih 0 o (adv s) u (by show s.1 + 1 ≤ N; omega) h1
        have i2 := GR.op (c := f s.1) (v := 1048576 * opO (f s.1)) i1
        exact i2.tr (ih 2 o _ t i2.2.1 h2)
      · rw [if_neg g] at h
        injection h with h
        injection h with h
        rw [← h]; exact GR.rf hs
    | 3, h =>
      rw [pS_3] at h
      obtain ⟨u, h1, h2⟩ := bnd_r h
      have i1 := ih 1 o s u hs h1
      exact i1.tr (ih 4 o u t i1.2.1 h2)
    | md + 4, h =>
      have h' : (if f s.1 = 43 ∨ f s.1 = 45 then bnd (pS f n 1 o (adv s)) (fun t => pS f n 4 o (em1 t (f s.1) (1048576 * opO (f s.1)))) else some (.inr s)) = some (.inr t) := h
      by_cases g : f s.1 = 43 ∨ f s.1 = 45
      · rw [if_pos g] at h'
        have hp : s.1 < N := p240 hf (by omega)
        obtain ⟨u, h1, h2⟩ := bnd_r h'
        have i1 := ih 1 o (adv s) u (by show s.1 + 1 ≤ N; omega) h1
        have i2 := GR.op (c := f s.1) (v := 1048576 * opO (f s.1)) i1
        exact i2.tr (ih 4 o _ t i2.2.1 h2)
      · rw [if_neg g] at h'
        injection h' with h'
        injection h' with h'
        rw [← h']; exact GR.rf hs
/- there is fuel enough -/
def fu (md : Nat) : Nat := if md = 1 then 2 else if md = 3 then 3 else 1
set_option maxHeartbeats 200000 in
theorem pS_tot (hf : FT f N) : ∀ (n md o : Nat) (s : PS), md ≤ 4 → s.1 ≤ N → 10 * (N - s.1) + fu md ≤ n → pS f n md o s ≠ none := by
  intro n
  induction n with
  | zero => intro md o s _ _ h; unfold fu at h; split at h <;> (try split at h) <;> omega
  | succ n ih =>
    intro md o s hm hs h
    match md, hm, h with
    | 0, _, h =>
      have h' : 10 * (N - s.1) + 1 ≤ n + 1 := h
      rw [pS_0]
      by_cases g1 : f s.1 = 91
      · rw [if_pos g1]
        have hp : s.1 < N := p240 hf (by omega)
        by_cases g2 : 6 ≤ o
        · rw [if_pos g2]; intro z; cases z
        · rw [if_neg g2]
          refine bnd_n (ih 3 (o + 1) (adv s) (by decide) (by show s.1 + 1 ≤ N; omega) (by show 10 * (N - (s.1 + 1)) + 3 ≤ n; omega)) (fun u hu => ?_)
          unfold clo
          split <;> (intro z; cases z)
      · rw [if_neg g1]
        by_cases g2 : f s.1 = 98 ∨ f s.1 = 99 ∨ f s.1 = 111 ∨ f s.1 = 103 ∨ f s.1 = 101 ∨ f s.1 = 100 ∨ f s.1 = 109
        · rw [if_pos g2]; intro z; cases z
        · rw [if_neg g2]
          cases e : pnum1 f 5 s.1 with
          | inl x => intro z; cases z
          | inr pv => intro z; cases z
    | 1, _, h =>
      have h' : 10 * (N - s.1) + 2 ≤ n + 1 := h
      rw [pS_1]
      refine bnd_n (ih 0 o s (by decide) hs (by show 10 * (N - s.1) + 1 ≤ n; omega)) (fun u hu => ?_)
      have g := pS_gr hf n 0 o s u hs hu
      exact ih 2 o u (by decide) g.2.1 (by have := g.1; show 10 * (N - u.1) + 1 ≤ n; omega)
    | 2, _, h =>
      have h' : 10 * (N - s.1) + 1 ≤ n + 1 := h
      rw [pS_2]
      by_cases g : f s.1 = 42 ∨ f s.1 = 47 ∨ f s.1 = 37
      · rw [if_pos g]
        have hp : s.1 < N := p240 hf (by omega)
        refine bnd_n (ih 0 o (adv s) (by decide) (by show s.1 + 1 ≤ N; omega) (by show 10 * (N - (s.1 + 1)) + 1 ≤ n; omega)) (fun u hu => ?_)
        have g := pS_gr hf n 0 o (adv s) u (by show s.1 + 1 ≤ N; omega) hu
        have g1 : s.1 + 1 ≤ u.1 := g.1
        exact ih 2 o _ (by decide) g.2.1 (by show 10 * (N - u.1) + 1 ≤ n; omega)
      · rw [if_neg g]; intro z; cases z
    | 3, _, h =>
      have h' : 10 * (N - s.1) + 3 ≤ n + 1 := h
      rw [pS_3]
      refine bnd_n (ih 1 o s (by decide) hs (by show 10 * (N - s.1) + 2 ≤ n; omega)) (fun u hu => ?_)
      have g := pS_gr hf n 1 o s u hs hu
      exact ih 4 o u (by decide) g.2.1 (by have := g.1; show 10 * (N - u.1) + 1 ≤ n; omega)
    | 4, _, h =>
      have h' : 10 * (N - s.1) + 1 ≤ n + 1 := h
      rw [pS_4]
      by_cases g : f s.1 = 43 ∨ f s.1 = 45
      · rw [if_pos g]
        have hp : s.1 < N := p240 hf (by omega)
        refine bnd_n (ih 1 o (adv s) (by decide) (by show s.1 + 1 ≤ N; omega) (by show 10 * (N - (s.1 + 1)) + 2 ≤ n; omega)) (fun u hu => ?_)
        have g := pS_gr hf n 1 o (adv s) u (by show s.1 + 1 ≤ N; omega) hu
        have g1 : s.1 + 1 ≤ u.1 := g.1
        exact ih 4 o _ (by decide) g.2.1 (by show 10 * (N - u.1) + 1 ≤ n; omega)
      · rw [if_neg g]; intro z; cases z
end
end PAR
