/-! The class reads sums as the abstract reader does. -/
section CSM
variable {f : Nat → Int} {N : Nat}
set_option maxHeartbeats 400000 in
theorem up_q (M : aM) (q j : Nat) (x : Int) : upM M q j x q = tset (M q) j x := by
  funext i
  rw [up_r]
  unfold tset
  by_cases e : i = j
  · rw [if_pos ⟨rfl, e⟩, if_pos e]
  · rw [if_neg (fun z => e z.2), if_neg e]
def PC (q : Nat) : Bool := q == 18 || q == 23
def relC (f : Nat → Int) (N : Nat) (M : aM) (s : PS) : Prop := CX f N s.1 M ∧ M 18 6 = (s.2.2.1 : Int) ∧ M 23 = s.2.1
def CFc (M M' : aM) : Prop := CF PC M M' ∧ M' 18 5 = M 18 5
set_option maxHeartbeats 400000 in
theorem CFc.rf {M : aM} : CFc M M := ⟨CF.rf, rfl⟩
set_option maxHeartbeats 400000 in
theorem CFc.tr {M M1 M2 : aM} (h : CFc M M1) (h2 : CFc M1 M2) : CFc M M2 := ⟨h.1.tr h2.1, h2.2.trans h.2⟩
set_option maxHeartbeats 400000 in
theorem CFc.u2 {M M1 : aM} (h : CFc M M1) {j : Nat} {x : Int} (hj : j = 3 ∨ j = 4 ∨ j = 5) : CFc M (upM M1 2 j x) := ⟨h.1.u2 hj, by rw [up_o (by decide)]; exact h.2⟩
set_option maxHeartbeats 400000 in
theorem CFc.u18 {M M1 : aM} (h : CFc M M1) {x : Int} : CFc M (upM M1 18 6 x) := ⟨h.1.up (by decide) rfl, by rw [up_j (by decide)]; exact h.2⟩
set_option maxHeartbeats 400000 in
theorem CFc.u23 {M M1 : aM} (h : CFc M M1) {j : Nat} {x : Int} : CFc M (upM M1 23 j x) := ⟨h.1.up (by decide) rfl, by rw [up_o (by decide)]; exact h.2⟩
/- a sign is added -/
def ad1 (M : aM) (a : Nat) (x : Int) : aM := upM (upM M 23 a x) 18 6 ((a + 1 : Nat) : Int)
set_option maxHeartbeats 400000 in
theorem s47 {M : aM} {a : Nat} (ha : a < 480) (h : M 18 6 = (a : Int)) (x : Int) : fnA 47 [.inr (some 18), .inl x] M = some (none, ad1 M a x) := by
  rw [E_47 _ _ _ (Or.inl rfl), h, if_neg (by omega), if_pos (by omega), Int.toNat_natCast, up_o (by decide), h, w1p (by omega)]
  rfl
set_option maxHeartbeats 400000 in
theorem ad1_6 (M : aM) (a : Nat) (x : Int) : ad1 M a x 18 6 = ((a + 1 : Nat) : Int) := up_s
set_option maxHeartbeats 400000 in
theorem ad1_23 (M : aM) (a : Nat) (x : Int) : ad1 M a x 23 = tset (M 23) a x := by
  unfold ad1
  rw [up_ne (by decide), up_q]
set_option maxHeartbeats 400000 in
theorem ad1_o (M : aM) (a : Nat) (x : Int) {q : Nat} (h1 : q ≠ 18) (h2 : q ≠ 23) : ad1 M a x q = M q := by
  unfold ad1
  rw [up_ne h1, up_ne h2]
set_option maxHeartbeats 400000 in
theorem CFc.ad {M M1 : aM} (h : CFc M M1) {a : Nat} {x : Int} : CFc M (ad1 M1 a x) := h.u23.u18
set_option maxHeartbeats 400000 in
theorem CX.ad {M : aM} {p : Nat} (h : CX f N p M) (a : Nat) (x : Int) : CX f N p (ad1 M a x) := (h.o (by decide)).o (by decide)
set_option maxHeartbeats 400000 in
theorem relC.op {M : aM} {t : PS} (h : relC f N M t) (c v : Int) : relC f N (ad1 M t.2.2.1 c) (em1 t c v) := ⟨h.1.ad _ _, ad1_6 _ _ _, by rw [ad1_23, h.2.2]; rfl⟩
set_option maxHeartbeats 400000 in
theorem relC.adv {M : aM} {s : PS} (h : relC f N M s) : relC f N (upM M 2 3 ((s.1 + 1 : Nat) : Int)) (adv s) := ⟨h.1.st _, by rw [up_o (by decide)]; exact h.2.1, by rw [up_ne (by decide)]; exact h.2.2⟩
def cOut (f : Nat → Int) (N : Nat) (M : aM) (r : Int ⊕ PS) (X : aX) : Prop := match r with
  | .inl e => ∃ M', X = some (some (.inl 0), M') ∧ M' 2 5 = e ∧ CFc M M'
  | .inr t => ∃ M', X = some (some (.inl 1), M') ∧ relC f N M' t ∧ CFc M M'
set_option maxHeartbeats 400000 in
theorem cOut.go {M M1 : aM} {r : Int ⊕ PS} {X Y : aX} (h : cOut f N M1 r Y) (e : X = Y) (hF : CFc M M1) : cOut f N M r X := by
  unfold cOut at *
  rcases r with x | t
  · obtain ⟨M', h1, h2, h3⟩ := h
    exact ⟨M', e.trans h1, h2, hF.tr h3⟩
  · obtain ⟨M', h1, h2, h3⟩ := h
    exact ⟨M', e.trans h1, h2, hF.tr h3⟩
set_option maxHeartbeats 400000 in
theorem rk60 (o : Nat) : rkF 60 [.inr (some 17), .inr (some 2), .inl (o : Int)] = 3 + 8 * (7 - o) := by rw [rk_60]; rfl
set_option maxHeartbeats 400000 in
theorem rk59 (o : Nat) : rkF 59 [.inr (some 17), .inr (some 2), .inl (o : Int)] = 4 + 8 * (7 - o) := by rw [rk_59]; rfl
set_option maxHeartbeats 400000 in
theorem rk58 (o : Nat) : rkF 58 [.inr (some 17), .inr (some 2), .inl (o : Int)] = 5 + 8 * (7 - o) := by rw [rk_58]; rfl
set_option maxHeartbeats 400000 in
theorem s61 (x : Int) (M : aM) : fnA 61 [.inr (some 17), .inl x] M = some (some (.inl (if x = 98 ∨ x = 99 ∨ x = 111 ∨ x = 103 ∨ x = 101 ∨ x = 100 ∨ x = 109 then 1 else 0)), M) := by
  rw [E_61]
  by_cases h1 : x = 98
  · rw [if_pos h1, if_pos (Or.inl h1)]
  rw [if_neg h1]
  by_cases h2 : x = 99
  · rw [if_pos h2, if_pos (Or.inr (Or.inl h2))]
  rw [if_neg h2]
  by_cases h3 : x = 111
  · rw [if_pos h3, if_pos (Or.inr (Or.inr (Or.inl h3)))]
  rw [if_neg h3]
  by_cases h4 : x = 103
  · rw [if_pos h4, if_pos (Or.inr (Or.inr (Or.inr (Or.inl h4))))]
  rw [if_neg h4]
  by_cases h5 : x = 101
  · rw [if_pos h5, if_pos (Or.inr (Or.inr (Or.inr (Or.inr (Or.inl h5)))))]
  rw [if_neg h5]
  by_cases h6 : x = 100
  · rw [if_pos h6, if_pos (Or.inr (Or.inr (Or.inr (Or.inr (Or.inr (Or.inl h6))))))]
  rw [if_neg h6]
  by_cases h7 : x = 109
  · rw [if_pos h7, if_pos (Or.inr (Or.inr (Or.inr (Or.inr (Or.inr (Or.inr h7))))))]
  rw [if_neg h7, if_neg (fun z => by
    rcases z with z | z | z | z | z | z | z
    · exact h1 z
    · exact h2 z
    · exact h3 z
    · exact h4 z
    · exact h5 z
    · exact h6 z
    · exact h7 z)]
set_option maxHeartbeats 400000 in
theorem cfail {M : aM} {p k : Nat} (hk : k < 100) (hp : p < 900) (h : M 2 3 = (p : Int)) : (bI (fnA 103 [.inr (some 2), .inl (k : Int)] M) fun w M' => if w = 0 ∨ w = 1 then some (some (.inl w), M') else none) = some (some (.inl 0), upM M 2 5 (flt k p)) := by
  rw [s103 hk (by omega) h, bI_s, if_pos (Or.inl rfl)]
set_option maxHeartbeats 400000 in
theorem cS (hf : FT f N) : ∀ (n md o : Nat) (s : PS) (r : Int ⊕ PS) (M : aM), md ≤ 4 → o ≤ 6 → s.1 ≤ N → s.2.2.1 ≤ 2 * s.1 → pS f n md o s = some r → relC f N M s → (md = 0 → cOut f N M r (fnA 60 [.inr (some 17), .inr (some 2), .inl (o : Int)] M)) ∧ (md = 1 → cOut f N M r (fnA 59 [.inr (some 17), .inr (some 2), .inl (o : Int)] M)) ∧ (md = 2 → ∀ (i : Nat) (v : aV), i ≤ s.1 → cOut f N M r (run (4 + 8 * (7 - o)) 59 13 [.inr (some 17), .inr (some 2), .inl (o : Int), .inl (i : Int), v] [] M)) ∧ (md = 3 → cOut f N M r (fnA 58 [.inr (some 17), .inr (some 2), .inl (o : Int)] M)) ∧ (md = 4 → ∀ (i : Nat) (v : aV), i ≤ s.1 → cOut f N M r (run (5 + 8 * (7 - o)) 58 13 [.inr (some 17), .inr (some 2), .inl (o : Int), .inl (i : Int), v] [] M)) := by
  have hN := hf.1
  intro n
  induction n with
  | zero => intro md o s r M _ _ _ _ h; cases h
  | succ n ih =>
    intro md o s r M hmd ho hs ha h hM
    match md, hmd, h with
    | 0, _, h =>
      refine ⟨fun _ => ?_, fun z => absurd z (by decide), fun z => absurd z (by decide), fun z => absurd z (by decide), fun z => absurd z (by decide)⟩
      rw [pS_0] at h
      have hr : 3 ≤ 3 + 8 * (7 - o) := by omega
      rw [E_60, Int.toNat_natCast, B_60_0 hr, s101 hf hM.1, bI_s]
      by_cases g1 : f s.1 = 91
      · rw [if_pos g1] at h
        rw [if_pos g1]
        have hp : s.1 < N := p240 hf (by omega)
        by_cases g2 : 6 ≤ o
        · rw [if_pos g2] at h
          injection h with h
          subst h
          have h5 := cfail (k := 5) (p := s.1) (by decide) (by omega) hM.1.2.1
          rw [if_neg (by omega)]
          exact ⟨_, h5, up_s, CFc.rf.u2 (by omega)⟩
        · rw [if_neg g2] at h
          have hM1 := hM.adv
          have wo1 : wr ((o : Int) + 1) = ((o + 1 : Nat) : Int) := w1p (by omega)
          have hrk : 5 + 8 * (7 - (o + 1)) < 3 + 8 * (7 - o) := by omega
          rw [if_pos (by omega), s102 (p := s.1) (by omega) hM.1.2.1, bV_s, wo1, rk58, if_pos hrk]
          rcases bnd_o h with ⟨e, h1, rfl⟩ | ⟨u, h1, h2⟩
          · obtain ⟨M', c1, c2, c3⟩ := (ih 3 (o + 1) (adv s) _ _ (by decide) (by omega) (by show s.1 + 1 ≤ N; omega) (by show s.2.2.1 ≤ 2 * (s.1 + 1); omega) h1 hM1).2.2.2.1 rfl
            exact ⟨M', by rw [c1, bI_s, if_pos rfl], c2, (CFc.rf.u2 (by omega)).tr c3⟩
          · obtain ⟨M', c1, c2, c3⟩ := (ih 3 (o + 1) (adv s) _ _ (by decide) (by omega) (by show s.1 + 1 ≤ N; omega) (by show s.2.2.1 ≤ 2 * (s.1 + 1); omega) h1 hM1).2.2.2.1 rfl
            have hg := pS_gr hf n 3 (o + 1) (adv s) u (by show s.1 + 1 ≤ N; omega) h1
            have hu := hg.2.1
            rw [c1, bI_s, if_neg (by decide), s105 hf c2.1 (by omega)]
            unfold clo at h2
            by_cases g3 : f u.1 = 93
            · rw [if_pos g3] at h2
              injection h2 with h2
              subst h2
              rw [if_pos g3, bI_s, if_neg (by decide)]
              exact ⟨_, rfl, c2.adv, ((CFc.rf.u2 (by omega)).tr c3).u2 (by omega)⟩
            · rw [if_neg g3] at h2
              injection h2 with h2
              subst h2
              rw [if_neg g3, bI_s, if_pos rfl]
              exact ⟨_, rfl, up_s, ((CFc.rf.u2 (by omega)).tr c3).u2 (by omega)⟩
      · rw [if_neg g1] at h
        rw [if_neg g1, s61, bI_s]
        by_cases g2 : f s.1 = 98 ∨ f s.1 = 99 ∨ f s.1 = 111 ∨ f s.1 = 103 ∨ f s.1 = 101 ∨ f s.1 = 100 ∨ f s.1 = 109
        · rw [if_pos g2] at h
          have hp : s.1 < N := p240 hf (by omega)
          injection h with h
          subst h
          have hM1 := hM.adv
          rw [if_pos g2, if_neg (by decide), s102 (p := s.1) (by omega) hM.1.2.1, bV_s, s47 (a := s.2.2.1) (by omega) hM1.2.1, bV_s]
          exact ⟨_, rfl, hM1.op (f s.1) _, (CFc.rf.u2 (by omega)).ad⟩
        · rw [if_neg g2] at h
          rw [if_neg g2, if_pos rfl]
          obtain ⟨M1, c1, c2⟩ := s106 hf (fun _ => false) rfl (K := 4) (by decide) hM.1 (by omega)
          have hF1 : CFc M M1 := ⟨c1.le (fun q hq => by cases hq), by rw [c1.1 18 (by decide) rfl]⟩
          cases e : pnum1 f 5 s.1 with
          | inl x =>
            rw [e] at h
            rw [show pnum1 f (4 + 1) s.1 = .inl x from e] at c2
            injection h with h
            subst h
            obtain ⟨c3, c4⟩ := c2
            have c3' : fnA 106 [.inr (some 2), .inl 5] M = some (some (.inl 0), M1) := c3
            exact ⟨M1, by rw [c3', bI_s, if_pos rfl], c4, hF1⟩
          | inr pv =>
            obtain ⟨p', v⟩ := pv
            rw [e] at h
            rw [show pnum1 f (4 + 1) s.1 = .inr (p', v) from e] at c2
            have h' : some (.inr (emN s p' v)) = some r := h
            injection h' with h'
            subst h'
            have b1 := pnum1_b (k := 4) e
            have b2 := pnum1_f hf hs e
            obtain ⟨c3, c4, c5⟩ := c2
            have c3' : fnA 106 [.inr (some 2), .inl 5] M = some (some (.inl 1), M1) := c3
            have d6 : M1 18 6 = (s.2.2.1 : Int) := by rw [c1.1 18 (by decide) rfl]; exact hM.2.1
            have d4 : ad1 M1 s.2.2.1 48 2 4 = v := by rw [ad1_o _ _ _ (by decide) (by decide)]; exact c5
            have hX1 : CX f N p' M1 := hM.1.mv c1 rfl c4
            refine ⟨ad1 (ad1 M1 s.2.2.1 48) (s.2.2.1 + 1) v, ?_, ⟨(hX1.ad _ _).ad _ _, ad1_6 _ _ _, ?_⟩, hF1.ad.ad⟩
            · rw [c3', bI_s, if_neg (by decide), s47 (a := s.2.2.1) (by omega) d6, bV_s, d4, s47 (a := s.2.2.1 + 1) (by omega) (ad1_6 _ _ _), bV_s]
            · rw [ad1_23, ad1_23, c1.1 23 (by decide) rfl, hM.2.2]; rfl
    | 1, _, h =>
      refine ⟨fun z => absurd z (by decide), fun _ => ?_, fun z => absurd z (by decide), fun z => absurd z (by decide), fun z => absurd z (by decide)⟩
      rw [pS_1] at h
      have hr : 3 ≤ 4 + 8 * (7 - o) := by omega
      have hrk : 3 + 8 * (7 - o) < 4 + 8 * (7 - o) := by omega
      rw [E_59, Int.toNat_natCast, B_59_0 hr, rk60, if_pos hrk]
      rcases bnd_o h with ⟨e, h1, rfl⟩ | ⟨u, h1, h2⟩
      · obtain ⟨M', c1, c2, c3⟩ := (ih 0 o s _ M (by decide) ho hs ha h1 hM).1 rfl
        exact ⟨M', by rw [c1, bI_s, if_pos rfl], c2, c3⟩
      · obtain ⟨M', c1, c2, c3⟩ := (ih 0 o s _ M (by decide) ho hs ha h1 hM).1 rfl
        have hg := pS_gr hf n 0 o s u hs h1
        have hau : u.2.2.1 ≤ 2 * u.1 := by unfold GR at hg; omega
        refine ((ih 2 o u r M' (by decide) ho hg.2.1 hau h2 c2).2.2.1 rfl 0 (.inr none) (Nat.zero_le _)).go ?_ c3
        rw [c1, bI_s, if_neg (by decide)]
        rfl
    | 2, _, h =>
      refine ⟨fun z => absurd z (by decide), fun z => absurd z (by decide), fun _ i v hi => ?_, fun z => absurd z (by decide), fun z => absurd z (by decide)⟩
      rw [pS_2] at h
      have hr : 3 ≤ 4 + 8 * (7 - o) := by omega
      have hrk : 3 + 8 * (7 - o) < 4 + 8 * (7 - o) := by omega
      by_cases g : f s.1 = 42 ∨ f s.1 = 47 ∨ f s.1 = 37
      · rw [if_pos g] at h
        have hp : s.1 < N := p240 hf (by omega)
        have hM1 := hM.adv
        have e0 : run (4 + 8 * (7 - o)) 59 13 [.inr (some 17), .inr (some 2), .inl (o : Int), .inl (i : Int), v] [] M = bI (fnA 60 [.inr (some 17), .inr (some 2), .inl (o : Int)] (upM M 2 3 ((s.1 + 1 : Nat) : Int))) fun w2 M2 => if w2 = 0 then some (some (.inl 0), M2) else bV (fnA 47 [.inr (some 18), .inl (f s.1)] M2) fun M3 => run (4 + 8 * (7 - o)) 59 13 [.inr (some 17), .inr (some 2), .inl (o : Int), .inl ((i + 1 : Nat) : Int), .inl (f s.1)] [] M3 := by
          have e1 : run (4 + 8 * (7 - o)) 59 49 [.inr (some 17), .inr (some 2), .inl (o : Int), .inl (i : Int), .inl (f s.1)] [] M = bI (fnA 60 [.inr (some 17), .inr (some 2), .inl (o : Int)] (upM M 2 3 ((s.1 + 1 : Nat) : Int))) fun w2 M2 => if w2 = 0 then some (some (.inl 0), M2) else bV (fnA 47 [.inr (some 18), .inl (f s.1)] M2) fun M3 => run (4 + 8 * (7 - o)) 59 13 [.inr (some 17), .inr (some 2), .inl (o : Int), .inl ((i + 1 : Nat) : Int), .inl (f s.1)] [] M3 := by
            rw [B_59_49 hr, s102 (p := s.1) (by omega) hM.1.2.1, bV_s, rk60, if_pos hrk, w1p (by omega)]
          rw [B_59_13 hr, if_neg (by omega), s101 hf hM.1, bI_s]
          by_cases g1 : f s.1 = 42
          · rw [if_pos g1]; exact e1
          · rw [if_neg g1]
            by_cases g2 : f s.1 = 47
            · rw [if_pos g2]; exact e1
            · rw [if_neg g2, if_pos ((g.resolve_left g1).resolve_left g2)]; exact e1
        rw [e0]
        rcases bnd_o h with ⟨e, h1, rfl⟩ | ⟨u, h1, h2⟩
        · obtain ⟨M', c1, c2, c3⟩ := (ih 0 o (adv s) _ _ (by decide) ho (by show s.1 + 1 ≤ N; omega) (by show s.2.2.1 ≤ 2 * (s.1 + 1); omega) h1 hM1).1 rfl
          exact ⟨M', by rw [c1, bI_s, if_pos rfl], c2, (CFc.rf.u2 (by omega)).tr c3⟩
        · obtain ⟨M', c1, c2, c3⟩ := (ih 0 o (adv s) _ _ (by decide) ho (by show s.1 + 1 ≤ N; omega) (by show s.2.2.1 ≤ 2 * (s.1 + 1); omega) h1 hM1).1 rfl
          have hg := pS_gr hf n 0 o (adv s) u (by show s.1 + 1 ≤ N; omega) h1
          have hg1 : s.1 + 1 ≤ u.1 := hg.1
          have hau : u.2.2.1 + 2 ≤ 2 * u.1 := by
            have hg3 : u.2.2.1 + 2 * (s.1 + 1) ≤ s.2.2.1 + 2 * u.1 := hg.2.2.1
            omega
          have huN := hg.2.1
          refine ((ih 2 o (em1 u (f s.1) (1048576 * opO (f s.1))) r (ad1 M' u.2.2.1 (f s.1)) (by decide) ho huN (by show u.2.2.1 + 1 ≤ 2 * u.1; omega) h2 (c2.op _ _)).2.2.1 rfl (i + 1) (.inl (f s.1)) (by show i + 1 ≤ u.1; omega)).go ?_ ((CFc.rf.u2 (by omega)).tr c3).ad
          rw [c1, bI_s, if_neg (by decide), s47 (a := u.2.2.1) (by omega) c2.2.1, bV_s]
      · rw [if_neg g] at h
        injection h with h
        subst h
        refine ⟨M, ?_, hM, CFc.rf⟩
        rw [B_59_13 hr]
        by_cases g0 : (240 : Int) ≤ (i : Int)
        · rw [if_pos g0]
        · rw [if_neg g0, s101 hf hM.1, bI_s, if_neg (fun z => g (Or.inl z)), if_neg (fun z => g (Or.inr (Or.inl z))), if_neg (fun z => g (Or.inr (Or.inr z)))]
    | 3, _, h =>
      refine ⟨fun z => absurd z (by decide), fun z => absurd z (by decide), fun z => absurd z (by decide), fun _ => ?_, fun z => absurd z (by decide)⟩
      rw [pS_3] at h
      have hr : 3 ≤ 5 + 8 * (7 - o) := by omega
      have hrk : 4 + 8 * (7 - o) < 5 + 8 * (7 - o) := by omega
      rw [E_58, Int.toNat_natCast, B_58_0 hr, rk59, if_pos hrk]
      rcases bnd_o h with ⟨e, h1, rfl⟩ | ⟨u, h1, h2⟩
      · obtain ⟨M', c1, c2, c3⟩ := (ih 1 o s _ M (by decide) ho hs ha h1 hM).2.1 rfl
        exact ⟨M', by rw [c1, bI_s, if_pos rfl], c2, c3⟩
      · obtain ⟨M', c1, c2, c3⟩ := (ih 1 o s _ M (by decide) ho hs ha h1 hM).2.1 rfl
        have hg := pS_gr hf n 1 o s u hs h1
        have hau : u.2.2.1 ≤ 2 * u.1 := by unfold GR at hg; omega
        refine ((ih 4 o u r M' (by decide) ho hg.2.1 hau h2 c2).2.2.2.2 rfl 0 (.inr none) (Nat.zero_le _)).go ?_ c3
        rw [c1, bI_s, if_neg (by decide)]
        rfl
    | 4, _, h =>
      refine ⟨fun z => absurd z (by decide), fun z => absurd z (by decide), fun z => absurd z (by decide), fun z => absurd z (by decide), fun _ i v hi => ?_⟩
      rw [pS_4] at h
      have hr : 3 ≤ 5 + 8 * (7 - o) := by omega
      have hrk : 4 + 8 * (7 - o) < 5 + 8 * (7 - o) := by omega
      by_cases g : f s.1 = 43 ∨ f s.1 = 45
      · rw [if_pos g] at h
        have hp : s.1 < N := p240 hf (by omega)
        have hM1 := hM.adv
        have e0 : run (5 + 8 * (7 - o)) 58 13 [.inr (some 17), .inr (some 2), .inl (o : Int), .inl (i : Int), v] [] M = bI (fnA 59 [.inr (some 17), .inr (some 2), .inl (o : Int)] (upM M 2 3 ((s.1 + 1 : Nat) : Int))) fun w2 M2 => if w2 = 0 then some (some (.inl 0), M2) else bV (fnA 47 [.inr (some 18), .inl (f s.1)] M2) fun M3 => run (5 + 8 * (7 - o)) 58 13 [.inr (some 17), .inr (some 2), .inl (o : Int), .inl ((i + 1 : Nat) : Int), .inl (f s.1)] [] M3 := by
          have e1 : run (5 + 8 * (7 - o)) 58 42 [.inr (some 17), .inr (some 2), .inl (o : Int), .inl (i : Int), .inl (f s.1)] [] M = bI (fnA 59 [.inr (some 17), .inr (some 2), .inl (o : Int)] (upM M 2 3 ((s.1 + 1 : Nat) : Int))) fun w2 M2 => if w2 = 0 then some (some (.inl 0), M2) else bV (fnA 47 [.inr (some 18), .inl (f s.1)] M2) fun M3 => run (5 + 8 * (7 - o)) 58 13 [.inr (some 17), .inr (some 2), .inl (o : Int), .inl ((i + 1 : Nat) : Int), .inl (f s.1)] [] M3 := by
            rw [B_58_42 hr, s102 (p := s.1) (by omega) hM.1.2.1, bV_s, rk59, if_pos hrk, w1p (by omega)]
          rw [B_58_13 hr, if_neg (by omega), s101 hf hM.1, bI_s]
          by_cases g1 : f s.1 = 43
          · rw [if_pos g1]; exact e1
          · rw [if_neg g1, if_pos (g.resolve_left g1)]; exact e1
        rw [e0]
        rcases bnd_o h with ⟨e, h1, rfl⟩ | ⟨u, h1, h2⟩
        · obtain ⟨M', c1, c2, c3⟩ := (ih 1 o (adv s) _ _ (by decide) ho (by show s.1 + 1 ≤ N; omega) (by show s.2.2.1 ≤ 2 * (s.1 + 1); omega) h1 hM1).2.1 rfl
          exact ⟨M', by rw [c1, bI_s, if_pos rfl], c2, (CFc.rf.u2 (by omega)).tr c3⟩
        · obtain ⟨M', c1, c2, c3⟩ := (ih 1 o (adv s) _ _ (by decide) ho (by show s.1 + 1 ≤ N; omega) (by show s.2.2.1 ≤ 2 * (s.1 + 1); omega) h1 hM1).2.1 rfl
          have hg := pS_gr hf n 1 o (adv s) u (by show s.1 + 1 ≤ N; omega) h1
          have hg1 : s.1 + 1 ≤ u.1 := hg.1
          have hau : u.2.2.1 + 2 ≤ 2 * u.1 := by
            have hg3 : u.2.2.1 + 2 * (s.1 + 1) ≤ s.2.2.1 + 2 * u.1 := hg.2.2.1
            omega
          have huN := hg.2.1
          refine ((ih 4 o (em1 u (f s.1) (1048576 * opO (f s.1))) r (ad1 M' u.2.2.1 (f s.1)) (by decide) ho huN (by show u.2.2.1 + 1 ≤ 2 * u.1; omega) h2 (c2.op _ _)).2.2.2.2 rfl (i + 1) (.inl (f s.1)) (by show i + 1 ≤ u.1; omega)).go ?_ ((CFc.rf.u2 (by omega)).tr c3).ad
          rw [c1, bI_s, if_neg (by decide), s47 (a := u.2.2.1) (by omega) c2.2.1, bV_s]
      · rw [if_neg g] at h
        injection h with h
        subst h
        refine ⟨M, ?_, hM, CFc.rf⟩
        rw [B_58_13 hr]
        by_cases g0 : (240 : Int) ≤ (i : Int)
        · rw [if_pos g0]
        · rw [if_neg g0, s101 hf hM.1, bI_s, if_neg (fun z => g (Or.inl z)), if_neg (fun z => g (Or.inr z))]
end CSM
