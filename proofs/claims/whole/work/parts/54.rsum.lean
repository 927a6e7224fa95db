/-! The reference reads sums as the abstract reader does; what waits is not noted yet. -/
section RSM
variable {f : Nat → Int} {N : Nat}
noncomputable def LOOPx (base : Nat) (v : aV) (R : aM) : aX := run 4 215 14 [.inr (some 53), .inl (base : Int), v] [] R
noncomputable def FACx (base : Nat) (v : aV) (R : aM) : aX := bI (run 3 213 0 [.inr (some 53), .inr none] [] R) (fun w1 M1 => if w1 = 0 then some (some (.inl 0), M1) else run 4 215 14 [.inr (some 53), .inl (base : Int), v] [] M1)
def rQ (f : Nat → Int) (N : Nat) (R : aM) (s : PS) (o w0 : Nat) (pd : List Int) : Prop := RX f N s.1 R ∧ R 53 9 = (o : Int) ∧ R 53 11 = ((w0 + pd.length : Nat) : Int) ∧ PK R w0 pd ∧ ∃ b0 : Nat, R 53 10 = (b0 : Int) ∧ emL (R 58) b0 pd = (s.2.2.2.1, s.2.2.2.2)
def kd0 (pd : List Int) : Prop := pd = []
def kdM (pd : List Int) : Prop := pd = [] ∨ ∃ m, (4 ≤ m ∧ m ≤ 6) ∧ pd = [m]
def kdS (pd : List Int) : Prop := ∃ ml al, kdM ml ∧ (al = [] ∨ ∃ a, (a = 2 ∨ a = 3) ∧ al = [a]) ∧ pd = ml ++ al
def rOut (f : Nat → Int) (N base o w0 : Nat) (kd : List Int → Prop) (R : aM) (r : Int ⊕ PS) (X : aX) : Prop := match r with
  | .inl e => ∃ R', X = some (some (.inl 0), R') ∧ R' 53 7 = e ∧ KW w0 R R'
  | .inr t => ∃ R' v pd, X = LOOPx base v R' ∧ rQ f N R' t o w0 pd ∧ kd pd ∧ w0 + pd.length ≤ t.1 ∧ KW w0 R R'
set_option maxHeartbeats 400000 in
theorem rOut.go {base o w0 : Nat} {kd : List Int → Prop} {R R1 : aM} {r : Int ⊕ PS} {X Y : aX} (h : rOut f N base o w0 kd R1 r Y) (e : X = Y) (hF : KW w0 R R1) : rOut f N base o w0 kd R r X := by
  unfold rOut at *
  rcases r with x | t
  · obtain ⟨R', h1, h2, h3⟩ := h
    exact ⟨R', e.trans h1, h2, hF.tr h3⟩
  · obtain ⟨R', v, pd, h1, h2, h3, h4, h5⟩ := h
    exact ⟨R', v, pd, e.trans h1, h2, h3, h4, hF.tr h5⟩
set_option maxHeartbeats 400000 in
theorem kdM_in {pd : List Int} (h : kdM pd) : ∀ x, x ∈ pd → inS 0 x := by
  intro x hx
  rcases h with rfl | ⟨m, hm, rfl⟩
  · cases hx
  · rw [List.mem_singleton] at hx
    rw [hx]; exact Or.inl hm
set_option maxHeartbeats 400000 in
theorem kdM_len {pd : List Int} (h : kdM pd) : pd.length ≤ 1 := by
  rcases h with rfl | ⟨m, hm, rfl⟩
  · exact Nat.zero_le _
  · exact Nat.le_refl _
set_option maxHeartbeats 400000 in
theorem kdS_in {pd : List Int} (h : kdS pd) : ∀ x, x ∈ pd → inS 1 x := by
  intro x hx
  obtain ⟨ml, al, h1, h2, rfl⟩ := h
  rw [List.mem_append] at hx
  rcases hx with hx | hx
  · rcases kdM_in h1 x hx with z | z
    · exact Or.inl z
    · exact absurd rfl z.1
  · rcases h2 with rfl | ⟨a, ha, rfl⟩
    · cases hx
    · rw [List.mem_singleton] at hx
      rw [hx]; exact Or.inr ⟨by decide, ha⟩
set_option maxHeartbeats 400000 in
theorem kdS_len {pd : List Int} (h : kdS pd) : pd.length ≤ 2 := by
  obtain ⟨ml, al, h1, h2, rfl⟩ := h
  have := kdM_len h1
  rw [List.length_append]
  rcases h2 with rfl | ⟨a, ha, rfl⟩
  · simp only [List.length_nil]; omega
  · simp only [List.length_singleton]; omega
set_option maxHeartbeats 400000 in
theorem kdM_S {pd : List Int} (h : kdM pd) : kdS pd := ⟨pd, [], h, Or.inl rfl, (List.append_nil pd).symm⟩
set_option maxHeartbeats 400000 in
theorem inS_01 {y : Int} (h : ¬ inS 1 y) : ¬ inS 0 y := fun z => h (z.elim Or.inl (fun w => absurd rfl w.1))
/- where sums end -/
set_option maxHeartbeats 400000 in
theorem pS_end (f : Nat → Int) : ∀ (n md o : Nat) (s t : PS), md ≤ 4 → pS f n md o s = some (.inr t) → ((md = 1 ∨ md = 2) → ¬ (f t.1 = 42 ∨ f t.1 = 47 ∨ f t.1 = 37)) ∧ (md = 3 → ¬ (f t.1 = 42 ∨ f t.1 = 47 ∨ f t.1 = 37) ∧ ¬ (f t.1 = 43 ∨ f t.1 = 45)) ∧ (md = 4 → ¬ (f s.1 = 42 ∨ f s.1 = 47 ∨ f s.1 = 37) → ¬ (f t.1 = 42 ∨ f t.1 = 47 ∨ f t.1 = 37) ∧ ¬ (f t.1 = 43 ∨ f t.1 = 45)) := by
  intro n
  induction n with
  | zero => intro md o s t _ h; cases h
  | succ n ih =>
    intro md o s t hmd h
    match md, hmd, h with
    | 0, _, h => exact ⟨fun z => absurd z (by decide), fun z => absurd z (by decide), fun z => absurd z (by decide)⟩
    | 1, _, h =>
      rw [pS_1] at h
      obtain ⟨u, h1, h2⟩ := bnd_r h
      exact ⟨fun _ => (ih 2 o u t (by decide) h2).1 (Or.inr rfl), fun z => absurd z (by decide), fun z => absurd z (by decide)⟩
    | 2, _, h =>
      refine ⟨fun _ => ?_, fun z => absurd z (by decide), fun z => absurd z (by decide)⟩
      rw [pS_2] at h
      by_cases g : f s.1 = 42 ∨ f s.1 = 47 ∨ f s.1 = 37
      · rw [if_pos g] at h
        obtain ⟨u, h1, h2⟩ := bnd_r h
        exact (ih 2 o _ t (by decide) h2).1 (Or.inr rfl)
      · rw [if_neg g] at h
        injection h with h
        injection h with h
        rw [← h]; exact g
    | 3, _, h =>
      refine ⟨fun z => absurd z (by decide), fun _ => ?_, fun z => absurd z (by decide)⟩
      rw [pS_3] at h
      obtain ⟨u, h1, h2⟩ := bnd_r h
      exact (ih 4 o u t (by decide) h2).2.2 rfl ((ih 1 o s u (by decide) h1).1 (Or.inl rfl))
    | 4, _, h =>
      refine ⟨fun z => absurd z (by decide), fun z => absurd z (by decide), fun _ hs => ?_⟩
      rw [pS_4] at h
      by_cases g : f s.1 = 43 ∨ f s.1 = 45
      · rw [if_pos g] at h
        obtain ⟨u, h1, h2⟩ := bnd_r h
        exact (ih 4 o _ t (by decide) h2).2.2 rfl ((ih 1 o _ u (by decide) h1).1 (Or.inl rfl))
      · rw [if_neg g] at h
        injection h with h
        injection h with h
        rw [← h]; exact ⟨hs, g⟩
set_option maxHeartbeats 400000 in
theorem rQ.wrap {R : aM} {u : PS} {o w0 : Nat} {pd : List Int} {m : Int} (h : rQ f N R u o (w0 + 1) pd) (hm : R 59 w0 = 1048576 * m) (c : Int) : rQ f N R (em1 u c (1048576 * m)) o w0 (pd ++ [m]) := by
  obtain ⟨h1, h2, h3, h4, b0, h5, h6⟩ := h
  refine ⟨h1, h2, ?_, PK.app hm h4, b0, h5, ?_⟩
  · rw [h3, List.length_append, List.length_singleton, show w0 + (pd.length + 1) = w0 + 1 + pd.length by omega]
  · rw [emL_app, h6]; rfl
/- what waits is noted, and a sign waits in its place -/
set_option maxHeartbeats 400000 in
theorem push {R : aM} {s : PS} {o w0 base : Nat} {pd : List Int} {x1 m : Int} (hf : FT f N) (h : rQ f N R s o w0 pd) (hS : ∀ x, x ∈ pd → inS x1 x) (ht : ¬ inS x1 (tp R w0)) (hm : 0 ≤ m ∧ m ≤ 20) (hs : s.1 < N) (hb : s.2.2.2.2 ≤ s.1) (hw : w0 + pd.length ≤ s.1) : ∃ R2, run 4 215 38 [.inr (some 53), .inl (base : Int), .inl m] [.inl x1, .inr (some 53)] R = FACx base (.inl m) R2 ∧ rQ f N R2 (adv s) o (w0 + 1) [] ∧ R2 59 w0 = 1048576 * m ∧ KW w0 R R2 := by
  have hN := hf.1
  obtain ⟨h1, h2, h3, h4, b0, h5, h6⟩ := h
  have hlen := emL_b pd (R 58) b0
  rw [h6] at hlen
  have hlen' : s.2.2.2.2 = b0 + pd.length := hlen
  obtain ⟨R1, c1, c2, c3, c4, c5, c6, c7⟩ := s212f pd R b0 hS ht h3 h4 h5 (by omega) (by omega)
  rw [h6] at c3 c4
  have c1' : fnA 212 [.inr (some 53), .inl x1] R = some (none, R1) := by rw [E_212]; exact c1
  have wm : wr (1048576 * m) = 1048576 * m := wr_s (by omega) (by omega)
  have h15 : R1 53 5 = (s.1 : Int) := by rw [c7 5 (by decide) (by decide)]; exact h1.2.1
  have hX1 : RX f N s.1 R1 := ⟨by rw [c7 6 (by decide) (by decide)]; exact h1.1, h15, fun i hi => by rw [c6 57 (by decide) (by decide)]; exact h1.2.2 i hi⟩
  refine ⟨upM (upM (upM R1 59 w0 (1048576 * m)) 53 11 ((w0 + 1 : Nat) : Int)) 53 5 ((s.1 + 1 : Nat) : Int), ?_, ⟨((hX1.oq (by decide)).o (by decide)).st (s.1 + 1), ?_, ?_, trivial, s.2.2.2.2, ?_, ?_⟩, ?_, ?_⟩
  · rw [B_215_38, c1', bV_s, c2, if_pos (by omega), Int.toNat_natCast, wm, up_o (by decide), c2, w1p (by omega), up_j (by decide), up_o (by decide), h15, w1p (by omega), E_213]
    rfl
  · rw [up_j (by decide), up_j (by decide), up_o (by decide), c7 9 (by decide) (by decide)]; exact h2
  · rw [up_j (by decide), up_s]; rfl
  · rw [up_j (by decide), up_j (by decide), up_o (by decide), c3]
  · rw [up_ne (by decide), up_ne (by decide), up_ne (by decide), c4]; rfl
  · rw [up_o (by decide), up_o (by decide), up_s]
  · have k1 : KW w0 R R1 := ⟨⟨fun q q1 q2 => c6 q q1 (fun e => by rw [e] at q2; cases q2), fun j hj => c7 j (fun e => by rw [e] at hj; cases hj) (fun e => by rw [e] at hj; cases hj)⟩, fun i hi => by rw [c5]⟩
    exact ((k1.u59 (Nat.le_refl _)).u rfl).u rfl
set_option maxHeartbeats 400000 in
theorem rS (hf : FT f N) : ∀ (n md o : Nat) (s : PS) (r : Int ⊕ PS) (R : aM) (base : Nat) (v : aV) (w0 : Nat) (pd : List Int), md ≤ 4 → o ≤ 6 → s.1 ≤ N → s.2.2.2.2 ≤ s.1 → base ≤ w0 → w0 + pd.length ≤ s.1 → pS f n md o s = some r → rQ f N R s o w0 pd → (md = 0 → pd = [] → rOut f N base o w0 kd0 R r (FACx base v R)) ∧ (md = 1 → pd = [] → ¬ inS 0 (tp R w0) → rOut f N base o w0 kdM R r (FACx base v R)) ∧ (md = 2 → kdM pd → ¬ inS 0 (tp R w0) → rOut f N base o w0 kdM R r (LOOPx base v R)) ∧ (md = 3 → pd = [] → ¬ inS 1 (tp R w0) → rOut f N base o w0 kdS R r (FACx base v R)) ∧ (md = 4 → kdS pd → ¬ inS 1 (tp R w0) → rOut f N base o w0 kdS R r (LOOPx base v R)) := by
  have hN := hf.1
  intro n
  induction n with
  | zero => intro md o s r R base v w0 pd _ _ _ _ _ _ h; cases h
  | succ n ih =>
    intro md o s r R base v w0 pd hmd ho hs hb hbase hw h hQ
    match md, hmd, h with
    | 0, _, h =>
      refine ⟨fun _ hpd => ?_, fun z => absurd z (by decide), fun z => absurd z (by decide), fun z => absurd z (by decide), fun z => absurd z (by decide)⟩
      subst hpd
      obtain ⟨h1, h2, h3, -, b0, h5, h6⟩ := hQ
      have h11 : R 53 11 = (w0 : Int) := h3
      have h58 : R 58 = s.2.2.2.1 := congrArg Prod.fst h6
      have hb0 : b0 = s.2.2.2.2 := congrArg Prod.snd h6
      subst hb0
      have hws : w0 ≤ s.1 := hw
      rw [pS_0] at h
      by_cases g1 : f s.1 = 91
      · rw [if_pos g1] at h
        have hp : s.1 < N := p240 hf (by omega)
        have e208 := s208 (k := 14) ho h2 h11 h1.2.1 (by omega) (by omega) (by decide)
        by_cases g2 : 6 ≤ o
        · rw [if_pos g2] at h e208
          injection h with h
          subst h
          refine ⟨_, ?_, up_s, KW.rf.u rfl⟩
          unfold FACx
          rw [B_213_0, s202 hf h1, bI_s, if_pos g1, e208, bI_s, if_pos rfl, bI_s, if_pos rfl]
        rw [if_neg g2] at h e208
        have eF : FACx base v R = FACx base v (op1 R o w0 s.1 14) := by
          unfold FACx
          rw [B_213_0, s202 hf h1, bI_s, if_pos g1, e208, bI_s, if_neg (by decide)]
        have hQ1 : rQ f N (op1 R o w0 s.1 14) (adv s) (o + 1) (w0 + 1) [] := by
          unfold op1
          refine ⟨(((h1.o (by decide)).oq (by decide)).o (by decide)).st (s.1 + 1), ?_, ?_, trivial, s.2.2.2.2, ?_, ?_⟩
          · rw [up_j (by decide), up_j (by decide), up_o (by decide), up_s]
          · rw [up_j (by decide), up_s]; rfl
          · rw [up_j (by decide), up_j (by decide), up_o (by decide), up_j (by decide)]; exact h5
          · rw [up_ne (by decide), up_ne (by decide), up_ne (by decide), up_ne (by decide), h58]; rfl
        have hK1 : KW w0 R (op1 R o w0 s.1 14) := ((((KW.rf.u rfl).u59 (Nat.le_refl _)).u rfl).u rfl)
        have h59 : op1 R o w0 s.1 14 59 w0 = 1048576 * 14 := by
          unfold op1
          rw [up_o (by decide), up_o (by decide), up_s]
        have ht1 : tp (op1 R o w0 s.1 14) (w0 + 1) = 14 := tp_e (v := 0) (by rw [h59]; rfl) (by decide) (by decide)
        have hns : ¬ inS 1 (tp (op1 R o w0 s.1 14) (w0 + 1)) := by rw [ht1]; unfold inS; omega
        have ih3 := fun r h => (ih 3 (o + 1) (adv s) r (op1 R o w0 s.1 14) base v (w0 + 1) [] (by decide) (by omega) (by show s.1 + 1 ≤ N; omega) (by show s.2.2.2.2 ≤ s.1 + 1; omega) (by omega) (by show w0 + 1 + 0 ≤ s.1 + 1; omega) h hQ1).2.2.2.1 rfl rfl hns
        rcases bnd_o h with ⟨e, a1, rfl⟩ | ⟨u, a1, a2⟩
        · obtain ⟨R', c1, c2, c3⟩ := ih3 _ a1
          exact ⟨R', eF.trans c1, c2, hK1.tr (c3.le (by omega))⟩
        obtain ⟨R1, v1, pd1, c1, c2, c3, c4, c5⟩ := ih3 _ a1
        have hen := (pS_end f n 3 (o + 1) (adv s) u (by decide) a1).2.1 rfl
        have hgr := pS_gr hf n 3 (o + 1) (adv s) u (by show s.1 + 1 ≤ N; omega) a1
        have hgb : u.2.2.2.2 ≤ u.1 := by
          have z : u.2.2.2.2 + (s.1 + 1) ≤ s.2.2.2.2 + u.1 := hgr.2.2.2.1
          omega
        have huN := hgr.2.1
        have hsm := smO_n hen.1 hen.2
        obtain ⟨d1, d2, d3, d4, b1, d5, d6⟩ := c2
        have hlen := emL_b pd1 (R1 58) b1
        rw [d6] at hlen
        have hlen' : u.2.2.2.2 = b1 + pd1.length := hlen
        have k2 := kdS_len c3
        have hx14 : ∃ i, base ≤ i ∧ i < w0 + 1 + pd1.length ∧ wr ((R1 59 i).tdiv 1048576) = 14 := ⟨w0, hbase, by omega, by rw [c5.2 w0 (by omega), h59]; decide⟩
        have e214 := s214 d3 (by omega) (base := base) (by omega)
        rw [bI1_t hx14] at e214
        unfold clo at a2
        by_cases g3 : f u.1 = 93
        · rw [if_pos g3] at a2
          injection a2 with a2
          subst a2
          have htp1 : ¬ inS 1 (tp R1 (w0 + 1)) := by rw [tp_c (R := op1 R o w0 s.1 14) (fun i hi => c5.2 i hi)]; exact hns
          obtain ⟨R2, m1, m2, m3, m4, m5, m6, m7⟩ := s212f (x1 := 1) pd1 R1 b1 (kdS_in c3) htp1 d3 d4 d5 (by omega) (by omega)
          rw [d6] at m3 m4
          have m1' : fnA 212 [.inr (some 53), .inl 1] R1 = some (none, R2) := by rw [E_212]; exact m1
          have n5 : R2 53 5 = (u.1 : Int) := by rw [m7 5 (by decide) (by decide)]; exact d1.2.1
          have n9 : R2 53 9 = ((o + 1 : Nat) : Int) := by rw [m7 9 (by decide) (by decide)]; exact d2
          have hX2 : RX f N u.1 R2 := ⟨by rw [m7 6 (by decide) (by decide)]; exact d1.1, n5, fun i hi => by rw [m6 57 (by decide) (by decide)]; exact d1.2.2 i hi⟩
          refine ⟨upM (upM (upM R2 53 11 (w0 : Int)) 53 9 (o : Int)) 53 5 ((u.1 + 1 : Nat) : Int), .inl (-1), [], ?_, ⟨((hX2.o (by decide)).o (by decide)).st (u.1 + 1), ?_, ?_, trivial, u.2.2.2.2, ?_, ?_⟩, rfl, ?_, ?_⟩
          · refine eF.trans (c1.trans ?_)
            unfold LOOPx
            rw [B_215_14, s202 hf d1, bI_s, s211, bI_s, hsm, if_pos rfl, s202 hf d1, bI_s, if_pos g3, e214, bI_s, if_neg (by decide), m1', bV_s, m2, wm1 (by omega), up_j (by decide), n9, wm1 (by omega), up_j (by decide), up_j (by decide), n5, w1p (by omega)]
          · rw [up_j (by decide), up_s]
          · rw [up_j (by decide), up_j (by decide), up_s]; rfl
          · rw [up_j (by decide), up_j (by decide), up_j (by decide), m3]
          · rw [up_ne (by decide), up_ne (by decide), up_ne (by decide), m4]; rfl
          · show w0 + 0 ≤ u.1 + 1; omega
          · have k3 : KW (w0 + 1) R1 R2 := ⟨⟨fun q q1 q2 => m6 q q1 (fun e => by rw [e] at q2; cases q2), fun j hj => m7 j (fun e => by rw [e] at hj; cases hj) (fun e => by rw [e] at hj; cases hj)⟩, fun i hi => by rw [m5]⟩
            exact (((hK1.tr ((c5.tr k3).le (by omega))).u rfl).u rfl).u rfl
        · rw [if_neg g3] at a2
          injection a2 with a2
          subst a2
          have h204 := s204 (k := 1) (p := u.1) (by decide) (by omega) R1
          have h204' : fnA 204 [.inr (some 53), .inl 1, .inl (u.1 : Int)] R1 = some (some (.inl 0), upM R1 53 7 (flt 1 u.1)) := h204
          refine ⟨_, ?_, up_s, (hK1.tr (c5.le (by omega))).u rfl⟩
          refine eF.trans (c1.trans ?_)
          unfold LOOPx
          rw [B_215_14, s202 hf d1, bI_s, s211, bI_s, hsm, if_pos rfl, s202 hf d1, bI_s, if_neg g3, B_215_138, e214, bI_s, if_neg (by decide), d1.2.1, h204', bI_s, if_pos (Or.inl rfl)]
      rw [if_neg g1] at h
      by_cases g2 : f s.1 = 98 ∨ f s.1 = 99 ∨ f s.1 = 111 ∨ f s.1 = 103 ∨ f s.1 = 101 ∨ f s.1 = 100 ∨ f s.1 = 109
      · rw [if_pos g2] at h
        have hp : s.1 < N := p240 hf (by omega)
        injection h with h
        subst h
        have nd : ¬ (48 ≤ f s.1 ∧ f s.1 ≤ 57) := by omega
        have hfc : 0 ≤ fcO (f s.1) ∧ fcO (f s.1) ≤ 6 := by
          rcases g2 with z | z | z | z | z | z | z <;> (rw [z]; decide)
        refine ⟨upM (nt R s.2.2.2.2 (1048576 * 1 + fcO (f s.1))) 53 5 ((s.1 + 1 : Nat) : Int), v, [], ?_, ⟨?_, ?_, ?_, trivial, s.2.2.2.2 + 1, ?_, ?_⟩, rfl, ?_, KW.rf.nt.u rfl⟩
        · unfold FACx LOOPx
          rw [B_213_0, s202 hf h1, bI_s, if_neg g1, s203 hf h1, bI_s, if_neg nd, if_pos rfl, s202 hf h1, bI_s, s210, bI_s, if_neg (by omega), s207 h5 (by omega) (by decide) (by omega), bV_s, nt_53 _ _ _ (by decide), h1.2.1, w1p (by omega), bI_s, if_neg (by decide)]
        · unfold nt
          exact (((h1.oq (by decide)).o (by decide)).st (s.1 + 1))
        · rw [up_j (by decide), nt_53 _ _ _ (by decide)]; exact h2
        · rw [up_j (by decide), nt_53 _ _ _ (by decide)]; exact h11
        · rw [up_j (by decide), nt_10]
        · rw [up_ne (by decide), nt_58, h58]; rfl
        · show w0 + 0 ≤ s.1 + 1; omega
      rw [if_neg g2] at h
      by_cases nd : 48 ≤ f s.1 ∧ f s.1 ≤ 57
      · have hp : s.1 < N := p240 hf (by omega)
        have epn : pnum1 f 5 s.1 = pnum f 5 s.1 0 := by unfold pnum1; rw [if_pos nd]
        rw [epn] at h
        obtain ⟨R1, c1, c2⟩ := s206 hf (fun _ => false) (fun j => j == 5 || j == 7 || j == 8) rfl ⟨rfl, rfl, rfl, rfl⟩ h1 (by omega)
        have hD : ∀ j, j ≠ 5 → j ≠ 7 → j ≠ 8 → R1 53 j = R 53 j := fun j j1 j2 j3 => c1.2 j (by simp [j1, j2, j3])
        have hq1 : ∀ q, q ≠ 53 → R1 q = R q := fun q q1 => c1.1 q q1 rfl
        have hK : KW w0 R R1 := ⟨⟨fun q q1 _ => hq1 q q1, fun j hj => hD j (fun e => by rw [e] at hj; cases hj) (fun e => by rw [e] at hj; cases hj) (fun e => by rw [e] at hj; cases hj)⟩, fun i _ => by rw [hq1 59 (by decide)]⟩
        cases e : pnum f 5 s.1 0 with
        | inl x =>
          rw [e] at h c2
          injection h with h
          subst h
          refine ⟨R1, ?_, c2.2, hK⟩
          unfold FACx
          rw [B_213_0, s202 hf h1, bI_s, if_neg g1, s203 hf h1, bI_s, if_pos nd, if_neg (by decide), c2.1, bI_s, if_pos rfl, bI_s, if_pos rfl]
        | inr pv =>
          obtain ⟨p', x⟩ := pv
          rw [e] at h c2
          have h' : some (.inr (emN s p' x)) = some r := h
          injection h' with h'
          subst h'
          have b1 := pnum1_b (k := 4) (by rw [epn]; exact e)
          have b2 := pnum1_f hf hs (by rw [epn]; exact e)
          obtain ⟨c3, c4, c5⟩ := c2
          have d10 : R1 53 10 = (s.2.2.2.2 : Int) := by rw [hD 10 (by decide) (by decide) (by decide)]; exact h5
          have hX1 : RX f N p' R1 := h1.mv c1 rfl rfl c4
          have hxb : x < 1000000 := by have := b1.2.2; omega
          refine ⟨nt R1 s.2.2.2.2 (1048576 * 0 + x), v, [], ?_, ⟨?_, ?_, ?_, trivial, s.2.2.2.2 + 1, nt_10 _ _ _, ?_⟩, rfl, ?_, hK.nt⟩
          · unfold FACx LOOPx
            rw [B_213_0, s202 hf h1, bI_s, if_neg g1, s203 hf h1, bI_s, if_pos nd, if_neg (by decide), c3, bI_s, if_neg (by decide), c5, s207 d10 (by omega) (by decide) ⟨b1.2.1, hxb⟩, bV_s, bI_s, if_neg (by decide)]
          · unfold nt
            exact (hX1.oq (by decide)).o (by decide)
          · rw [nt_53 _ _ _ (by decide), hD 9 (by decide) (by decide) (by decide)]; exact h2
          · rw [nt_53 _ _ _ (by decide), hD 11 (by decide) (by decide) (by decide)]; exact h11
          · rw [nt_58, hq1 58 (by decide), h58, show 1048576 * 0 + x = x by omega]; rfl
          · show w0 + 0 ≤ p'; omega
      · have epn : pnum1 f 5 s.1 = .inl (flt 1 s.1) := by unfold pnum1; rw [if_neg nd]
        rw [epn] at h
        injection h with h
        subst h
        have hfc : fcO (f s.1) = -1 := by
          unfold fcO
          rw [if_neg (fun z => g2 (Or.inl z)), if_neg (fun z => g2 (Or.inr (Or.inl z))), if_neg (fun z => g2 (by omega)), if_neg (fun z => g2 (by omega)), if_neg (fun z => g2 (by omega)), if_neg (fun z => g2 (by omega)), if_neg (fun z => g2 (by omega))]
        have h204 := s204 (k := 1) (p := s.1) (by decide) (by omega) R
        have h204' : fnA 204 [.inr (some 53), .inl 1, .inl (s.1 : Int)] R = some (some (.inl 0), upM R 53 7 (flt 1 s.1)) := h204
        refine ⟨_, ?_, up_s, KW.rf.u rfl⟩
        unfold FACx
        rw [B_213_0, s202 hf h1, bI_s, if_neg g1, s203 hf h1, bI_s, if_neg nd, if_pos rfl, s202 hf h1, bI_s, s210, bI_s, hfc, if_pos rfl, h1.2.1, h204', bI_s, if_pos (Or.inl rfl), bI_s, if_pos rfl]
    | 1, _, h =>
      refine ⟨fun z => absurd z (by decide), fun _ hpd ht => ?_, fun z => absurd z (by decide), fun z => absurd z (by decide), fun z => absurd z (by decide)⟩
      subst hpd
      rw [pS_1] at h
      have ih0 := fun r h => (ih 0 o s r R base v w0 [] (by decide) ho hs hb hbase hw h hQ).1 rfl rfl
      rcases bnd_o h with ⟨e, a1, rfl⟩ | ⟨u, a1, a2⟩
      · exact ih0 _ a1
      · obtain ⟨R1, v1, pd1, c1, c2, c3, c4, c5⟩ := ih0 _ a1
        have c3' : pd1 = [] := c3
        subst c3'
        have hgr := pS_gr hf n 0 o s u hs a1
        have hub : u.2.2.2.2 ≤ u.1 := by unfold GR at hgr; omega
        exact ((ih 2 o u r R1 base v1 w0 [] (by decide) ho hgr.2.1 hub hbase c4 a2 c2).2.2.1 rfl (Or.inl rfl) (by rw [tp_c (R := R) c5.2]; exact ht)).go c1 c5
    | 2, _, h =>
      refine ⟨fun z => absurd z (by decide), fun z => absurd z (by decide), fun _ hkd ht => ?_, fun z => absurd z (by decide), fun z => absurd z (by decide)⟩
      rw [pS_2] at h
      by_cases g : f s.1 = 42 ∨ f s.1 = 47 ∨ f s.1 = 37
      case neg =>
        rw [if_neg g] at h
        injection h with h
        subst h
        exact ⟨R, v, pd, rfl, hQ, hkd, hw, KW.rf⟩
      rw [if_pos g] at h
      have hp : s.1 < N := p240 hf (by omega)
      obtain ⟨m1, m2, m3⟩ := smO_m g
      obtain ⟨R2, q1, q2, q3, q4⟩ := push (base := base) (m := opO (f s.1)) hf hQ (kdM_in hkd) ht (by omega) hp hb hw
      have eL : LOOPx base v R = FACx base (.inl (opO (f s.1))) R2 := by
        unfold LOOPx
        rw [B_215_14, s202 hf hQ.1, bI_s, s211, bI_s, m1, if_neg (by omega), if_pos m2]
        exact q1
      have ih0 := fun r h => (ih 0 o (adv s) r R2 base (.inl (opO (f s.1))) (w0 + 1) [] (by decide) ho (by show s.1 + 1 ≤ N; omega) (by show s.2.2.2.2 ≤ s.1 + 1; omega) (by omega) (by show w0 + 1 + 0 ≤ s.1 + 1; omega) h q2).1 rfl rfl
      rcases bnd_o h with ⟨e, a1, rfl⟩ | ⟨u, a1, a2⟩
      · obtain ⟨R', c1, c2, c3⟩ := ih0 _ a1
        exact ⟨R', eL.trans c1, c2, q4.tr (c3.le (by omega))⟩
      obtain ⟨R1, v1, pd1, c1, c2, c3, c4, c5⟩ := ih0 _ a1
      have c3' : pd1 = [] := c3
      subst c3'
      have hgr := pS_gr hf n 0 o (adv s) u (by show s.1 + 1 ≤ N; omega) a1
      have hgb : u.2.2.2.2 + 1 ≤ u.1 := by
        have z : u.2.2.2.2 + (s.1 + 1) ≤ s.2.2.2.2 + u.1 := hgr.2.2.2.1
        omega
      have h59 : R1 59 w0 = 1048576 * opO (f s.1) := by rw [c5.2 w0 (by omega)]; exact q3
      have hQ' := c2.wrap h59 (f s.1)
      have c4' : w0 + 1 + 0 ≤ u.1 := c4
      refine ((ih 2 o (em1 u (f s.1) (1048576 * opO (f s.1))) r R1 base v1 w0 ([] ++ [opO (f s.1)]) (by decide) ho hgr.2.1 hgb hbase (by show w0 + 1 ≤ u.1; omega) a2 hQ').2.2.1 rfl (Or.inr ⟨_, ⟨m2, m3⟩, rfl⟩) ?_).go (eL.trans c1) (q4.tr (c5.le (by omega)))
      rw [tp_c (R := R) (fun i hi => by rw [c5.2 i (by omega), q4.2 i hi])]; exact ht
    | 3, _, h =>
      refine ⟨fun z => absurd z (by decide), fun z => absurd z (by decide), fun z => absurd z (by decide), fun _ hpd ht => ?_, fun z => absurd z (by decide)⟩
      subst hpd
      rw [pS_3] at h
      have ih1 := fun r h => (ih 1 o s r R base v w0 [] (by decide) ho hs hb hbase hw h hQ).2.1 rfl rfl (inS_01 ht)
      rcases bnd_o h with ⟨e, a1, rfl⟩ | ⟨u, a1, a2⟩
      · exact ih1 _ a1
      · obtain ⟨R1, v1, pd1, c1, c2, c3, c4, c5⟩ := ih1 _ a1
        have hgr := pS_gr hf n 1 o s u hs a1
        have hub : u.2.2.2.2 ≤ u.1 := by unfold GR at hgr; omega
        exact ((ih 4 o u r R1 base v1 w0 pd1 (by decide) ho hgr.2.1 hub hbase c4 a2 c2).2.2.2.2 rfl (kdM_S c3) (by rw [tp_c (R := R) c5.2]; exact ht)).go c1 c5
    | 4, _, h =>
      refine ⟨fun z => absurd z (by decide), fun z => absurd z (by decide), fun z => absurd z (by decide), fun z => absurd z (by decide), fun _ hkd ht => ?_⟩
      rw [pS_4] at h
      by_cases g : f s.1 = 43 ∨ f s.1 = 45
      case neg =>
        rw [if_neg g] at h
        injection h with h
        subst h
        exact ⟨R, v, pd, rfl, hQ, hkd, hw, KW.rf⟩
      rw [if_pos g] at h
      have hp : s.1 < N := p240 hf (by omega)
      obtain ⟨m1, m2⟩ := smO_a g
      obtain ⟨R2, q1, q2, q3, q4⟩ := push (base := base) (m := opO (f s.1)) hf hQ (kdS_in hkd) ht (by omega) hp hb hw
      have eL : LOOPx base v R = FACx base (.inl (opO (f s.1))) R2 := by
        unfold LOOPx
        rw [B_215_14, s202 hf hQ.1, bI_s, s211, bI_s, m1, if_neg (by omega), if_neg (by omega)]
        exact q1
      have htp2 : ¬ inS 0 (tp R2 (w0 + 1)) := by
        rw [tp_e (v := 0) (by rw [q3, Int.add_zero]) (by omega) (by decide)]
        unfold inS; omega
      have ih1 := fun r h => (ih 1 o (adv s) r R2 base (.inl (opO (f s.1))) (w0 + 1) [] (by decide) ho (by show s.1 + 1 ≤ N; omega) (by show s.2.2.2.2 ≤ s.1 + 1; omega) (by omega) (by show w0 + 1 + 0 ≤ s.1 + 1; omega) h q2).2.1 rfl rfl htp2
      rcases bnd_o h with ⟨e, a1, rfl⟩ | ⟨u, a1, a2⟩
      · obtain ⟨R', c1, c2, c3⟩ := ih1 _ a1
        exact ⟨R', eL.trans c1, c2, q4.tr (c3.le (by omega))⟩
      obtain ⟨R1, v1, pd1, c1, c2, c3, c4, c5⟩ := ih1 _ a1
      have hgr := pS_gr hf n 1 o (adv s) u (by show s.1 + 1 ≤ N; omega) a1
      have hgb : u.2.2.2.2 + 1 ≤ u.1 := by
        have z : u.2.2.2.2 + (s.1 + 1) ≤ s.2.2.2.2 + u.1 := hgr.2.2.2.1
        omega
      have h59 : R1 59 w0 = 1048576 * opO (f s.1) := by rw [c5.2 w0 (by omega)]; exact q3
      have hQ' := c2.wrap h59 (f s.1)
      have hl : (pd1 ++ [opO (f s.1)]).length = pd1.length + 1 := by rw [List.length_append, List.length_singleton]
      refine ((ih 4 o (em1 u (f s.1) (1048576 * opO (f s.1))) r R1 base v1 w0 (pd1 ++ [opO (f s.1)]) (by decide) ho hgr.2.1 hgb hbase (by rw [hl]; show w0 + (pd1.length + 1) ≤ u.1; omega) a2 hQ').2.2.2.2 rfl ⟨pd1, _, c3, Or.inr ⟨_, m2, rfl⟩, rfl⟩ ?_).go (eL.trans c1) (q4.tr (c5.le (by omega)))
      rw [tp_c (R := R) (fun i hi => by rw [c5.2 i (by omega), q4.2 i hi])]; exact ht
end RSM
