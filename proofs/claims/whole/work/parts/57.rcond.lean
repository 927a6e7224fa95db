/-! The reference reads conditions as the abstract reader does. -/
section RC
variable {f : Nat → Int} {N : Nat}
noncomputable def TSTx (R : aM) : aX := run 6 220 40 [.inr (some 53)] [] R
noncomputable def AFTx (R : aM) : aX := run 6 220 92 [.inr (some 53)] [] R
noncomputable def EPx (R : aM) : aX := bV (fnA 216 [.inr (some 53)] R) (fun M => run 6 220 92 [.inr (some 53)] [] M)
def rL (f : Nat → Int) (N : Nat) (R : aM) (s : PS) (o w0 : Nat) (pl : List (Int × Nat)) : Prop := RX f N s.1 R ∧ R 53 9 = (o : Int) ∧ R 53 11 = ((w0 + pl.length : Nat) : Int) ∧ R 53 10 = (s.2.2.2.2 : Int) ∧ LK R w0 s.2.2.2.2 pl ∧ ldL (R 58) s.2.2.2.2 pl = s.2.2.2.1
set_option maxHeartbeats 400000 in
theorem rQ.L {R : aM} {s : PS} {o w : Nat} (h : rQ f N R s o w []) : rL f N R s o w [] := by
  obtain ⟨h1, h2, h3, -, b0, h5, h6⟩ := h
  have e1 : R 58 = s.2.2.2.1 := congrArg Prod.fst h6
  have e2 : b0 = s.2.2.2.2 := congrArg Prod.snd h6
  exact ⟨h1, h2, h3, by rw [h5, e2], trivial, e1⟩
set_option maxHeartbeats 400000 in
theorem rL.Q {R : aM} {s : PS} {o w : Nat} (h : rL f N R s o w []) : rQ f N R s o w [] := by
  obtain ⟨h1, h2, h3, h4, -, h6⟩ := h
  have h6' : R 58 = s.2.2.2.1 := h6
  exact ⟨h1, h2, h3, trivial, s.2.2.2.2, h4, by rw [h6']; rfl⟩
def klA (pl : List (Int × Nat)) : Prop := pl = [] ∨ ∃ l, pl = [(11, l)]
def klC (pl : List (Int × Nat)) : Prop := ∃ a b, klA a ∧ (b = [] ∨ ∃ l, b = [(12, l)]) ∧ pl = a ++ b
set_option maxHeartbeats 400000 in
theorem klA_in {x1 : Int} {pl : List (Int × Nat)} (h : klA pl) : ∀ x, x ∈ pl → inJ x1 x.1 := by
  intro x hx
  rcases h with rfl | ⟨l, rfl⟩
  · cases hx
  · rw [List.mem_singleton] at hx
    rw [hx]; exact Or.inl rfl
set_option maxHeartbeats 400000 in
theorem klA_len {pl : List (Int × Nat)} (h : klA pl) : pl.length ≤ 1 := by
  rcases h with rfl | ⟨l, rfl⟩
  · exact Nat.zero_le _
  · exact Nat.le_refl _
set_option maxHeartbeats 400000 in
theorem klC_in {pl : List (Int × Nat)} (h : klC pl) : ∀ x, x ∈ pl → inJ 1 x.1 := by
  intro x hx
  obtain ⟨a, b, h1, h2, rfl⟩ := h
  rw [List.mem_append] at hx
  rcases hx with hx | hx
  · exact klA_in h1 x hx
  · rcases h2 with rfl | ⟨l, rfl⟩
    · cases hx
    · rw [List.mem_singleton] at hx
      rw [hx]; exact Or.inr ⟨by decide, rfl⟩
set_option maxHeartbeats 400000 in
theorem klC_len {pl : List (Int × Nat)} (h : klC pl) : pl.length ≤ 2 := by
  obtain ⟨a, b, h1, h2, rfl⟩ := h
  have := klA_len h1
  rw [List.length_append]
  rcases h2 with rfl | ⟨l, rfl⟩
  · simp only [List.length_nil]; omega
  · simp only [List.length_singleton]; omega
def rT (f : Nat → Int) (N o w : Nat) (R : aM) (r : Int ⊕ PS) (X : aX) : Prop := match r with
  | .inl e => ∃ R', X = some (some (.inl 0), R') ∧ R' 53 7 = e ∧ KW w R R'
  | .inr t => ∃ R', X = EPx R' ∧ rQ f N R' t o w [] ∧ w ≤ t.1 ∧ KW w R R'
def rP (f : Nat → Int) (N o w lo : Nat) (kl : List (Int × Nat) → Prop) (R : aM) (r : Int ⊕ PS) (X : aX) : Prop := match r with
  | .inl e => ∃ R', X = some (some (.inl 0), R') ∧ R' 53 7 = e ∧ KW w R R'
  | .inr t => ∃ R' pl, X = AFTx R' ∧ rL f N R' t o w pl ∧ kl pl ∧ w + pl.length ≤ t.1 ∧ (∀ x, x ∈ pl → lo ≤ x.2) ∧ KW w R R'
set_option maxHeartbeats 400000 in
theorem rP.go {o w lo lo' : Nat} {kl : List (Int × Nat) → Prop} {R R1 : aM} {r : Int ⊕ PS} {X Y : aX} (h : rP f N o w lo' kl R1 r Y) (e : X = Y) (hF : KW w R R1) (hl : lo ≤ lo') : rP f N o w lo kl R r X := by
  unfold rP at *
  rcases r with x | t
  · obtain ⟨R', h1, h2, h3⟩ := h
    exact ⟨R', e.trans h1, h2, hF.tr h3⟩
  · obtain ⟨R', pl, h1, h2, h3, h4, h5, h6⟩ := h
    exact ⟨R', pl, e.trans h1, h2, h3, h4, fun x hx => Nat.le_trans hl (h5 x hx), hF.tr h6⟩
set_option maxHeartbeats 400000 in
theorem bIbV {X : aX} {g : Int → aM → aX} : bI (bV X (fun M => some (some (.inl 1), M))) g = bV X (fun M => g 1 M) := by
  unfold bV bI
  rcases X with _ | ⟨_ | v, M⟩ <;> rfl
set_option maxHeartbeats 400000 in
theorem EP_ne {R : aM} {w : Nat} (h : R 53 11 = (w : Int)) (hw : w ≤ 260) (ht : ¬ tp R w = 10) : EPx R = AFTx R := by
  unfold EPx AFTx
  rw [E_216, B_216_0, s209 h hw, bI_s, if_neg ht, bV_s]
set_option maxHeartbeats 400000 in
theorem EP_not {R : aM} {w b o : Nat} (h : R 53 11 = ((w + 1 : Nat) : Int)) (hw : w < 250) (ht : tp R (w + 1) = 10) (hb : R 53 10 = (b : Int)) (hb2 : b < 260) (ho : R 53 9 = ((o + 1 : Nat) : Int)) (ho6 : o < 10) : EPx R = EPx (upM (upM (nt R b (1048576 * 10 + 0)) 53 11 (w : Int)) 53 9 (o : Int)) := by
  unfold EPx
  rw [E_216, E_216, B_216_0, s209 h (by omega), bI_s, ht, if_pos rfl, s207 hb hb2 (by decide) (by decide), bV_s, nt_53 _ _ _ (by decide), h, wm1 (by omega), up_j (by decide), nt_53 _ _ _ (by decide), ho, wm1 (by omega)]
def tpD (y : Int) : Prop := 10 ≤ y ∧ y ≤ 13
set_option maxHeartbeats 400000 in
theorem tpD_S {y : Int} (h : tpD y) : ¬ inS 1 y := by
  unfold tpD at h
  unfold inS
  omega
set_option maxHeartbeats 400000 in
theorem op1_Q {R : aM} {s : PS} {o w : Nat} {k : Int} (h : rQ f N R s o w []) : rQ f N (op1 R o w s.1 k) (adv s) (o + 1) (w + 1) [] := by
  obtain ⟨h1, h2, h3, -, b0, h5, h6⟩ := h
  have e1 : R 58 = s.2.2.2.1 := congrArg Prod.fst h6
  have e2 : b0 = s.2.2.2.2 := congrArg Prod.snd h6
  subst e2
  unfold op1
  refine ⟨(((h1.o (by decide)).oq (by decide)).o (by decide)).st (s.1 + 1), ?_, ?_, trivial, s.2.2.2.2, ?_, ?_⟩
  · rw [up_j (by decide), up_j (by decide), up_o (by decide), up_s]
  · rw [up_j (by decide), up_s]; rfl
  · rw [up_j (by decide), up_j (by decide), up_o (by decide), up_j (by decide)]; exact h5
  · rw [up_ne (by decide), up_ne (by decide), up_ne (by decide), up_ne (by decide), e1]; rfl
set_option maxHeartbeats 400000 in
theorem op1_K {R : aM} {o w p : Nat} {k : Int} : KW w R (op1 R o w p k) := ((((KW.rf.u rfl).u59 (Nat.le_refl _)).u rfl).u rfl)
set_option maxHeartbeats 400000 in
theorem op1_t {R : aM} {o w p : Nat} {k : Int} (hk : 0 ≤ k ∧ k ≤ 20) : tp (op1 R o w p k) (w + 1) = k := tp_e (v := 0) (by unfold op1; rw [up_o (by decide), up_o (by decide), up_s, Int.add_zero]) hk (by decide)
/- & and |: what waits lands, the jump waits -/
set_option maxHeartbeats 400000 in
theorem jump {R : aM} {s : PS} {o w : Nat} {pl : List (Int × Nat)} {x1 k : Int} (hf : FT f N) (h : rL f N R s o w pl) (hJ : ∀ x, x ∈ pl → inJ x1 x.1) (ht : ¬ inJ x1 (tp R w)) (hs : s.1 < N) (hb : s.2.2.2.2 ≤ s.1) (hw : w + pl.length ≤ s.1) (hk : 0 ≤ k ∧ k ≤ 20) (c : Int) : ∃ R1 R2, fnA 217 [.inr (some 53), .inl x1] R = some (none, R1) ∧ RX f N s.1 R1 ∧ fnA 218 [.inr (some 53), .inl k] R1 = some (none, R2) ∧ rQ f N R2 (emL2 (adv s) c k) o (w + 1) [] ∧ R2 59 w = 1048576 * k + (s.2.2.2.2 : Int) ∧ KW w R R2 := by
  have hN := hf.1
  obtain ⟨h1, h2, h3, h4, h5, h6⟩ := h
  obtain ⟨R1, c1, c2, c3, c4, c5, c6⟩ := s217f (x1 := x1) (w0 := w) (b0 := s.2.2.2.2) (by omega) pl R s.2.2.2.2 (.inr none) hJ ht h3 h5 (Nat.le_refl _) h4 (by omega)
  have c1' : fnA 217 [.inr (some 53), .inl x1] R = some (none, R1) := by rw [E_217]; exact c1
  rw [h6] at c3
  have hX1 : RX f N s.1 R1 := ⟨by rw [c6 6 (by decide)]; exact h1.1, by rw [c6 5 (by decide)]; exact h1.2.1, fun i hi => by rw [c5 57 (by decide) (by decide)]; exact h1.2.2 i hi⟩
  have h10 : R1 53 10 = (s.2.2.2.2 : Int) := by rw [c6 10 (by decide)]; exact h4
  have e218 := s218 (k := k) c2 h10 hX1.2.1 (by omega) (by omega) (by omega) hk
  refine ⟨R1, _, c1', hX1, e218, ⟨?_, ?_, ?_, trivial, s.2.2.2.2 + 1, ?_, ?_⟩, ?_, ?_⟩
  · unfold jp nt
    exact ((((hX1.oq (by decide)).o (by decide)).oq (by decide)).o (by decide)).st (s.1 + 1)
  · unfold jp
    rw [up_j (by decide), nt_53 _ _ _ (by decide), up_j (by decide), up_o (by decide), c6 9 (by decide)]; exact h2
  · unfold jp
    rw [up_j (by decide), nt_53 _ _ _ (by decide), up_s]; rfl
  · unfold jp
    rw [up_j (by decide), nt_10]
  · unfold jp
    rw [up_ne (by decide), nt_58, up_ne (by decide), up_ne (by decide), c3, Int.add_zero]; rfl
  · unfold jp
    rw [up_o (by decide), nt_o _ _ _ (by decide) (by decide), up_o (by decide), up_s]
  · have k1 : KW w R R1 := ⟨⟨fun q q1 q2 => c5 q q1 (fun e => by rw [e] at q2; cases q2), fun j hj => c6 j (fun e => by rw [e] at hj; cases hj)⟩, fun i hi => by rw [c4]⟩
    unfold jp
    exact (((k1.u59 (Nat.le_refl _)).u rfl).nt).u rfl
set_option maxHeartbeats 400000 in
theorem rC (hf : FT f N) : ∀ (n md o : Nat) (s : PS) (r : Int ⊕ PS) (R : aM) (w : Nat) (pl : List (Int × Nat)) (lo : Nat), md ≤ 4 → o ≤ 6 → s.1 ≤ N → s.2.2.2.2 ≤ s.1 → w + pl.length ≤ s.1 → lo ≤ s.2.2.2.2 → (∀ x, x ∈ pl → lo ≤ x.2) → pC f n md o s = some r → rL f N R s o w pl → (md = 0 → pl = [] → tpD (tp R w) → rT f N o w R r (TSTx R)) ∧ (md = 1 → pl = [] → (tp R w = 12 ∨ tp R w = 13) → rP f N o w lo klA R r (TSTx R)) ∧ (md = 2 → klA pl → (tp R w = 12 ∨ tp R w = 13) → rP f N o w lo klA R r (AFTx R)) ∧ (md = 3 → pl = [] → tp R w = 13 → rP f N o w lo klC R r (TSTx R)) ∧ (md = 4 → klC pl → tp R w = 13 → rP f N o w lo klC R r (AFTx R)) := by
  have hN := hf.1
  intro n
  induction n with
  | zero => intro md o s r R w pl lo _ _ _ _ _ _ _ h; cases h
  | succ n ih =>
    intro md o s r R w pl lo hmd ho hs hb hw hlo hpl h hL
    match md, hmd, h with
    | 0, _, h =>
      refine ⟨fun _ hp ht => ?_, fun z => absurd z (by decide), fun z => absurd z (by decide), fun z => absurd z (by decide), fun z => absurd z (by decide)⟩
      subst hp
      have hQ := hL.Q
      have h11 : R 53 11 = (w : Int) := hL.2.2.1
      have hw' : w ≤ s.1 := hw
      have hw0 : w ≠ 0 := fun e => by
        subst e
        have h1 := ht.1
        unfold tp at h1
        rw [if_pos rfl] at h1
        omega
      rw [pC_0] at h
      by_cases g1 : f s.1 = 33 ∨ f s.1 = 40
      · rw [if_pos g1] at h
        have hp : s.1 < N := p240 hf (by omega)
        have e220 : ∀ k : Int, (k = 10 ∧ f s.1 = 33 ∨ k = 13 ∧ f s.1 = 40) → TSTx R = bI (fnA 208 [.inr (some 53), .inl k] R) fun w1 M1 => if w1 = 0 then some (some (.inl 0), M1) else run 6 220 40 [.inr (some 53)] [] M1 := fun k hk => by
          unfold TSTx
          rcases hk with ⟨rfl, g⟩ | ⟨rfl, g⟩
          · rw [B_220_40, s202 hf hL.1, bI_s, if_pos g, B_220_58, s202 hf hL.1, bI_s, if_pos g, B_220_75]
          · rw [B_220_40, s202 hf hL.1, bI_s, if_neg (by omega), s202 hf hL.1, bI_s, if_pos g, B_220_58, s202 hf hL.1, bI_s, if_neg (by omega), B_220_75]
        have e208 : ∀ k : Int, 0 ≤ k ∧ k ≤ 20 → _ := fun k hk => s208 (k := k) ho hL.2.1 h11 hL.1.2.1 (by omega) (by omega) hk
        by_cases g2 : 6 ≤ o
        · rw [if_pos g2] at h
          injection h with h
          subst h
          by_cases g : f s.1 = 33
          · have e := e208 10 (by decide)
            rw [if_pos g2] at e
            exact ⟨_, by rw [e220 10 (Or.inl ⟨rfl, g⟩), e, bI_s, if_pos rfl], up_s, KW.rf.u rfl⟩
          · have e := e208 13 (by decide)
            rw [if_pos g2] at e
            exact ⟨_, by rw [e220 13 (Or.inr ⟨rfl, g1.resolve_left g⟩), e, bI_s, if_pos rfl], up_s, KW.rf.u rfl⟩
        rw [if_neg g2] at h
        have eT : ∀ k : Int, (k = 10 ∧ f s.1 = 33 ∨ k = 13 ∧ f s.1 = 40) → TSTx R = TSTx (op1 R o w s.1 k) := fun k hk => by
          have e := e208 k (by omega)
          rw [if_neg g2] at e
          rw [e220 k hk, e, bI_s, if_neg (by decide)]
          rfl
        by_cases g3 : f s.1 = 40
        · rw [if_pos g3] at h
          have eT' := eT 13 (Or.inr ⟨rfl, g3⟩)
          have ht1 : tp (op1 R o w s.1 13) (w + 1) = 13 := op1_t (by decide)
          have ih3 := fun r h => (ih 3 (o + 1) (adv s) r (op1 R o w s.1 13) (w + 1) [] 0 (by decide) (by omega) (by show s.1 + 1 ≤ N; omega) (by show s.2.2.2.2 ≤ s.1 + 1; omega) (by show w + 1 + 0 ≤ s.1 + 1; omega) (Nat.zero_le _) (fun x hx => by cases hx) h (op1_Q hQ).L).2.2.2.1 rfl rfl ht1
          rcases bnd_o h with ⟨e, a1, rfl⟩ | ⟨u, a1, a2⟩
          · obtain ⟨R', c1, c2, c3⟩ := ih3 _ a1
            exact ⟨R', eT'.trans c1, c2, op1_K.tr (c3.le (by omega))⟩
          obtain ⟨R1, pl1, c1, c2, c3, c4, c5, c6⟩ := ih3 _ a1
          have hen := (pC_end f n 3 (o + 1) (adv s) u (by decide) a1).2.1 rfl
          have hgr := pC_gr hf n 3 (o + 1) (adv s) u (by show s.1 + 1 ≤ N; omega) a1
          have hgb : u.2.2.2.2 ≤ u.1 := by
            have z : u.2.2.2.2 + (s.1 + 1) ≤ s.2.2.2.2 + u.1 := hgr.2.2.2.1
            omega
          have huN := hgr.2.1
          obtain ⟨d1, d2, d3, d4, d5, d6⟩ := c2
          unfold clo at a2
          by_cases g4 : f u.1 = 41
          · rw [if_pos g4] at a2
            injection a2 with a2
            subst a2
            have hnJ : ¬ inJ 1 (tp R1 (w + 1)) := by
              rw [tp_c (R := op1 R o w s.1 13) c6.2, ht1]
              unfold inJ; omega
            obtain ⟨R2, m1, m2, m3, m4, m5, m6⟩ := s217f (x1 := 1) (w0 := w + 1) (b0 := u.2.2.2.2) (by omega) pl1 R1 u.2.2.2.2 (.inr none) (klC_in c3) hnJ d3 d5 (Nat.le_refl _) d4 (by omega)
            rw [d6] at m3
            have m1' : fnA 217 [.inr (some 53), .inl 1] R1 = some (none, R2) := by rw [E_217]; exact m1
            have n5 : R2 53 5 = (u.1 : Int) := by rw [m6 5 (by decide)]; exact d1.2.1
            have n9 : R2 53 9 = ((o + 1 : Nat) : Int) := by rw [m6 9 (by decide)]; exact d2
            have hX2 : RX f N u.1 R2 := ⟨by rw [m6 6 (by decide)]; exact d1.1, n5, fun i hi => by rw [m5 57 (by decide) (by decide)]; exact d1.2.2 i hi⟩
            refine ⟨upM (upM (upM R2 53 11 (w : Int)) 53 9 (o : Int)) 53 5 ((u.1 + 1 : Nat) : Int), ?_, ⟨((hX2.o (by decide)).o (by decide)).st (u.1 + 1), ?_, ?_, trivial, u.2.2.2.2, ?_, ?_⟩, ?_, ?_⟩
            · refine eT'.trans (c1.trans ?_)
              have hwi : ¬ (w : Int) = 0 := by omega
              unfold AFTx EPx
              have o1 : upM R2 53 11 (w : Int) 53 9 = ((o + 1 : Nat) : Int) := by rw [up_j (by decide)]; exact n9
              have o2 : upM (upM R2 53 11 (w : Int)) 53 9 (o : Int) 53 5 = (u.1 : Int) := by rw [up_j (by decide), up_j (by decide)]; exact n5
              have o3 : upM (upM (upM R2 53 11 (w : Int)) 53 9 (o : Int)) 53 5 ((u.1 + 1 : Nat) : Int) 53 11 = (w : Int) := by rw [up_j (by decide), up_j (by decide), up_s]
              rw [B_220_92, s202 hf d1, bI_s, if_pos g4, m1', bV_s, m2, wm1 (by omega), o1, wm1 (by omega), o2, w1p (by omega), o3, if_neg hwi]
            · rw [up_j (by decide), up_s]
            · rw [up_j (by decide), up_j (by decide), up_s]; rfl
            · rw [up_j (by decide), up_j (by decide), up_j (by decide), m6 10 (by decide)]; exact d4
            · rw [up_ne (by decide), up_ne (by decide), up_ne (by decide), m3]; rfl
            · show w ≤ u.1 + 1; omega
            · have k3 : KW (w + 1) R1 R2 := ⟨⟨fun q q1 q2 => m5 q q1 (fun e => by rw [e] at q2; cases q2), fun j hj => m6 j (fun e => by rw [e] at hj; cases hj)⟩, fun i hi => by rw [m4]⟩
              exact (((op1_K.tr ((c6.tr k3).le (by omega))).u rfl).u rfl).u rfl
          · rw [if_neg g4] at a2
            injection a2 with a2
            subst a2
            have h204 := s204 (k := 1) (p := u.1) (by decide) (by omega) R1
            have h204' : fnA 204 [.inr (some 53), .inl 1, .inl (u.1 : Int)] R1 = some (some (.inl 0), upM R1 53 7 (flt 1 u.1)) := h204
            refine ⟨_, ?_, up_s, (op1_K.tr (c6.le (by omega))).u rfl⟩
            refine eT'.trans (c1.trans ?_)
            unfold AFTx
            rw [B_220_92, s202 hf d1, bI_s, if_neg g4, s202 hf d1, bI_s, if_neg hen.1, s202 hf d1, bI_s, if_neg hen.2, d1.2.1, h204', bI_s, if_pos (Or.inl rfl)]
        · rw [if_neg g3] at h
          have g33 := g1.resolve_right g3
          have eT' := eT 10 (Or.inl ⟨rfl, g33⟩)
          have ht1 : tp (op1 R o w s.1 10) (w + 1) = 10 := op1_t (by decide)
          have ih0 := fun r h => (ih 0 (o + 1) (adv s) r (op1 R o w s.1 10) (w + 1) [] 0 (by decide) (by omega) (by show s.1 + 1 ≤ N; omega) (by show s.2.2.2.2 ≤ s.1 + 1; omega) (by show w + 1 + 0 ≤ s.1 + 1; omega) (Nat.zero_le _) (fun x hx => by cases hx) h (op1_Q hQ).L).1 rfl rfl (by rw [ht1]; unfold tpD; omega)
          rcases bnd_o h with ⟨e, a1, rfl⟩ | ⟨u, a1, a2⟩
          · obtain ⟨R', c1, c2, c3⟩ := ih0 _ a1
            exact ⟨R', eT'.trans c1, c2, op1_K.tr (c3.le (by omega))⟩
          obtain ⟨R1, c1, c2, c3, c4⟩ := ih0 _ a1
          have hgr := pC_gr hf n 0 (o + 1) (adv s) u (by show s.1 + 1 ≤ N; omega) a1
          have hgb : u.2.2.2.2 ≤ u.1 := by
            have z : u.2.2.2.2 + (s.1 + 1) ≤ s.2.2.2.2 + u.1 := hgr.2.2.2.1
            omega
          have huN := hgr.2.1
          injection a2 with a2
          subst a2
          obtain ⟨d1, d2, d3, d4, d5, d6⟩ := c2.L
          have d6' : R1 58 = u.2.2.2.1 := d6
          have htp : tp R1 (w + 1) = 10 := by rw [tp_c (R := op1 R o w s.1 10) c4.2, ht1]
          have eE := EP_not (o := o) d3 (by show w + 0 < 250; omega) htp d4 (by omega) d2 (by omega)
          refine ⟨_, eT'.trans (c1.trans eE), ⟨?_, ?_, ?_, trivial, u.2.2.2.2 + 1, ?_, ?_⟩, ?_, ?_⟩
          · unfold nt
            exact (((d1.oq (by decide)).o (by decide)).o (by decide)).o (by decide)
          · rw [up_s]
          · rw [up_j (by decide), up_s]; rfl
          · rw [up_j (by decide), up_j (by decide), nt_10]
          · rw [up_ne (by decide), up_ne (by decide), nt_58, d6', Int.add_zero]; rfl
          · show w ≤ u.1; omega
          · exact (((op1_K.tr (c4.le (by omega))).nt).u rfl).u rfl
      rw [if_neg g1] at h
      have n33 : ¬ f s.1 = 33 := fun z => g1 (Or.inl z)
      have n40 : ¬ f s.1 = 40 := fun z => g1 (Or.inr z)
      have eT : TSTx R = bI (fnA 219 [.inr (some 53)] R) fun w3 M3 => if w3 = 0 then some (some (.inl 0), M3) else run 6 220 92 [.inr (some 53)] [] M3 := by
        unfold TSTx
        rw [B_220_40, s202 hf hL.1, bI_s, if_neg n33, s202 hf hL.1, bI_s, if_neg n40]
      rcases bnd_o h with ⟨e, a1, rfl⟩ | ⟨u, a1, a2⟩
      · obtain ⟨R', c1, c2, c3⟩ := s215 hf ho hs hb hw' a1 hQ (tpD_S ht)
        exact ⟨R', by rw [eT, E_219, c1, bI_s, if_pos rfl, bI_s, if_pos rfl], c2, c3⟩
      obtain ⟨R1, c1, c2, c3⟩ := s215 hf ho hs hb hw' a1 hQ (tpD_S ht)
      have hgr := pS_gr hf n 3 o s u hs a1
      have hgb : u.2.2.2.2 ≤ u.1 := by
        have z := hgr.2.2.2.1
        omega
      have huN := hgr.2.1
      have hwu : w ≤ u.1 := by have := hgr.1; omega
      by_cases g2 : f u.1 = 60 ∨ f u.1 = 62 ∨ f u.1 = 61
      case neg =>
        rw [if_neg g2] at a2
        injection a2 with a2
        subst a2
        have h204 := s204 (k := 1) (p := u.1) (by decide) (by omega) R1
        have h204' : fnA 204 [.inr (some 53), .inl 1, .inl (u.1 : Int)] R1 = some (some (.inl 0), upM R1 53 7 (flt 1 u.1)) := h204
        refine ⟨_, ?_, up_s, c3.u rfl⟩
        rw [eT, E_219, c1, bI_s, if_neg (by decide), s202 hf c2.1, bI_s, if_neg (fun z => g2 (Or.inl z)), s202 hf c2.1, bI_s, if_neg (fun z => g2 (Or.inr (Or.inl z))), s202 hf c2.1, bI_s, if_neg (fun z => g2 (Or.inr (Or.inr z))), B_219_52, if_pos rfl, c2.1.2.1, h204', bI_s, if_pos (Or.inl rfl), bI_s, if_pos rfl]
      rw [if_pos g2] at a2
      have hp : u.1 < N := p240 hf (by omega)
      have hopO : 7 ≤ opO (f u.1) ∧ opO (f u.1) ≤ 9 := by
        rcases g2 with z | z | z <;> (rw [z]; decide)
      have e219 : fnA 219 [.inr (some 53)] R = run 5 219 52 [.inr (some 53), .inr none] [.inl (opO (f u.1))] R1 := by
        rw [E_219, c1, bI_s, if_neg (by decide), s202 hf c2.1, bI_s]
        by_cases g : f u.1 = 60
        · rw [if_pos g, g]; rfl
        · rw [if_neg g, s202 hf c2.1, bI_s]
          by_cases g' : f u.1 = 62
          · rw [if_pos g', g']; rfl
          · have g'' := (g2.resolve_left g).resolve_left g'
            rw [if_neg g', s202 hf c2.1, bI_s, if_pos g'', g'']; rfl
      have e52 : run 5 219 52 [.inr (some 53), .inr none] [.inl (opO (f u.1))] R1 = bI (fnA 215 [.inr (some 53)] (upM R1 53 5 ((u.1 + 1 : Nat) : Int))) fun w1 M1 => if w1 = 0 then some (some (.inl 0), M1) else bV (fnA 207 [.inr (some 53), .inl (opO (f u.1)), .inl 0] M1) fun M2 => bV (fnA 216 [.inr (some 53)] M2) fun M3 => some (some (.inl 1), M3) := by
        rw [B_219_52, if_neg (by omega), c2.1.2.1, w1p (by omega)]
      obtain ⟨d1, d2, d3, -, b0, d5, d6⟩ := c2
      have hQ2 : rQ f N (upM R1 53 5 ((u.1 + 1 : Nat) : Int)) (adv u) o w [] := ⟨d1.st (u.1 + 1), by rw [up_j (by decide)]; exact d2, by rw [up_j (by decide)]; exact d3, trivial, b0, by rw [up_j (by decide)]; exact d5, by rw [up_ne (by decide)]; exact d6⟩
      have ht2 : ¬ inS 1 (tp (upM R1 53 5 ((u.1 + 1 : Nat) : Int)) w) := by
        rw [tp_c (R := R) (fun i hi => by rw [up_o (by decide)]; exact c3.2 i hi)]; exact tpD_S ht
      rcases bnd_o a2 with ⟨e, a3, rfl⟩ | ⟨v, a3, a4⟩
      · obtain ⟨R', m1, m2, m3⟩ := s215 hf ho (by show u.1 + 1 ≤ N; omega) (by show u.2.2.2.2 ≤ u.1 + 1; omega) (by show w ≤ u.1 + 1; omega) a3 hQ2 ht2
        exact ⟨R', by rw [eT, e219, e52, m1, bI_s, if_pos rfl, bI_s, if_pos rfl], m2, (c3.u rfl).tr m3⟩
      obtain ⟨R2, m1, m2, m3⟩ := s215 hf ho (by show u.1 + 1 ≤ N; omega) (by show u.2.2.2.2 ≤ u.1 + 1; omega) (by show w ≤ u.1 + 1; omega) a3 hQ2 ht2
      have hgr2 := pS_gr hf n 3 o (adv u) v (by show u.1 + 1 ≤ N; omega) a3
      have hgb2 : v.2.2.2.2 ≤ v.1 := by
        have z : v.2.2.2.2 + (u.1 + 1) ≤ u.2.2.2.2 + v.1 := hgr2.2.2.2.1
        omega
      have hvN := hgr2.2.1
      have hv1 : u.1 + 1 ≤ v.1 := hgr2.1
      injection a4 with a4
      subst a4
      obtain ⟨q1, q2, q3, q4, -, q6⟩ := m2.L
      have q6' : R2 58 = v.2.2.2.1 := q6
      refine ⟨nt R2 v.2.2.2.2 (1048576 * opO (f u.1) + 0), ?_, ⟨?_, ?_, ?_, trivial, v.2.2.2.2 + 1, nt_10 _ _ _, ?_⟩, ?_, ((c3.u rfl).tr m3).nt⟩
      · rw [eT, e219, e52, m1, bI_s, if_neg (by decide), s207 q4 (by omega) (by omega) (by decide), bV_s, bIbV]
        rfl
      · unfold nt
        exact (q1.oq (by decide)).o (by decide)
      · rw [nt_53 _ _ _ (by decide)]; exact q2
      · rw [nt_53 _ _ _ (by decide)]; exact q3
      · rw [nt_58, q6', Int.add_zero]; rfl
      · show w ≤ v.1; omega
    | 1, _, h =>
      refine ⟨fun z => absurd z (by decide), fun _ hp ht => ?_, fun z => absurd z (by decide), fun z => absurd z (by decide), fun z => absurd z (by decide)⟩
      subst hp
      rw [pC_1] at h
      have ih0 := fun r h => (ih 0 o s r R w [] 0 (by decide) ho hs hb hw (Nat.zero_le _) (fun x hx => by cases hx) h hL).1 rfl rfl (by unfold tpD; omega)
      rcases bnd_o h with ⟨e, a1, rfl⟩ | ⟨u, a1, a2⟩
      · obtain ⟨R', c1, c2, c3⟩ := ih0 _ a1
        exact ⟨R', c1, c2, c3⟩
      obtain ⟨R1, c1, c2, c3, c4⟩ := ih0 _ a1
      have hgr := pC_gr hf n 0 o s u hs a1
      have hgb : u.2.2.2.2 ≤ u.1 := by
        have z := hgr.2.2.2.1
        omega
      have huN := hgr.2.1
      have htp : tp R1 w = tp R w := tp_c c4.2
      have eE := EP_ne (w := w) c2.2.2.1 (by omega) (by rw [htp]; omega)
      exact ((ih 2 o u r R1 w [] lo (by decide) ho hgr.2.1 hgb c3 (Nat.le_trans hlo hgr.2.2.2.2.2) (fun x hx => by cases hx) a2 c2.L).2.2.1 rfl (Or.inl rfl) (by rw [htp]; exact ht)).go (c1.trans eE) c4 (Nat.le_refl _)
    | 2, _, h =>
      refine ⟨fun z => absurd z (by decide), fun z => absurd z (by decide), fun _ hkl ht => ?_, fun z => absurd z (by decide), fun z => absurd z (by decide)⟩
      rw [pC_2] at h
      by_cases g : f s.1 = 38
      case neg =>
        rw [if_neg g] at h
        injection h with h
        subst h
        exact ⟨R, pl, rfl, hL, hkl, hw, hpl, KW.rf⟩
      rw [if_pos g] at h
      have hp : s.1 < N := p240 hf (by omega)
      obtain ⟨R1, R2, j1, j2, j3, j4, j5, j6⟩ := jump (x1 := 0) (k := 11) hf hL (klA_in hkl) (by unfold inJ; omega) hp hb hw (by decide) 38
      have eA : AFTx R = TSTx R2 := by
        unfold AFTx TSTx
        rw [B_220_92, s202 hf hL.1, bI_s, if_neg (by omega), s202 hf hL.1, bI_s, if_pos g, B_220_180, s202 hf hL.1, bI_s, if_neg (by omega), B_220_195, j1, bV_s, s202 hf j2, bI_s, if_pos g, j3, bV_s]
      have ht2 : tp R2 (w + 1) = 11 := tp_e j5 (by decide) (by omega)
      have hwl : w ≤ s.1 := by omega
      have ih0 := fun r h => (ih 0 o (emL2 (adv s) 38 11) r R2 (w + 1) [] 0 (by decide) ho (by show s.1 + 1 ≤ N; omega) (by show s.2.2.2.2 + 1 ≤ s.1 + 1; omega) (by show w + 1 + 0 ≤ s.1 + 1; omega) (Nat.zero_le _) (fun x hx => by cases hx) h j4.L).1 rfl rfl (by rw [ht2]; unfold tpD; omega)
      rcases bnd_o h with ⟨e, a1, rfl⟩ | ⟨u, a1, a2⟩
      · obtain ⟨R', c1, c2, c3⟩ := ih0 _ a1
        exact ⟨R', eA.trans c1, c2, j6.tr (c3.le (by omega))⟩
      obtain ⟨R3, c1, c2, c3, c4⟩ := ih0 _ a1
      have hgr := pC_gr hf n 0 o _ u (by show s.1 + 1 ≤ N; omega) a1
      have hfr := pC_fr hf n 0 o _ u (by show s.1 + 1 ≤ N; omega) a1
      have hgb : u.2.2.2.2 ≤ u.1 := by
        have z : u.2.2.2.2 + (s.1 + 1) ≤ s.2.2.2.2 + 1 + u.1 := hgr.2.2.2.1
        omega
      have hgs : s.2.2.2.2 + 1 ≤ u.2.2.2.2 := hgr.2.2.2.2.2
      have huN := hgr.2.1
      have htp : tp R3 (w + 1) = 11 := by rw [tp_c c4.2, ht2]
      have eE := EP_ne (w := w + 1) c2.2.2.1 (by omega) (by rw [htp]; decide)
      have h59 : R3 59 w = 1048576 * 11 + (s.2.2.2.2 : Int) := by rw [c4.2 w (by omega)]; exact j5
      obtain ⟨q1, q2, q3, q4, -, q6⟩ := c2.L
      have q6' : R3 58 = u.2.2.2.1 := q6
      have h58 : R3 58 s.2.2.2.2 = 1048576 * 11 := by
        rw [q6', hfr.2 s.2.2.2.2 (by show s.2.2.2.2 < s.2.2.2.2 + 1; omega)]
        exact ts_s
      have hL3 : rL f N R3 (land u (s.2.2.1 + 1) s.2.2.2.2 11) o w [(11, s.2.2.2.2)] := ⟨q1, q2, q3, q4, ⟨h59, h58, hgs, Or.inl rfl, trivial⟩, by
        show tset (R3 58) s.2.2.2.2 _ = _
        rw [q6']; rfl⟩
      have ht3 : tp R3 w = tp R w := tp_c (fun i hi => by rw [c4.2 i (by omega), j6.2 i hi])
      exact ((ih 2 o (land u (s.2.2.1 + 1) s.2.2.2.2 11) r R3 w [(11, s.2.2.2.2)] lo (by decide) ho hgr.2.1 hgb (by show w + 1 ≤ u.1; omega) (by show lo ≤ u.2.2.2.2; omega) (fun x hx => by rw [List.mem_singleton] at hx; rw [hx]; exact hlo) a2 hL3).2.2.1 rfl (Or.inr ⟨_, rfl⟩) (by rw [ht3]; exact ht)).go (eA.trans (c1.trans eE)) (j6.tr (c4.le (by omega))) (Nat.le_refl _)
    | 3, _, h =>
      refine ⟨fun z => absurd z (by decide), fun z => absurd z (by decide), fun z => absurd z (by decide), fun _ hp ht => ?_, fun z => absurd z (by decide)⟩
      subst hp
      rw [pC_3] at h
      have ih1 := fun r h => (ih 1 o s r R w [] lo (by decide) ho hs hb hw hlo (fun x hx => by cases hx) h hL).2.1 rfl rfl (Or.inr ht)
      rcases bnd_o h with ⟨e, a1, rfl⟩ | ⟨u, a1, a2⟩
      · obtain ⟨R', c1, c2, c3⟩ := ih1 _ a1
        exact ⟨R', c1, c2, c3⟩
      obtain ⟨R1, pl1, c1, c2, c3, c4, c5, c6⟩ := ih1 _ a1
      have hgr := pC_gr hf n 1 o s u hs a1
      have hgb : u.2.2.2.2 ≤ u.1 := by
        have z := hgr.2.2.2.1
        omega
      have htp : tp R1 w = tp R w := tp_c c6.2
      exact ((ih 4 o u r R1 w pl1 lo (by decide) ho hgr.2.1 hgb c4 (Nat.le_trans hlo hgr.2.2.2.2.2) c5 a2 c2).2.2.2.2 rfl ⟨pl1, [], c3, Or.inl rfl, (List.append_nil pl1).symm⟩ (by rw [htp]; exact ht)).go c1 c6 (Nat.le_refl _)
    | 4, _, h =>
      refine ⟨fun z => absurd z (by decide), fun z => absurd z (by decide), fun z => absurd z (by decide), fun z => absurd z (by decide), fun _ hkl ht => ?_⟩
      rw [pC_4] at h
      by_cases g : f s.1 = 124
      case neg =>
        rw [if_neg g] at h
        injection h with h
        subst h
        exact ⟨R, pl, rfl, hL, hkl, hw, hpl, KW.rf⟩
      rw [if_pos g] at h
      have hp : s.1 < N := p240 hf (by omega)
      obtain ⟨R1, R2, j1, j2, j3, j4, j5, j6⟩ := jump (x1 := 1) (k := 12) hf hL (klC_in hkl) (by unfold inJ; omega) hp hb hw (by decide) 124
      have eA : AFTx R = TSTx R2 := by
        unfold AFTx TSTx
        rw [B_220_92, s202 hf hL.1, bI_s, if_neg (by omega), s202 hf hL.1, bI_s, if_neg (by omega), s202 hf hL.1, bI_s, if_pos g, B_220_180, s202 hf hL.1, bI_s, if_pos g, B_220_195, j1, bV_s, s202 hf j2, bI_s, if_neg (by omega), j3, bV_s]
      have ht2 : tp R2 (w + 1) = 12 := tp_e j5 (by decide) (by omega)
      have hwl : w ≤ s.1 := by omega
      have ih1 := fun r h => (ih 1 o (emL2 (adv s) 124 12) r R2 (w + 1) [] (s.2.2.2.2 + 1) (by decide) ho (by show s.1 + 1 ≤ N; omega) (by show s.2.2.2.2 + 1 ≤ s.1 + 1; omega) (by show w + 1 + 0 ≤ s.1 + 1; omega) (Nat.le_refl _) (fun x hx => by cases hx) h j4.L).2.1 rfl rfl (Or.inl ht2)
      rcases bnd_o h with ⟨e, a1, rfl⟩ | ⟨u, a1, a2⟩
      · obtain ⟨R', c1, c2, c3⟩ := ih1 _ a1
        exact ⟨R', eA.trans c1, c2, j6.tr (c3.le (by omega))⟩
      obtain ⟨R3, pl1, c1, c2, c3, c4, c5, c6⟩ := ih1 _ a1
      have hgr := pC_gr hf n 1 o _ u (by show s.1 + 1 ≤ N; omega) a1
      have hfr := pC_fr hf n 1 o _ u (by show s.1 + 1 ≤ N; omega) a1
      have hgb : u.2.2.2.2 ≤ u.1 := by
        have z : u.2.2.2.2 + (s.1 + 1) ≤ s.2.2.2.2 + 1 + u.1 := hgr.2.2.2.1
        omega
      have hgs : s.2.2.2.2 + 1 ≤ u.2.2.2.2 := hgr.2.2.2.2.2
      have huN := hgr.2.1
      have h59 : R3 59 w = 1048576 * 12 + (s.2.2.2.2 : Int) := by rw [c6.2 w (by omega)]; exact j5
      obtain ⟨q1, q2, q3, q4, q5, q6⟩ := c2
      have hlb : ∀ x, x ∈ pl1 → s.2.2.2.2 < x.2 := fun x hx => c5 x hx
      have h58 : R3 58 s.2.2.2.2 = 1048576 * 12 := by
        have e := ldL_o pl1 (R3 58) u.2.2.2.2 s.2.2.2.2 (fun x hx => by have := hlb x hx; omega)
        rw [← e, q6, hfr.2 s.2.2.2.2 (by show s.2.2.2.2 < s.2.2.2.2 + 1; omega)]
        exact ts_s
      have hl : (pl1 ++ [((12 : Int), s.2.2.2.2)]).length = pl1.length + 1 := by rw [List.length_append, List.length_singleton]
      have hL3 : rL f N R3 (land u (s.2.2.1 + 1) s.2.2.2.2 12) o w (pl1 ++ [(12, s.2.2.2.2)]) := ⟨q1, q2, by rw [hl, q3, show w + (pl1.length + 1) = w + 1 + pl1.length by omega], q4, LK.app h59 h58 (Or.inr rfl) hgs hlb q5, by
        rw [ldL_app]
        show ldL (ldL (R3 58) u.2.2.2.2 pl1) u.2.2.2.2 _ = _
        rw [q6]; rfl⟩
      have ht3 : tp R3 w = tp R w := tp_c (fun i hi => by rw [c6.2 i (by omega), j6.2 i hi])
      exact ((ih 4 o (land u (s.2.2.1 + 1) s.2.2.2.2 12) r R3 w (pl1 ++ [(12, s.2.2.2.2)]) lo (by decide) ho hgr.2.1 hgb (by rw [hl]; show w + (pl1.length + 1) ≤ u.1; omega) (by show lo ≤ u.2.2.2.2; omega) (fun x hx => by
        rw [List.mem_append] at hx
        rcases hx with hx | hx
        · have := hlb x hx; omega
        · rw [List.mem_singleton] at hx; rw [hx]; exact hlo) a2 hL3).2.2.2.2 rfl ⟨pl1, _, c3, Or.inr ⟨_, rfl⟩, rfl⟩ (by rw [ht3]; exact ht)).go (eA.trans c1) (j6.tr (c6.le (by omega))) (Nat.le_refl _)
end RC
