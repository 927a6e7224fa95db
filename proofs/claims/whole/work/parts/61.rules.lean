/-! One rule of a law, read by both. -/
section RUL
variable {f : Nat → Int} {N : Nat}
set_option maxHeartbeats 400000 in
theorem pS_neg (f : Nat → Int) : ∀ (n md o : Nat) (s : PS) (e : Int), pS f n md o s = some (.inl e) → e < 0 := by
  intro n
  induction n with
  | zero => intro md o s e h; cases h
  | succ n ih =>
    intro md o s e h
    match md, h with
    | 0, h =>
      rw [pS_0] at h
      by_cases g1 : f s.1 = 91
      · rw [if_pos g1] at h
        by_cases g2 : 6 ≤ o
        · rw [if_pos g2] at h
          injection h with h
          injection h with h
          rw [← h]; exact flt_n (by decide)
        · rw [if_neg g2] at h
          rcases bnd_l h with h1 | ⟨u, h1, h2⟩
          · exact ih _ _ _ _ h1
          · unfold clo at h2
            by_cases g3 : f u.1 = 93
            · rw [if_pos g3] at h2; cases h2
            · rw [if_neg g3] at h2
              injection h2 with h2
              injection h2 with h2
              rw [← h2]; exact flt_n (by decide)
      · rw [if_neg g1] at h
        by_cases g2 : f s.1 = 98 ∨ f s.1 = 99 ∨ f s.1 = 111 ∨ f s.1 = 103 ∨ f s.1 = 101 ∨ f s.1 = 100 ∨ f s.1 = 109
        · rw [if_pos g2] at h; cases h
        · rw [if_neg g2] at h
          cases e' : pnum1 f 5 s.1 with
          | inl x =>
            rw [e'] at h
            injection h with h
            injection h with h
            rw [← h]; exact pnum1_n e'
          | inr pv => rw [e'] at h; cases h
    | 1, h =>
      rw [pS_1] at h
      rcases bnd_l h with h1 | ⟨u, h1, h2⟩
      · exact ih _ _ _ _ h1
      · exact ih _ _ _ _ h2
    | 2, h =>
      rw [pS_2] at h
      by_cases g : f s.1 = 42 ∨ f s.1 = 47 ∨ f s.1 = 37
      · rw [if_pos g] at h
        rcases bnd_l h with h1 | ⟨u, h1, h2⟩
        · exact ih _ _ _ _ h1
        · exact ih _ _ _ _ h2
      · rw [if_neg g] at h; cases h
    | 3, h =>
      rw [pS_3] at h
      rcases bnd_l h with h1 | ⟨u, h1, h2⟩
      · exact ih _ _ _ _ h1
      · exact ih _ _ _ _ h2
    | md + 4, h =>
      have h' : (if f s.1 = 43 ∨ f s.1 = 45 then bnd (pS f n 1 o (adv s)) (fun t => pS f n 4 o (em1 t (f s.1) (1048576 * opO (f s.1)))) else some (.inr s)) = some (.inl e) := h
      by_cases g : f s.1 = 43 ∨ f s.1 = 45
      · rw [if_pos g] at h'
        rcases bnd_l h' with h1 | ⟨u, h1, h2⟩
        · exact ih _ _ _ _ h1
        · exact ih _ _ _ _ h2
      · rw [if_neg g] at h'; cases h'
set_option maxHeartbeats 400000 in
theorem pC_neg (f : Nat → Int) : ∀ (n md o : Nat) (s : PS) (e : Int), pC f n md o s = some (.inl e) → e < 0 := by
  intro n
  induction n with
  | zero => intro md o s e h; cases h
  | succ n ih =>
    intro md o s e h
    match md, h with
    | 0, h =>
      rw [pC_0] at h
      by_cases g1 : f s.1 = 33 ∨ f s.1 = 40
      · rw [if_pos g1] at h
        by_cases g2 : 6 ≤ o
        · rw [if_pos g2] at h
          injection h with h
          injection h with h
          rw [← h]; exact flt_n (by decide)
        · rw [if_neg g2] at h
          by_cases g3 : f s.1 = 40
          · rw [if_pos g3] at h
            rcases bnd_l h with h1 | ⟨u, h1, h2⟩
            · exact ih _ _ _ _ h1
            · unfold clo at h2
              by_cases g3 : f u.1 = 41
              · rw [if_pos g3] at h2; cases h2
              · rw [if_neg g3] at h2
                injection h2 with h2
                injection h2 with h2
                rw [← h2]; exact flt_n (by decide)
          · rw [if_neg g3] at h
            rcases bnd_l h with h1 | ⟨u, h1, h2⟩
            · exact ih _ _ _ _ h1
            · cases h2
      · rw [if_neg g1] at h
        rcases bnd_l h with h1 | ⟨u, h1, h2⟩
        · exact pS_neg f _ _ _ _ _ h1
        · by_cases g2 : f u.1 = 60 ∨ f u.1 = 62 ∨ f u.1 = 61
          · rw [if_pos g2] at h2
            rcases bnd_l h2 with h3 | ⟨v, h3, h4⟩
            · exact pS_neg f _ _ _ _ _ h3
            · cases h4
          · rw [if_neg g2] at h2
            injection h2 with h2
            injection h2 with h2
            rw [← h2]; exact flt_n (by decide)
    | 1, h =>
      rw [pC_1] at h
      rcases bnd_l h with h1 | ⟨u, h1, h2⟩
      · exact ih _ _ _ _ h1
      · exact ih _ _ _ _ h2
    | 2, h =>
      rw [pC_2] at h
      by_cases g : f s.1 = 38
      · rw [if_pos g] at h
        rcases bnd_l h with h1 | ⟨u, h1, h2⟩
        · exact ih _ _ _ _ h1
        · exact ih _ _ _ _ h2
      · rw [if_neg g] at h; cases h
    | 3, h =>
      rw [pC_3] at h
      rcases bnd_l h with h1 | ⟨u, h1, h2⟩
      · exact ih _ _ _ _ h1
      · exact ih _ _ _ _ h2
    | md + 4, h =>
      have h' : (if f s.1 = 124 then bnd (pC f n 1 o (emL2 (adv s) 124 12)) (fun t => pC f n 4 o (land t (s.2.2.1 + 1) s.2.2.2.2 12)) else some (.inr s)) = some (.inl e) := h
      by_cases g : f s.1 = 124
      · rw [if_pos g] at h'
        rcases bnd_l h' with h1 | ⟨u, h1, h2⟩
        · exact ih _ _ _ _ h1
        · exact ih _ _ _ _ h2
      · rw [if_neg g] at h'; cases h'
/- what is told of a rule: its letter; where its amount, its case begin, where it ends: in the class's cells and in the reference's -/
abbrev RU : Type := Nat → Int × (Nat × Nat × Nat) × (Nat × Nat × Nat)
def CRU (k : Nat) (M : aM) (L : Nat) (D : RU) : Prop := M k 5 = (L : Int) ∧ ∀ i, i < L → M (k + 1) i = (D i).1 ∧ M (k + 2) i = ((D i).2.1.1 : Int) ∧ M (k + 3) i = ((D i).2.1.2.1 : Int) ∧ M (k + 4) i = ((D i).2.1.2.2 : Int)
def RRU (q : Nat) (R : aM) (L : Nat) (D : RU) : Prop := ∀ i, i < L → R q i = (D i).1 ∧ R (q + 1) i = ((D i).2.2.1 : Int) ∧ R (q + 2) i = ((D i).2.2.2.1 : Int) ∧ R (q + 3) i = ((D i).2.2.2.2 : Int)
def RD (t : PS) (L : Nat) (D : RU) : Prop := ∀ i, i < L → (D i).2.1.2.1 ≤ (D i).2.1.2.2 ∧ (D i).2.2.2.1 ≤ (D i).2.2.2.2 ∧ (D i).2.1.2.2 ≤ t.2.2.1 ∧ (D i).2.2.2.2 ≤ t.2.2.2.2 ∧ ((D i).1 ≠ 120 → ∃ d, d ≤ 32 ∧ EVs t false (D i).2.1.1 (D i).2.2.1 (D i).2.1.2.1 (D i).2.2.2.1 d) ∧ ∃ d, d ≤ 32 ∧ EVs t true (D i).2.1.2.1 (D i).2.2.2.1 (D i).2.1.2.2 (D i).2.2.2.2 d
set_option maxHeartbeats 400000 in
theorem RD.fm {N : Nat} {s t : PS} {L : Nat} {D : RU} (h : RD s L D) (hf : FRm s t) (hg : GR N s t) : RD t L D := by
  intro i hi
  obtain ⟨a1, a2, a3, a4, a5, a6⟩ := h i hi
  have g5 := hg.2.2.2.2.1
  have g6 := hg.2.2.2.2.2
  refine ⟨a1, a2, by omega, by omega, fun z => ?_, ?_⟩
  · obtain ⟨d, d1, d2⟩ := a5 z
    exact ⟨d, d1, EV.mv d2 (fun j _ j2 => hf.1 j (by omega)) (fun j _ j2 => hf.2 j (by omega))⟩
  · obtain ⟨d, d1, d2⟩ := a6
    exact ⟨d, d1, EV.mv d2 (fun j _ j2 => hf.1 j (by omega)) (fun j _ j2 => hf.2 j (by omega))⟩
def PW (q : Nat) : Bool := decide (18 ≤ q ∧ q ≤ 23)
def PV (q : Nat) : Bool := decide (58 ≤ q ∧ q ≤ 63)
def DV (j : Nat) : Bool := j == 5 || j == 7 || j == 8 || j == 9 || j == 10 || j == 11 || j == 12
set_option maxHeartbeats 400000 in
theorem CFc.w {M M' : aM} (h : CFc M M') : CF PW M M' := h.1.le (fun q hq => by
  unfold PC at hq
  simp only [Bool.or_eq_true, beq_iff_eq] at hq
  unfold PW
  simp; omega)
set_option maxHeartbeats 400000 in
theorem KW.v {w : Nat} {R R' : aM} (h : KW w R R') : RF PV DV R R' := ⟨fun q a b => h.1.1 q a (by
  unfold PV at b
  simp at b
  unfold PRs
  simp; omega), fun j hj => h.1.2 j (by
  unfold DV at hj
  simp only [Bool.or_eq_false_iff] at hj
  unfold DRs
  simp only [Bool.or_eq_false_iff]
  exact hj.1)⟩
set_option maxHeartbeats 400000 in
theorem PWp {q : Nat} (h : 18 ≤ q ∧ q ≤ 23) : PW q = true := by simp [PW, h.1, h.2]
set_option maxHeartbeats 400000 in
theorem PVp {q : Nat} (h : 58 ≤ q ∧ q ≤ 63) : PV q = true := by simp [PV, h.1, h.2]
def isR (c : Int) : Prop := c = 102 ∨ c = 119 ∨ c = 113 ∨ c = 105 ∨ c = 120
def RRx (f : Nat → Int) (N : Nat) (s : PS) (L : Nat) (D : RU) (R : aM) : Prop := RX f N s.1 R ∧ R 53 10 = (s.2.2.2.2 : Int) ∧ R 58 = s.2.2.2.1 ∧ R 53 12 = (L : Int) ∧ RRU 60 R L D
/- the condition of a rule, in the reference -/
set_option maxHeartbeats 400000 in
theorem s220 (hf : FT f N) {n : Nat} {s : PS} (hs : s.1 ≤ N) (hb : s.2.2.2.2 ≤ s.1) (hp1 : 1 ≤ s.1) {R : aM} (hX : RX f N s.1 R) (h10 : R 53 10 = (s.2.2.2.2 : Int)) (h58 : R 58 = s.2.2.2.1) : (f s.1 ≠ 40 → fnA 220 [.inr (some 53)] R = some (some (.inl 0), upM R 53 7 (flt 1 s.1))) ∧ (f s.1 = 40 → ∀ r, pC f n 3 1 (adv s) = some r → match r with
    | .inl e => ∃ R', fnA 220 [.inr (some 53)] R = some (some (.inl 0), R') ∧ R' 53 7 = e ∧ RF PV DV R R' ∧ (∀ q, q ≠ 53 → q ≠ 58 → q ≠ 59 → R' q = R q) ∧ R' 53 12 = R 53 12
    | .inr t => (f t.1 = 41 → ∃ R', fnA 220 [.inr (some 53)] R = some (some (.inl 1), R') ∧ RX f N (t.1 + 1) R' ∧ R' 53 10 = (t.2.2.2.2 : Int) ∧ R' 58 = t.2.2.2.1 ∧ RF PV DV R R' ∧ (∀ q, q ≠ 53 → q ≠ 58 → q ≠ 59 → R' q = R q) ∧ R' 53 12 = R 53 12) ∧ (f t.1 ≠ 41 → ∃ R', fnA 220 [.inr (some 53)] R = some (some (.inl 0), R') ∧ R' 53 7 = flt 1 t.1 ∧ RF PV DV R R')) := by
  have hN := hf.1
  refine ⟨fun g => ?_, fun g r h => ?_⟩
  · have h204 := s204 (k := 1) (p := s.1) (by decide) (by omega) R
    have h204' : fnA 204 [.inr (some 53), .inl 1, .inl (s.1 : Int)] R = some (some (.inl 0), upM R 53 7 (flt 1 s.1)) := h204
    rw [E_220, s202 hf hX, bI_s, if_neg g, hX.2.1, h204', bI_s, if_pos (Or.inl rfl)]
  · have hp : s.1 < N := p240 hf (by omega)
    have hRz : rQ f N (upM (upM R 53 9 0) 53 11 0) s 0 0 [] := ⟨(hX.o (by decide)).o (by decide), by rw [up_j (by decide), up_s]; rfl, up_s, trivial, s.2.2.2.2, by rw [up_j (by decide), up_j (by decide)]; exact h10, by rw [up_ne (by decide), up_ne (by decide), h58]; rfl⟩
    have e208 := s208 (k := 13) (o := 0) (w := 0) (p := s.1) (by decide) hRz.2.1 hRz.2.2.1 hRz.1.2.1 (by decide) (by omega) (by decide)
    rw [if_neg (by decide)] at e208
    have eT : fnA 220 [.inr (some 53)] R = TSTx (op1 (upM (upM R 53 9 0) 53 11 0) 0 0 s.1 13) := by
      rw [E_220, s202 hf hX, bI_s, if_pos g, e208, bI_s, if_neg (by decide)]
      rfl
    have ht : tp (op1 (upM (upM R 53 9 0) 53 11 0) 0 0 s.1 13) (0 + 1) = 13 := op1_t (by decide)
    have hK0 : KW 0 R (op1 (upM (upM R 53 9 0) 53 11 0) 0 0 s.1 13) := ((KW.rf.u rfl).u rfl).tr op1_K
    have h3 := (rC hf n 3 1 (adv s) r (op1 (upM (upM R 53 9 0) 53 11 0) 0 0 s.1 13) 1 [] 0 (by decide) (by decide) (by show s.1 + 1 ≤ N; omega) (by show s.2.2.2.2 ≤ s.1 + 1; omega) (by show 1 + 0 ≤ s.1 + 1; omega) (Nat.zero_le _) (fun x hx => by cases hx) h (op1_Q hRz).L).2.2.2.1 rfl rfl ht
    have kq : ∀ {R' : aM}, KW 0 R R' → ∀ q, q ≠ 53 → q ≠ 58 → q ≠ 59 → R' q = R q := fun k q q1 q2 q3 => k.1.1 q q1 (by unfold PRs; simp [q2, q3])
    rcases r with e | t
    · obtain ⟨R', c1, c2, c3⟩ := h3
      have k := hK0.tr (c3.le (Nat.zero_le _))
      exact ⟨R', eT.trans c1, c2, k.v, kq k, k.1.2 12 rfl⟩
    · obtain ⟨R1, pl1, c1, c2, c3, c4, c5, c6⟩ := h3
      have hen := (pC_end f n 3 1 (adv s) t (by decide) h).2.1 rfl
      have hgr := pC_gr hf n 3 1 (adv s) t (by show s.1 + 1 ≤ N; omega) h
      have hgb : t.2.2.2.2 ≤ t.1 := by
        have z : t.2.2.2.2 + (s.1 + 1) ≤ s.2.2.2.2 + t.1 := hgr.2.2.2.1
        omega
      have htN := hgr.2.1
      have k1 := hK0.tr (c6.le (Nat.zero_le _))
      obtain ⟨d1, d2, d3, d4, d5, d6⟩ := c2
      refine ⟨fun g4 => ?_, fun g4 => ?_⟩
      · have hnJ : ¬ inJ 1 (tp R1 1) := by
          rw [tp_c (R := op1 (upM (upM R 53 9 0) 53 11 0) 0 0 s.1 13) c6.2]
          show ¬ inJ 1 (tp _ (0 + 1))
          rw [ht]
          unfold inJ; omega
        obtain ⟨R2, m1, m2, m3, m4, m5, m6⟩ := s217f (x1 := 1) (w0 := 1) (b0 := t.2.2.2.2) (by omega) pl1 R1 t.2.2.2.2 (.inr none) (klC_in c3) hnJ d3 d5 (Nat.le_refl _) d4 (by omega)
        rw [d6] at m3
        have m1' : fnA 217 [.inr (some 53), .inl 1] R1 = some (none, R2) := by rw [E_217]; exact m1
        have n5 : R2 53 5 = (t.1 : Int) := by rw [m6 5 (by decide)]; exact d1.2.1
        have n9 : R2 53 9 = ((0 + 1 : Nat) : Int) := by rw [m6 9 (by decide)]; exact d2
        have hX2 : RX f N t.1 R2 := ⟨by rw [m6 6 (by decide)]; exact d1.1, n5, fun i hi => by rw [m5 57 (by decide) (by decide)]; exact d1.2.2 i hi⟩
        have m2' : R2 53 11 = ((0 + 1 : Nat) : Int) := m2
        have o1 : upM R2 53 11 ((0 : Nat) : Int) 53 9 = ((0 + 1 : Nat) : Int) := by rw [up_j (by decide)]; exact n9
        have o2 : upM (upM R2 53 11 ((0 : Nat) : Int)) 53 9 ((0 : Nat) : Int) 53 5 = (t.1 : Int) := by rw [up_j (by decide), up_j (by decide)]; exact n5
        have o3 : upM (upM (upM R2 53 11 ((0 : Nat) : Int)) 53 9 ((0 : Nat) : Int)) 53 5 ((t.1 + 1 : Nat) : Int) 53 11 = 0 := by rw [up_j (by decide), up_j (by decide), up_s]; rfl
        have k2 : KW 0 R R2 := k1.tr ⟨⟨fun q q1 q2 => m5 q q1 (fun e => by rw [e] at q2; cases q2), fun j hj => m6 j (fun e => by rw [e] at hj; cases hj)⟩, fun i hi => by rw [m4]⟩
        have k3 := ((k2.u (j := 11) (x := ((0 : Nat) : Int)) rfl).u (j := 9) (x := ((0 : Nat) : Int)) rfl).u (j := 5) (x := ((t.1 + 1 : Nat) : Int)) rfl
        refine ⟨_, ?_, ((hX2.o (by decide)).o (by decide)).st (t.1 + 1), ?_, ?_, k3.v, kq k3, k3.1.2 12 rfl⟩
        · refine eT.trans (c1.trans ?_)
          unfold AFTx
          rw [B_220_92, s202 hf d1, bI_s, if_pos g4, m1', bV_s, m2', wm1 (by omega), o1, wm1 (by omega), o2, w1p (by omega), o3, if_pos rfl]
        · rw [up_j (by decide), up_j (by decide), up_j (by decide), m6 10 (by decide)]; exact d4
        · rw [up_ne (by decide), up_ne (by decide), up_ne (by decide), m3]
      · have h204 := s204 (k := 1) (p := t.1) (by decide) (by omega) R1
        have h204' : fnA 204 [.inr (some 53), .inl 1, .inl (t.1 : Int)] R1 = some (some (.inl 0), upM R1 53 7 (flt 1 t.1)) := h204
        refine ⟨_, ?_, up_s, (k1.u rfl).v⟩
        refine eT.trans (c1.trans ?_)
        unfold AFTx
        rw [B_220_92, s202 hf d1, bI_s, if_neg g4, s202 hf d1, bI_s, if_neg hen.1, s202 hf d1, bI_s, if_neg hen.2, d1.2.1, h204', bI_s, if_pos (Or.inl rfl)]
end RUL
