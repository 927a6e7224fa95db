/-! Cell 0 is never written; the law's loop, arm by arm; the start; the whole run. -/
section LOOP
set_option maxHeartbeats 4000000 in
theorem sem_0 {own : Nat → Nat} {bz : Bool} {pc : Nat} {i : Instr} {P : aP} {Lo St : List aV} {M : aM} {pc' : Nat} {Lo' St' : List aV} {M' : aM} (h : sem own bz pc i P Lo St M = aGo pc' Lo' St' M') : M' 0 = M 0 := by
  cases i with
  | putfield k =>
    simp only [sem] at h
    split at h
    · split at h
      · next c0 refs hq =>
        split at h
        · cases h
          obtain ⟨q', rfl⟩ := lay_pos hq (by intro n e; cases e)
          exact up_ne (by omega)
        · cases h
      · cases h
    · cases h
  | iastore =>
    simp only [sem] at h
    split at h
    · split at h
      · next t n0 hq =>
        split at h
        · next ht =>
          subst ht
          split at h
          · cases h
            obtain ⟨q', rfl⟩ := lay_pos hq (by intro n e; cases e)
            exact up_ne (by omega)
          · cases h
        · cases h
      · cases h
    · cases h
  | bastore =>
    simp only [sem] at h
    split at h
    · split at h
      · next t n0 hq =>
        split at h
        · next ht =>
          subst ht
          split at h
          · cases h
            obtain ⟨q', rfl⟩ := lay_pos hq (by intro n e; cases e)
            exact up_ne (by omega)
          · cases h
        · cases h
      · cases h
    · cases h
  | invokestatic k =>
    simp only [sem] at h
    split at h
    · split at h
      · split at h
        · next n0 n1 hq0 hq1 =>
          split at h
          · cases h
            obtain ⟨q', rfl⟩ := lay_pos hq1 (by intro n e; cases e)
            exact cp_o (by omega)
          · cases h
        · cases h
      · cases h
    · repeat' split at h
      all_goals (first | (cases h; rfl) | cases h)
  | ifCond k off =>
    cases k <;> simp only [sem, aBr] at h <;> (repeat' split at h) <;> first | (cases h; rfl) | cases h
  | if_icmp k off =>
    cases k <;> simp only [sem, aBr] at h <;> (repeat' split at h) <;> first | (cases h; rfl) | cases h
  | _ =>
    simp only [sem] at h
    (try repeat' split at h)
    all_goals (first | (cases h; rfl) | cases h)
set_option maxHeartbeats 400000 in
theorem stp_0 {c pc : Nat} {Lo St : List aV} {M : aM} {pc' : Nat} {Lo' St' : List aV} {M' : aM} (h : stp c pc Lo St M = aGo pc' Lo' St' M') : M' 0 = M 0 := by
  unfold stp at h
  split at h
  · exact sem_0 h
  · cases h
set_option maxHeartbeats 400000 in
theorem cnt_0 {vd : Bool} {q : Option aV × aM} {f : List aV → aM → aX} {x : Option aV × aM} (h : cnt vd q f = some x) : ∃ u, f u q.2 = some x := by
  unfold cnt at h
  split at h
  · exact ⟨_, h⟩
  · exact ⟨_, h⟩
  · cases h
set_option maxHeartbeats 400000 in
theorem ex_0 : ∀ (n r c pc : Nat) (Lo St : List aV) (M : aM) (v : Option aV) (M' : aM), ex n r c pc Lo St M = some (v, M') → M' 0 = M 0 := by
  intro n
  induction n with
  | zero => intro r c pc Lo St M v M' h; cases h
  | succ n ih =>
    intro r c pc Lo St M v M' h
    rw [ex] at h
    split at h
    · cases h
    · next hs => exact (ih _ _ _ _ _ _ _ _ h).trans (stp_0 hs)
    · split at h
      · rw [Option.bind_eq_some_iff] at h
        obtain ⟨q, h1, h2⟩ := h
        obtain ⟨u, h3⟩ := cnt_0 h2
        exact (ih _ _ _ _ _ _ _ _ h3).trans (ih _ _ _ _ _ _ _ q.2 h1)
      · cases h
    · cases h; rfl
set_option maxHeartbeats 400000 in
theorem fnA_0 {c : Nat} {as : List aV} {M M' : aM} {v : Option aV} (h : fnA c as M = some (v, M')) : M' 0 = M 0 := by
  obtain ⟨n, hn⟩ := run_iff.mp h
  exact ex_0 _ _ _ _ _ _ _ _ _ hn
set_option maxHeartbeats 400000 in
theorem okm {M : aM} {c d : Nat} {as : List aV} (h : OK2 Wl c d as) (hI : INV Wl M) (hX : ∀ j, inR (M 0 j)) : ∃ v M1 M2, fnA c (.inr (some 1) :: as) M = some (some (.inl v), M1) ∧ fnA d (.inr (some 53) :: as) M1 = some (some (.inl v), M2) ∧ INV Wl M2 ∧ M1 0 = M 0 ∧ M2 0 = M 0 := by
  obtain ⟨v, M1, M2, h1, h2, h3, h4⟩ := h M hI hX
  exact ⟨v, M1, M2, h1, h2, h3, fnA_0 h1, h4⟩
set_option maxHeartbeats 400000 in
theorem ar0 {M : aM} {c d : Nat} {F : aM → aX} (hI : INV Wl M) (hX : ∀ j, inR (M 0 j))  (h : OK2 Wl c d []) : ∃ M2, (bI (fnA c [.inr (some 1)] M) fun w1 M1 => bI (fnA d [.inr (some 53)] M1) fun w2 M2 => if w1 = w2 then F M2 else some (some (.inl 0), M2)) = F M2 ∧ INV Wl M2 ∧ M2 0 = M 0 := by
  obtain ⟨v, M1, M2, h1, h2, h3, h4, h5⟩ := okm h hI hX
  exact ⟨M2, by rw [h1, bI_s, h2, bI_s, if_pos rfl], h3, h5⟩
set_option maxHeartbeats 400000 in
theorem ar1 {M : aM} {c d : Nat} {x : Int} {F : aM → aX} (hI : INV Wl M) (hX : ∀ j, inR (M 0 j)) (g1 : 0 ≤ wr (x + 1) ∧ wr (x + 1) < M 0 4000) (h : OK2 Wl c d [.inl (M 0 (Int.toNat (wr (x + 1))))]) : ∃ M2, (if 0 ≤ wr (x + 1) ∧ wr (x + 1) < M 0 4000 then bI (fnA c [.inr (some 1), .inl (M 0 (Int.toNat (wr (x + 1))))] M) fun w1 M1 => if 0 ≤ wr (x + 1) ∧ wr (x + 1) < M1 0 4000 then bI (fnA d [.inr (some 53), .inl (M1 0 (Int.toNat (wr (x + 1))))] M1) fun w2 M2 => if w1 = w2 then F M2 else some (some (.inl 0), M2) else none else none) = F M2 ∧ INV Wl M2 ∧ M2 0 = M 0 := by
  obtain ⟨v, M1, M2, h1, h2, h3, h4, h5⟩ := okm h hI hX
  exact ⟨M2, by rw [if_pos g1, h1, bI_s, h4, if_pos g1, h2, bI_s, if_pos rfl], h3, h5⟩
set_option maxHeartbeats 400000 in
theorem ar2 {M : aM} {c d : Nat} {x : Int} {F : aM → aX} (hI : INV Wl M) (hX : ∀ j, inR (M 0 j)) (g1 : 0 ≤ wr (x + 1) ∧ wr (x + 1) < M 0 4000) (g2 : 0 ≤ wr (x + 2) ∧ wr (x + 2) < M 0 4000) (h : OK2 Wl c d [.inl (M 0 (Int.toNat (wr (x + 1)))), .inl (M 0 (Int.toNat (wr (x + 2))))]) : ∃ M2, (if 0 ≤ wr (x + 1) ∧ wr (x + 1) < M 0 4000 then if 0 ≤ wr (x + 2) ∧ wr (x + 2) < M 0 4000 then bI (fnA c [.inr (some 1), .inl (M 0 (Int.toNat (wr (x + 1)))), .inl (M 0 (Int.toNat (wr (x + 2))))] M) fun w1 M1 => if 0 ≤ wr (x + 1) ∧ wr (x + 1) < M1 0 4000 then if 0 ≤ wr (x + 2) ∧ wr (x + 2) < M1 0 4000 then bI (fnA d [.inr (some 53), .inl (M1 0 (Int.toNat (wr (x + 1)))), .inl (M1 0 (Int.toNat (wr (x + 2))))] M1) fun w2 M2 => if w1 = w2 then F M2 else some (some (.inl 0), M2) else none else none else none else none) = F M2 ∧ INV Wl M2 ∧ M2 0 = M 0 := by
  obtain ⟨v, M1, M2, h1, h2, h3, h4, h5⟩ := okm h hI hX
  exact ⟨M2, by rw [if_pos g1, if_pos g2, h1, bI_s, h4, if_pos g1, if_pos g2, h2, bI_s, if_pos rfl], h3, h5⟩
set_option maxHeartbeats 400000 in
theorem ar3 {M : aM} {c d : Nat} {x : Int} {F : aM → aX} (hI : INV Wl M) (hX : ∀ j, inR (M 0 j)) (g1 : 0 ≤ wr (x + 1) ∧ wr (x + 1) < M 0 4000) (g2 : 0 ≤ wr (x + 2) ∧ wr (x + 2) < M 0 4000) (g3 : 0 ≤ wr (x + 3) ∧ wr (x + 3) < M 0 4000) (h : OK2 Wl c d [.inl (M 0 (Int.toNat (wr (x + 1)))), .inl (M 0 (Int.toNat (wr (x + 2)))), .inl (M 0 (Int.toNat (wr (x + 3))))]) : ∃ M2, (if 0 ≤ wr (x + 1) ∧ wr (x + 1) < M 0 4000 then if 0 ≤ wr (x + 2) ∧ wr (x + 2) < M 0 4000 then if 0 ≤ wr (x + 3) ∧ wr (x + 3) < M 0 4000 then bI (fnA c [.inr (some 1), .inl (M 0 (Int.toNat (wr (x + 1)))), .inl (M 0 (Int.toNat (wr (x + 2)))), .inl (M 0 (Int.toNat (wr (x + 3))))] M) fun w1 M1 => if 0 ≤ wr (x + 1) ∧ wr (x + 1) < M1 0 4000 then if 0 ≤ wr (x + 2) ∧ wr (x + 2) < M1 0 4000 then if 0 ≤ wr (x + 3) ∧ wr (x + 3) < M1 0 4000 then bI (fnA d [.inr (some 53), .inl (M1 0 (Int.toNat (wr (x + 1)))), .inl (M1 0 (Int.toNat (wr (x + 2)))), .inl (M1 0 (Int.toNat (wr (x + 3))))] M1) fun w2 M2 => if w1 = w2 then F M2 else some (some (.inl 0), M2) else none else none else none else none else none else none) = F M2 ∧ INV Wl M2 ∧ M2 0 = M 0 := by
  obtain ⟨v, M1, M2, h1, h2, h3, h4, h5⟩ := okm h hI hX
  exact ⟨M2, by rw [if_pos g1, if_pos g2, if_pos g3, h1, bI_s, h4, if_pos g1, if_pos g2, if_pos g3, h2, bI_s, if_pos rfl], h3, h5⟩
set_option maxHeartbeats 400000 in
theorem ar5 {M : aM} {c d : Nat} {x : Int} {F : aM → aX} (hI : INV Wl M) (hX : ∀ j, inR (M 0 j)) (g1 : 0 ≤ wr (x + 1) ∧ wr (x + 1) < M 0 4000) (g2 : 0 ≤ wr (x + 2) ∧ wr (x + 2) < M 0 4000) (g3 : 0 ≤ wr (x + 3) ∧ wr (x + 3) < M 0 4000) (g4 : 0 ≤ wr (x + 4) ∧ wr (x + 4) < M 0 4000) (g5 : 0 ≤ wr (x + 5) ∧ wr (x + 5) < M 0 4000) (h : OK2 Wl c d [.inl (M 0 (Int.toNat (wr (x + 1)))), .inl (M 0 (Int.toNat (wr (x + 2)))), .inl (M 0 (Int.toNat (wr (x + 3)))), .inl (M 0 (Int.toNat (wr (x + 4)))), .inl (M 0 (Int.toNat (wr (x + 5))))]) : ∃ M2, (if 0 ≤ wr (x + 1) ∧ wr (x + 1) < M 0 4000 then if 0 ≤ wr (x + 2) ∧ wr (x + 2) < M 0 4000 then if 0 ≤ wr (x + 3) ∧ wr (x + 3) < M 0 4000 then if 0 ≤ wr (x + 4) ∧ wr (x + 4) < M 0 4000 then if 0 ≤ wr (x + 5) ∧ wr (x + 5) < M 0 4000 then bI (fnA c [.inr (some 1), .inl (M 0 (Int.toNat (wr (x + 1)))), .inl (M 0 (Int.toNat (wr (x + 2)))), .inl (M 0 (Int.toNat (wr (x + 3)))), .inl (M 0 (Int.toNat (wr (x + 4)))), .inl (M 0 (Int.toNat (wr (x + 5))))] M) fun w1 M1 => if 0 ≤ wr (x + 1) ∧ wr (x + 1) < M1 0 4000 then if 0 ≤ wr (x + 2) ∧ wr (x + 2) < M1 0 4000 then if 0 ≤ wr (x + 3) ∧ wr (x + 3) < M1 0 4000 then if 0 ≤ wr (x + 4) ∧ wr (x + 4) < M1 0 4000 then if 0 ≤ wr (x + 5) ∧ wr (x + 5) < M1 0 4000 then bI (fnA d [.inr (some 53), .inl (M1 0 (Int.toNat (wr (x + 1)))), .inl (M1 0 (Int.toNat (wr (x + 2)))), .inl (M1 0 (Int.toNat (wr (x + 3)))), .inl (M1 0 (Int.toNat (wr (x + 4)))), .inl (M1 0 (Int.toNat (wr (x + 5))))] M1) fun w2 M2 => if w1 = w2 then F M2 else some (some (.inl 0), M2) else none else none else none else none else none else none else none else none else none else none) = F M2 ∧ INV Wl M2 ∧ M2 0 = M 0 := by
  obtain ⟨v, M1, M2, h1, h2, h3, h4, h5⟩ := okm h hI hX
  exact ⟨M2, by rw [if_pos g1, if_pos g2, if_pos g3, if_pos g4, if_pos g5, h1, bI_s, h4, if_pos g1, if_pos g2, if_pos g3, if_pos g4, if_pos g5, h2, bI_s, if_pos rfl], h3, h5⟩
theorem h81l : ∀ M, Wl M → M 81 0 = 0 := fun _ h => h.1
theorem hcnl : ∀ M, Wl M → M 47 5 = M 53 13 := fun M h => by
  obtain ⟨_, L, D, _, h2, h3, _⟩ := h
  rw [h2.1, h3]
set_option maxHeartbeats 400000 in
theorem fdl {M : aM} {x : Int} (hX : ∀ j, inR (M 0 j)) : OK2 Wl 136 200 [.inl (M 0 (Int.toNat (wr (x + 1)))), .inl (M 0 (Int.toNat (wr (x + 2)))), .inl (M 0 (Int.toNat (wr (x + 3)))), .inl (M 0 (Int.toNat (wr (x + 4)))), .inl (M 0 (Int.toNat (wr (x + 5))))] := c_feed WM_l (fun i => M 0 (Int.toNat (wr (x + ((i + 1 : Nat) : Int))))) (fun _ _ => hX _)
noncomputable abbrev lawLP (i : Int) (M : aM) : aX := run 69 290 18 [.inr (some 0), .inr (some 1), .inr (some 53), .inl i] [] M
set_option maxHeartbeats 4000000 in
theorem lstep {M : aM} {x : Int} (hI : INV Wl M) (hX : ∀ j, inR (M 0 j)) (h0 : 0 ≤ x ∧ x < M 0 4000) (he : ¬ wr ((M 0 4000) - 6) < x) (g1 : 0 ≤ wr (x + 1) ∧ wr (x + 1) < M 0 4000) (g2 : 0 ≤ wr (x + 2) ∧ wr (x + 2) < M 0 4000) (g3 : 0 ≤ wr (x + 3) ∧ wr (x + 3) < M 0 4000) (g4 : 0 ≤ wr (x + 4) ∧ wr (x + 4) < M 0 4000) (g5 : 0 ≤ wr (x + 5) ∧ wr (x + 5) < M 0 4000) : ∃ M2, run 69 290 18 [.inr (some 0), .inr (some 1), .inr (some 53), .inl x] [] M = lawLP (wr (x + 6)) M2 ∧ INV Wl M2 ∧ M2 0 = M 0 := by
  have hW := WM_l
  rw [B_290_18 x M, if_neg he, if_pos h0]
  by_cases h : iAnd (M 0 (Int.toNat x)) 63 = 0
  · rw [if_pos h]; exact ar2 (F := lawLP (wr (x + 6))) hI hX g1 g2 (c_bank hW _ _)
  rw [if_neg h]; clear h
  by_cases h : iAnd (M 0 (Int.toNat x)) 63 = 1
  · rw [if_pos h]; exact ar3 (F := lawLP (wr (x + 6))) hI hX g1 g2 g3 (c_owe hW _ _ _)
  rw [if_neg h]; clear h
  by_cases h : iAnd (M 0 (Int.toNat x)) 63 = 2
  · rw [if_pos h]; exact ar3 (F := lawLP (wr (x + 6))) hI hX g1 g2 g3 (c_hold hW _ _ _)
  rw [if_neg h]; clear h
  by_cases h : iAnd (M 0 (Int.toNat x)) 63 = 3
  · rw [if_pos h]; exact ar5 (F := lawLP (wr (x + 6))) hI hX g1 g2 g3 g4 g5 (fdl hX)
  rw [if_neg h]; clear h
  by_cases h : iAnd (M 0 (Int.toNat x)) 63 = 4
  · rw [if_pos h]; exact ar1 (F := lawLP (wr (x + 6))) hI hX g1 (c_law _)
  rw [if_neg h]; clear h
  by_cases h : iAnd (M 0 (Int.toNat x)) 63 = 5
  · rw [if_pos h]; exact ar1 (F := lawLP (wr (x + 6))) hI hX g1 (c_ledger hW _)
  rw [if_neg h]; clear h
  by_cases h : iAnd (M 0 (Int.toNat x)) 63 = 6
  · rw [if_pos h]; exact ar1 (F := lawLP (wr (x + 6))) hI hX g1 (c_months _)
  rw [if_neg h]; clear h
  by_cases h : iAnd (M 0 (Int.toNat x)) 63 = 7
  · rw [if_pos h]; exact ar2 (F := lawLP (wr (x + 6))) hI hX g1 g2 (c_tried _ _ (hX _))
  rw [if_neg h]; clear h
  by_cases h : iAnd (M 0 (Int.toNat x)) 63 = 8
  · rw [if_pos h]; exact ar2 (F := lawLP (wr (x + 6))) hI hX g1 g2 (c_bankIs _ _)
  rw [if_neg h]; clear h
  by_cases h : iAnd (M 0 (Int.toNat x)) 63 = 9
  · rw [if_pos h]; exact ar2 (F := lawLP (wr (x + 6))) hI hX g1 g2 (c_owes _ _)
  rw [if_neg h]; clear h
  by_cases h : iAnd (M 0 (Int.toNat x)) 63 = 10
  · rw [if_pos h]; exact ar2 (F := lawLP (wr (x + 6))) hI hX g1 g2 (c_holds _ _)
  rw [if_neg h]; clear h
  by_cases h : iAnd (M 0 (Int.toNat x)) 63 = 11
  · rw [if_pos h]; exact ar1 (F := lawLP (wr (x + 6))) hI hX g1 (c_cleared hW _ (hX _))
  rw [if_neg h]; clear h
  by_cases h : iAnd (M 0 (Int.toNat x)) 63 = 12
  · rw [if_pos h]; exact ar1 (F := lawLP (wr (x + 6))) hI hX g1 (c_falls hW _)
  rw [if_neg h]; clear h
  by_cases h : iAnd (M 0 (Int.toNat x)) 63 = 13
  · rw [if_pos h]; exact ar1 (F := lawLP (wr (x + 6))) hI hX g1 (c_keystone hW _)
  rw [if_neg h]; clear h
  by_cases h : iAnd (M 0 (Int.toNat x)) 63 = 14
  · rw [if_pos h]; exact ar2 (F := lawLP (wr (x + 6))) hI hX g1 g2 (c_blow hW _ _)
  rw [if_neg h]; clear h
  by_cases h : iAnd (M 0 (Int.toNat x)) 63 = 15
  · rw [if_pos h]; exact ar2 (F := lawLP (wr (x + 6))) hI hX g1 g2 (c_leastBlow hW _ _)
  rw [if_neg h]; clear h
  by_cases h : iAnd (M 0 (Int.toNat x)) 63 = 16
  · rw [if_pos h]; exact ar1 (F := lawLP (wr (x + 6))) hI hX g1 (c_help hW _)
  rw [if_neg h]; clear h
  by_cases h : iAnd (M 0 (Int.toNat x)) 63 = 17
  · rw [if_pos h]; exact ar0 (F := lawLP (wr (x + 6))) hI hX (c_setOff)
  rw [if_neg h]; clear h
  by_cases h : iAnd (M 0 (Int.toNat x)) 63 = 18
  · rw [if_pos h]; exact ar1 (F := lawLP (wr (x + 6))) hI hX g1 (c_settled hW h81l _)
  rw [if_neg h]; clear h
  by_cases h : iAnd (M 0 (Int.toNat x)) 63 = 19
  · rw [if_pos h]; exact ar2 (F := lawLP (wr (x + 6))) hI hX g1 g2 (c_ring hW _ _)
  rw [if_neg h]; clear h
  by_cases h : iAnd (M 0 (Int.toNat x)) 63 = 20
  · rw [if_pos h]; exact ar3 (F := lawLP (wr (x + 6))) hI hX g1 g2 g3 (c_road hW _ _ _)
  rw [if_neg h]; clear h
  by_cases h : iAnd (M 0 (Int.toNat x)) 63 = 21
  · rw [if_pos h]; exact ar2 (F := lawLP (wr (x + 6))) hI hX g1 g2 (c_mergers hW _ _ (hX _))
  rw [if_neg h]; clear h
  by_cases h : iAnd (M 0 (Int.toNat x)) 63 = 22
  · rw [if_pos h]; exact ar2 (F := lawLP (wr (x + 6))) hI hX g1 g2 (c_merge hW _ _)
  rw [if_neg h]; clear h
  by_cases h : iAnd (M 0 (Int.toNat x)) 63 = 23
  · rw [if_pos h]; exact ar1 (F := lawLP (wr (x + 6))) hI hX g1 (c_tampered hW _)
  rw [if_neg h]; clear h
  by_cases h : iAnd (M 0 (Int.toNat x)) 63 = 24
  · rw [if_pos h]; exact ar3 (F := lawLP (wr (x + 6))) hI hX g1 g2 g3 (c_taken hW _ _ _)
  rw [if_neg h]; clear h
  by_cases h : iAnd (M 0 (Int.toNat x)) 63 = 25
  · rw [if_pos h]; exact ar3 (F := lawLP (wr (x + 6))) hI hX g1 g2 g3 (c_loan _ _ _)
  rw [if_neg h]; clear h
  by_cases h : iAnd (M 0 (Int.toNat x)) 63 = 26
  · rw [if_pos h]; exact ar3 (F := lawLP (wr (x + 6))) hI hX g1 g2 g3 (c_payment _ _ _)
  rw [if_neg h]; clear h
  by_cases h : iAnd (M 0 (Int.toNat x)) 63 = 27
  · rw [if_pos h]; exact ar2 (F := lawLP (wr (x + 6))) hI hX g1 g2 (c_code hW _ _)
  rw [if_neg h]; clear h
  by_cases h : iAnd (M 0 (Int.toNat x)) 63 = 28
  · rw [if_pos h]; exact ar2 (F := lawLP (wr (x + 6))) hI hX g1 g2 (c_blinks hW _ _)
  rw [if_neg h]; clear h
  by_cases h : iAnd (M 0 (Int.toNat x)) 63 = 29
  · rw [if_pos h]; exact ar0 (F := lawLP (wr (x + 6))) hI hX (c_atOnce)
  rw [if_neg h]; clear h
  by_cases h : iAnd (M 0 (Int.toNat x)) 63 = 30
  · rw [if_pos h]; exact ar1 (F := lawLP (wr (x + 6))) hI hX g1 (c_shortest hW _)
  rw [if_neg h]; clear h
  by_cases h : iAnd (M 0 (Int.toNat x)) 63 = 31
  · rw [if_pos h]; exact ar1 (F := lawLP (wr (x + 6))) hI hX g1 (c_inOrder hW _)
  rw [if_neg h]; clear h
  by_cases h : iAnd (M 0 (Int.toNat x)) 63 = 32
  · rw [if_pos h]; exact ar1 (F := lawLP (wr (x + 6))) hI hX g1 (c_seed hW _)
  rw [if_neg h]; clear h
  by_cases h : iAnd (M 0 (Int.toNat x)) 63 = 33
  · rw [if_pos h]; exact ar0 (F := lawLP (wr (x + 6))) hI hX (c_keep hW)
  rw [if_neg h]; clear h
  by_cases h : iAnd (M 0 (Int.toNat x)) 63 = 34
  · rw [if_pos h]; exact ar0 (F := lawLP (wr (x + 6))) hI hX (c_undo hW)
  rw [if_neg h]; clear h
  by_cases h : iAnd (M 0 (Int.toNat x)) 63 = 35
  · rw [if_pos h]; exact ar1 (F := lawLP (wr (x + 6))) hI hX g1 (c_check hW _)
  rw [if_neg h]; clear h
  by_cases h : iAnd (M 0 (Int.toNat x)) 63 = 36
  · rw [if_pos h]; exact ar1 (F := lawLP (wr (x + 6))) hI hX g1 (c_count hcnl _ (hX _))
  rw [if_neg h]; clear h
  exact ⟨M, rfl, hI, rfl⟩
set_option maxHeartbeats 400000 in
theorem lrun {X : Nat → Int} {L : Nat} (hL : L ≤ 3072) (hX : ∀ j, inR (X j)) (h4 : X 4000 = (L : Int)) : ∀ (n i : Nat) (M : aM), L < i + n → i ≤ L → INV Wl M → M 0 = X → ∃ M', lawLP (i : Int) M = some (some (.inl 1), M')
  | 0, i, M, h, hi, _, _ => absurd h (by omega)
  | n + 1, i, M, h, hi, hI, hM => by
    by_cases he : wr ((M 0 4000) - 6) < (i : Int)
    · refine ⟨M, ?_⟩
      show run _ _ _ _ _ _ = _
      rw [B_290_18, if_pos he]
    · have e4 : M 0 4000 = (L : Int) := by rw [hM]; exact h4
      have w6 : wr ((L : Int) - 6) = (L : Int) - 6 := wr_s (by omega) (by omega)
      have he' := he
      rw [e4, w6] at he'
      have hi6 : i + 6 ≤ L := by omega
      have hw : ∀ k : Int, 0 ≤ k → k ≤ 6 → wr ((i : Int) + k) = (i : Int) + k := fun k k1 k2 => wr_s (by omega) (by omega)
      have hg : ∀ k : Int, 0 ≤ k → k ≤ 5 → 0 ≤ wr ((i : Int) + k) ∧ wr ((i : Int) + k) < M 0 4000 := fun k k1 k2 => by
        rw [hw k k1 (by omega), e4]; omega
      obtain ⟨M2, h1, h2, h3⟩ := lstep hI (fun j => by rw [hM]; exact hX j) (by rw [e4]; omega) he (hg 1 (by decide) (by decide)) (hg 2 (by decide) (by decide)) (hg 3 (by decide) (by decide)) (hg 4 (by decide) (by decide)) (hg 5 (by decide) (by decide))
      obtain ⟨M', h5⟩ := lrun hL hX h4 n (i + 6) M2 (by omega) hi6 h2 (h3.trans hM)
      refine ⟨M', ?_⟩
      show run _ _ _ _ _ _ = _
      rw [h1, hw 6 (by decide) (by decide)]
      exact h5
def T0 : Nat → Int := fun j => if j = 140 then 1 else 0
set_option maxHeartbeats 400000 in
theorem T0_z {j : Nat} (h : j ≠ 140) : T0 j = 0 := by unfold T0; rw [if_neg h]
theorem T0_1 : T0 140 = 1 := rfl
theorem T0_ok : ok T0 = 0 := by decide +kernel
set_option maxHeartbeats 400000 in
theorem T0_I : TI T0 := by
  refine ⟨by rw [T0_z (by decide)]; decide, by rw [T0_z (by decide)]; decide, fun b hb => by rw [T0_z (by omega)]; decide, fun j hj => by rw [T0_z (by omega)]; decide, fun j hj => by rw [T0_z (by omega)]; decide, fun b hb => ?_, by rw [T0_z (by decide)]; decide, by rw [T0_1]; decide⟩
  rw [sg_c (g := fun _ => 0) (fun i hi => T0_z (by omega))]
  decide
set_option maxHeartbeats 400000 in
theorem T0_Z : TZ T0 := by
  refine ⟨fun b hb _ => ⟨T0_z (by omega), fun e he => ⟨T0_z (by omega), T0_z (by omega), T0_z (by omega), T0_z (by omega)⟩⟩, fun b hb => ⟨T0_z (by omega), T0_z (by omega)⟩⟩
set_option maxHeartbeats 400000 in
theorem M0_I (L : Nat) (xs : Nat → Int32) : INV Wl (M0 L xs) := by
  refine ⟨⟨T0, ⟨fun j hj => ?_, fun j hj => ?_, fun j hj => ?_, ?_, ?_, ?_, ?_, ?_⟩, fun j _ => rfl, T0_I, T0_Z⟩, ⟨T0, rfl, Or.inl rfl⟩, ⟨0, rfl, rfl, by decide, fun i hi => absurd hi (by omega)⟩, fun s hs => ⟨rfl, ?_, ?_, fun i hi => ?_, rfl⟩, rfl, 0, fun _ => (0, (0, 0, 0), (0, 0, 0)), by decide, ⟨rfl, fun i hi => absurd hi (by omega)⟩, rfl, fun i hi => absurd hi (by omega), fun i hi => absurd hi (by omega)⟩
  · rw [T0_z (by omega)]; rfl
  · rw [T0_z (by omega)]; rfl
  · rw [T0_z (by omega)]; rfl
  · rw [T0_z (by decide)]; rfl
  · rw [T0_ok]; rfl
  · rw [T0_z (by decide)]; rfl
  · rw [T0_z (by decide)]; rfl
  · rw [T0_1]; rfl
  · show (0 : Int) ≤ 0; decide
  · show (0 : Int) ≤ 6; decide
  · have h : (i : Int) < 0 := hi
    exact absurd h (by omega)
set_option maxHeartbeats 400000 in
theorem pure_law (L : Nat) (xs : Nat → Int32) (hL : L ≤ 3072) : ∃ M', run 69 290 18 [.inr (some 0), .inr (some 1), .inr (some 53), .inl 0] [] (M0 L xs) = some (some (.inl 1), M') := by
  have hs := M0_ok (xs := xs) hL
  exact lrun (X := M0 L xs 0) hL (fun j => hs.1 0 j) hs.2.1 (L + 1) 0 (M0 L xs) (by omega) (Nat.zero_le _) (M0_I L xs) rfl
end LOOP
