/-! blinks: the tables of ways and of fewest signs, by their equations; class and reference lay the same ones. -/
section BLK
def sd (M : aM) (n s p : Nat) : Prop := cL M s ≠ 0 ∧ p + cL M s ≤ n ∧ ∀ i, i < cL M s → M 3 (p + i) = cB M s i
noncomputable def sdI (M : aM) (n s p : Nat) : Int := bI1 (sd M n s p)
section
variable {d : Nat → Nat → Int} {L : Nat → Nat} {n : Nat} {F : Int}
def wf (d : Nat → Nat → Int) (L : Nat → Nat) (w : Nat → Int) (p : Nat) : Nat → Int
  | 0 => 0
  | s + 1 => if d s p = 0 then wf d L w p s else min 1000000000 (wf d L w p s + w (p + L s))
def tf (d : Nat → Nat → Int) (L : Nat → Nat) (F : Int) (t : Nat → Int) (p : Nat) : Nat → Int
  | 0 => F
  | s + 1 => if d s p = 0 then tf d L F t p s else min (tf d L F t p s) (t (p + L s) + 1)
set_option maxHeartbeats 400000 in
theorem wf_s (w : Nat → Int) (p s : Nat) : wf d L w p (s + 1) = if d s p = 0 then wf d L w p s else min 1000000000 (wf d L w p s + w (p + L s)) := rfl
set_option maxHeartbeats 400000 in
theorem tf_s (t : Nat → Int) (p s : Nat) : tf d L F t p (s + 1) = if d s p = 0 then tf d L F t p s else min (tf d L F t p s) (t (p + L s) + 1) := rfl
/-- what stands goes on to a place behind, at most the end -/
def dok (d : Nat → Nat → Int) (L : Nat → Nat) (n : Nat) : Prop := ∀ s p, d s p ≠ 0 → L s ≠ 0 ∧ p + L s ≤ n
set_option maxHeartbeats 400000 in
theorem wf_c (hd : dok d L n) {w u : Nat → Int} {p : Nat} (h : ∀ r, p < r → r ≤ n → w r = u r) : ∀ s, wf d L w p s = wf d L u p s
  | 0 => rfl
  | s + 1 => by
    rw [wf_s, wf_s, wf_c hd h s]
    by_cases g : d s p = 0
    · rw [if_pos g, if_pos g]
    · have := hd s p g
      rw [if_neg g, if_neg g, h (p + L s) (by omega) this.2]
set_option maxHeartbeats 400000 in
theorem tf_c (hd : dok d L n) {w u : Nat → Int} {p : Nat} (h : ∀ r, p < r → r ≤ n → w r = u r) : ∀ s, tf d L F w p s = tf d L F u p s
  | 0 => rfl
  | s + 1 => by
    rw [tf_s, tf_s, tf_c hd h s]
    by_cases g : d s p = 0
    · rw [if_pos g, if_pos g]
    · have := hd s p g
      rw [if_neg g, if_neg g, h (p + L s) (by omega) this.2]
def KT (d : Nat → Nat → Int) (L : Nat → Nat) (n : Nat) (F : Int) (w t : Nat → Int) (p s : Nat) : Prop := (∀ q, p ≤ q → q ≤ n → (0 ≤ w q ∧ w q ≤ 1000000000) ∧ 0 ≤ t q ∧ t q ≤ F) ∧ (w n = 1 ∧ t n = 0) ∧ (p < n → w p = wf d L w p s ∧ t p = tf d L F t p s) ∧ ∀ q, p < q → q < n → w q = wf d L w q 8 ∧ t q = tf d L F t q 8
set_option maxHeartbeats 400000 in
theorem KT.skip {w t : Nat → Int} {p s : Nat} (h : KT d L n F w t p s) (hs : d s p = 0) : KT d L n F w t p (s + 1) := by
  obtain ⟨h1, h2, h3, h4⟩ := h
  refine ⟨h1, h2, fun hp => ?_, h4⟩
  rw [wf_s, tf_s, if_pos hs, if_pos hs]
  exact h3 hp
set_option maxHeartbeats 400000 in
theorem KT.take (hd : dok d L n) {w t w' t' : Nat → Int} {p s : Nat} (h : KT d L n F w t p s) (hs : d s p ≠ 0) (hw : ∀ q, q ≠ p → w' q = w q) (ht : ∀ q, q ≠ p → t' q = t q) (hwp : w' p = min 1000000000 (w p + w (p + L s))) (htp : t' p = min (t p) (t (p + L s) + 1)) : KT d L n F w' t' p (s + 1) := by
  obtain ⟨h1, h2, h3, h4⟩ := h
  have hds := hd s p hs
  obtain ⟨a1, a2⟩ := h3 (by omega)
  have b0 := h1 p (Nat.le_refl _) (by omega)
  have b1 := h1 (p + L s) (by omega) hds.2
  refine ⟨fun q q1 q2 => ?_, ?_, fun _ => ?_, fun q q1 q2 => ?_⟩
  · by_cases e : q = p
    · rw [e, hwp, htp]; omega
    · rw [hw q e, ht q e]; exact h1 q q1 q2
  · rw [hw n (by omega), ht n (by omega)]; exact h2
  · rw [wf_c hd (u := w) (fun r r1 r2 => hw r (by omega)), tf_c hd (u := t) (fun r r1 r2 => ht r (by omega)), wf_s, tf_s, if_neg hs, if_neg hs, hwp, htp, ← a1, ← a2]
    exact ⟨rfl, rfl⟩
  · rw [wf_c hd (u := w) (fun r r1 r2 => hw r (by omega)), tf_c hd (u := t) (fun r r1 r2 => ht r (by omega)), hw q (by omega), ht q (by omega)]
    exact h4 q q1 q2
set_option maxHeartbeats 400000 in
theorem KT.next (hd : dok d L n) (hF : 0 ≤ F) {w t w' t' : Nat → Int} {p : Nat} (h : KT d L n F w t (p + 1) 8) (hp : p < n) (hw : ∀ q, q ≠ p → w' q = w q) (ht : ∀ q, q ≠ p → t' q = t q) (hwp : w' p = 0) (htp : t' p = F) : KT d L n F w' t' p 0 := by
  obtain ⟨h1, h2, h3, h4⟩ := h
  refine ⟨fun q q1 q2 => ?_, ?_, fun _ => ⟨hwp, htp⟩, fun q q1 q2 => ?_⟩
  · by_cases e : q = p
    · rw [e, hwp, htp]; omega
    · rw [hw q e, ht q e]; exact h1 q (by omega) q2
  · rw [hw n (by omega), ht n (by omega)]; exact h2
  · rw [wf_c hd (u := w) (fun r r1 r2 => hw r (by omega)), tf_c hd (u := t) (fun r r1 r2 => ht r (by omega)), hw q (by omega), ht q (by omega)]
    by_cases e : q = p + 1
    · subst e; exact h3 q2
    · exact h4 q (by omega) q2
set_option maxHeartbeats 400000 in
theorem KT.end {w t : Nat → Int} (h1 : w n = 1) (h2 : t n = 0) (hF : 0 ≤ F) (s : Nat) : KT d L n F w t n s := ⟨fun q q1 q2 => by
  have : q = n := by omega
  rw [this, h1, h2]; omega, ⟨h1, h2⟩, fun h => absurd h (Nat.lt_irrefl _), fun q q1 q2 => absurd q2 (by omega)⟩
/- both tables are one -/
set_option maxHeartbeats 400000 in
theorem KT.same (hd : dok d L n) (hn : n ≤ 60) {w t w' t' : Nat → Int} (h : KT d L n 1000000 w t 0 8) (h' : KT d L n 100000000 w' t' 0 8) : ∀ (k q : Nat), q ≤ n → n ≤ q + k → w q = w' q ∧ (t q = 1000000 ∧ t' q = 100000000 ∧ w q = 0 ∨ t q = t' q ∧ t q ≤ ((n - q : Nat) : Int) ∧ 0 < w q)
  | 0, q, h1, h2 => by
    have : q = n := by omega
    rw [this, h.2.1.1, h.2.1.2, h'.2.1.1, h'.2.1.2]
    omega
  | k + 1, q, h1, h2 => by
    by_cases e : n ≤ q + k
    · exact KT.same hd hn h h' k q h1 e
    have hq : q < n := by omega
    have e1 : w q = wf d L w q 8 ∧ t q = tf d L 1000000 t q 8 := by
      by_cases z : q = 0
      · subst z; exact h.2.2.1 hq
      · exact h.2.2.2 q (by omega) hq
    have e2 : w' q = wf d L w' q 8 ∧ t' q = tf d L 100000000 t' q 8 := by
      by_cases z : q = 0
      · subst z; exact h'.2.2.1 hq
      · exact h'.2.2.2 q (by omega) hq
    have key : ∀ s, wf d L w q s = wf d L w' q s ∧ 0 ≤ wf d L w q s ∧ (tf d L 1000000 t q s = 1000000 ∧ tf d L 100000000 t' q s = 100000000 ∧ wf d L w q s = 0 ∨ tf d L 1000000 t q s = tf d L 100000000 t' q s ∧ tf d L 1000000 t q s ≤ ((n - q : Nat) : Int) ∧ 0 < wf d L w q s) := by
      intro s
      induction s with
      | zero => exact ⟨rfl, Int.le_refl _, Or.inl ⟨rfl, rfl, rfl⟩⟩
      | succ s ih =>
        rw [wf_s, wf_s, tf_s, tf_s]
        by_cases g : d s q = 0
        · rw [if_pos g, if_pos g, if_pos g, if_pos g]; exact ih
        · rw [if_neg g, if_neg g, if_neg g, if_neg g]
          have hds := hd s q g
          have hr := KT.same hd hn h h' k (q + L s) hds.2 (by omega)
          have hb := h.1 (q + L s) (by omega) hds.2
          omega
    have k8 := key 8
    rw [e1.1, e1.2, e2.1, e2.2]
    exact ⟨k8.1, k8.2.2⟩
/-- the sign that is laid: the least one with the fewest behind it -/
def GS (d : Nat → Nat → Int) (L : Nat → Nat) (F : Int) (t : Nat → Int) (p k : Nat) (v : Int) : Prop := tf d L F t p k < F → ∃ s, s < k ∧ v = (s : Int) ∧ d s p ≠ 0 ∧ t (p + L s) + 1 = tf d L F t p k ∧ ∀ s', s' < s → d s' p ≠ 0 → tf d L F t p k < t (p + L s') + 1
set_option maxHeartbeats 400000 in
theorem tf_le (t : Nat → Int) (p : Nat) : ∀ (k s : Nat), s < k → d s p ≠ 0 → tf d L F t p k ≤ t (p + L s) + 1
  | 0, s, h, _ => absurd h (by omega)
  | k + 1, s, h, hs => by
    rw [tf_s]
    by_cases e : s = k
    · subst e; rw [if_neg hs]; omega
    · have := tf_le t p k s (by omega) hs
      split <;> omega
set_option maxHeartbeats 400000 in
theorem GS.skip {t : Nat → Int} {p k : Nat} {v : Int} (h : GS d L F t p k v) (hs : d k p = 0) : GS d L F t p (k + 1) v := by
  unfold GS at *
  rw [tf_s, if_pos hs]
  intro hl
  obtain ⟨s, h1, h2⟩ := h hl
  exact ⟨s, by omega, h2⟩
set_option maxHeartbeats 400000 in
theorem GS.keep {t : Nat → Int} {p k : Nat} {v : Int} (h : GS d L F t p k v) (hs : d k p ≠ 0) (hl : ¬ t (p + L k) + 1 < tf d L F t p k) : GS d L F t p (k + 1) v := by
  unfold GS at *
  rw [tf_s, if_neg hs, show min (tf d L F t p k) (t (p + L k) + 1) = tf d L F t p k by omega]
  intro hl
  obtain ⟨s, h1, h2⟩ := h hl
  exact ⟨s, by omega, h2⟩
set_option maxHeartbeats 400000 in
theorem GS.take {t : Nat → Int} {p k : Nat} (hs : d k p ≠ 0) (hl : t (p + L k) + 1 < tf d L F t p k) : GS d L F t p (k + 1) (k : Int) := by
  unfold GS
  rw [tf_s, if_neg hs, show min (tf d L F t p k) (t (p + L k) + 1) = t (p + L k) + 1 by omega]
  intro _
  refine ⟨k, by omega, rfl, hs, rfl, fun s' h1 h2 => ?_⟩
  have := tf_le (L := L) (F := F) t p k s' h1 h2
  omega
set_option maxHeartbeats 400000 in
theorem GS.c (hd : dok d L n) {w u : Nat → Int} {p k : Nat} {v : Int} (h : GS d L F u p k v) (hc : ∀ r, p < r → r ≤ n → w r = u r) : GS d L F w p k v := by
  unfold GS at *
  rw [tf_c hd hc]
  intro hl
  obtain ⟨s, h1, h2, h3, h4, h5⟩ := h hl
  have hds := hd s p h3
  refine ⟨s, h1, h2, h3, by rw [hc _ (by omega) hds.2]; exact h4, fun s' s1 s2 => ?_⟩
  have hds' := hd s' p s2
  rw [hc _ (by omega) hds'.2]
  exact h5 s' s1 s2
end
section
variable {M : aM} {m n : Nat}
set_option maxHeartbeats 400000 in
theorem sdI_ok : dok (sdI M n) (cL M) n := fun s p h => by
  have : sd M n s p := by
    by_cases g : sd M n s p
    · exact g
    · exact absurd (bI1_f g) h
  exact ⟨this.1, this.2.1⟩
/-- all but the two tables as it was -/
def BF (M M' : aM) : Prop := ∀ q, q ≠ 43 → q ≠ 44 → M' q = M q
set_option maxHeartbeats 400000 in
theorem BF.cdi {M' : aM} (h : BF M M') (hc : CDI M) : CDI M' := hc.mv (h 41 (by decide) (by decide)) (h 42 (by decide) (by decide)) (h 82 (by decide) (by decide)) (h 83 (by decide) (by decide))
set_option maxHeartbeats 400000 in
theorem BF.tp {M' : aM} (h : BF M M') (hm : TP M m) : TP M' m := hm.mv (by rw [h 2 (by decide) (by decide)]) (by rw [h 53 (by decide) (by decide)]) (h 3 (by decide) (by decide)) (h 57 (by decide) (by decide))
set_option maxHeartbeats 400000 in
theorem BF.eL {M' : aM} (h : BF M M') : cL M' = cL M := funext fun s => by unfold cL; rw [h 41 (by decide) (by decide)]
set_option maxHeartbeats 400000 in
theorem BF.eS {M' : aM} (h : BF M M') : sdI M' n = sdI M n := by
  funext s p
  unfold sdI sd
  rw [h.eL, h 3 (by decide) (by decide), show cB M' = cB M from funext fun s => funext fun i => by unfold cB; rw [h 42 (by decide) (by decide)]]
set_option maxHeartbeats 400000 in
theorem s28 (hm : TP M m) (hn : n ≤ m) (hc : CDI M) {s p : Nat} (hs : s < 8) (hp : p ≤ n) : fnA 28 [.inr (some 40), .inr (some 2), .inl (n : Int), .inl (p : Int), .inl (s : Int)] M = some (some (.inl (sdI M n s p)), M) := by
  have hm3 := hm.2.2.1
  have l6 := (cL_i hc hs).2.2.1
  have w1 : wr ((p : Int) + (cL M s : Int)) = ((p + cL M s : Nat) : Int) := by rw [wr_s (by omega) (by omega)]; rfl
  unfold sdI
  rw [E_28, s24 hc hs, bI_s, w1]
  by_cases h0 : cL M s = 0
  · rw [if_pos (by omega), bI1_f (fun z => z.1 h0)]
  · rw [if_neg (by omega)]
    by_cases hl : p + cL M s ≤ n
    · rw [if_pos (by omega)]
      have key : ∀ (k i : Nat), i + k = cL M s → (∀ j, j < i → M 3 (p + j) = cB M s j) → run 1 28 26 [.inr (some 40), .inr (some 2), .inl (n : Int), .inl (p : Int), .inl (s : Int), .inl (cL M s : Int), .inl (i : Int)] [] M = some (some (.inl (bI1 (sd M n s p))), M) := by
        intro k
        induction k with
        | zero =>
          intro i hi h1
          rw [B_28_26, if_pos (by omega), bI1_t ⟨h0, hl, fun j hj => h1 j (by omega)⟩]
        | succ k ih =>
          intro i hi h1
          have w : wr ((i : Int) + 1) = ((i + 1 : Nat) : Int) := by rw [wr_s (by omega) (by omega)]; rfl
          have w2 : wr ((p : Int) + (i : Int)) = ((p + i : Nat) : Int) := by rw [wr_s (by omega) (by omega)]; rfl
          rw [B_28_26, if_neg (by omega), w2, tape_at hm (by omega), bI_s, s25 hs (by omega), bI_s, w]
          by_cases g : M 3 (p + i) = cB M s i
          · rw [if_pos g]
            refine ih (i + 1) (by omega) (fun j hj => ?_)
            by_cases e : j = i
            · rw [e]; exact g
            · exact h1 j (by omega)
          · rw [if_neg g, bI1_f (fun z => g (z.2.2 i (by omega)))]
      exact key (cL M s) 0 (by omega) (fun j hj => absurd hj (Nat.not_lt_zero j))
    · rw [if_neg (by omega), bI1_f (fun z => hl z.2.1)]
set_option maxHeartbeats 400000 in
theorem s29 {p : Nat} (hp : p ≤ 60) (M : aM) : fnA 29 [.inr (some 40), .inl (p : Int)] M = some (some (.inl (M 43 p)), M) := by
  rw [E_29, if_neg (by omega), if_neg (by omega), if_pos (by omega), Int.toNat_natCast]
set_option maxHeartbeats 400000 in
theorem s30 {p : Nat} (hp : p ≤ 60) (M : aM) : fnA 30 [.inr (some 40), .inl (p : Int)] M = some (some (.inl (M 44 p)), M) := by
  rw [E_30, if_neg (by omega), if_neg (by omega), if_pos (by omega), Int.toNat_natCast]
/- the class begins its tables -/
set_option maxHeartbeats 400000 in
theorem s27a (hn60 : n ≤ 60) : ∀ (k i : Nat) (M2 : aM), i + k = 61 → BF M M2 → (∀ j, j < i → M2 43 j = (if j = n then 1 else 0) ∧ M2 44 j = if j = n then 0 else 1000000) → ∃ M', run 2 27 10 [.inr (some 40), .inr (some 2), .inl (n : Int), .inl (n : Int), .inl (i : Int), .inr none, .inr none] [] M2 = run 2 27 65 [.inr (some 40), .inr (some 2), .inl (n : Int), .inl (n : Int), .inl ((n : Int) - 1), .inr none, .inr none] [] M' ∧ BF M M' ∧ ∀ j, j < 61 → M' 43 j = (if j = n then 1 else 0) ∧ M' 44 j = if j = n then 0 else 1000000
  | 0, i, M2, h, h1, h2 => by
    have : i = 61 := by omega
    subst this
    refine ⟨M2, ?_, h1, h2⟩
    rw [B_27_10, if_pos (by decide), wr_s (by omega) (by omega)]
  | k + 1, i, M2, h, h1, h2 => by
    have w : wr ((i : Int) + 1) = ((i + 1 : Nat) : Int) := by rw [wr_s (by omega) (by omega)]; rfl
    have y : 0 ≤ (i : Int) ∧ (i : Int) < 61 := by omega
    have b0 : ¬ (60 : Int) < (i : Int) := by omega
    have e : run 2 27 10 [.inr (some 40), .inr (some 2), .inl (n : Int), .inl (n : Int), .inl (i : Int), .inr none, .inr none] [] M2 = run 2 27 10 [.inr (some 40), .inr (some 2), .inl (n : Int), .inl (n : Int), .inl ((i + 1 : Nat) : Int), .inr none, .inr none] [] (upM (upM M2 43 i (if i = n then 1 else 0)) 44 i (if i = n then 0 else 1000000)) := by
      rw [B_27_10, if_neg b0]
      by_cases g : i = n
      · have g' : (i : Int) = (n : Int) := by omega
        rw [if_pos g', B_27_34, if_pos y, if_pos g', if_pos y, w, if_pos g, if_pos g, Int.toNat_natCast]
      · have g' : ¬ (i : Int) = (n : Int) := by omega
        rw [if_neg g', B_27_34, if_pos y, if_neg g', if_pos y, w, if_neg g, if_neg g, Int.toNat_natCast]
    rw [e]
    refine s27a hn60 k (i + 1) _ (by omega) (fun q q1 q2 => by rw [up_ne q2, up_ne q1]; exact h1 q q1 q2) (fun j hj => ?_)
    by_cases e : j = i
    · rw [e, up_s, up_o (by decide), up_s]; exact ⟨rfl, rfl⟩
    · rw [up_j e, up_o (by decide), up_j e, up_o (by decide)]; exact h2 j (by omega)
/- the class, sign by sign -/
set_option maxHeartbeats 400000 in
theorem s27s (hm : TP M m) (hn : n ≤ m) (hn60 : n ≤ 60) (hc : CDI M) {p : Nat} (hp : p < n) : ∀ (k s : Nat) (M2 : aM) (v : aV), s + k = 8 → BF M M2 → KT (sdI M n) (cL M) n 1000000 (M2 43) (M2 44) p s → (∀ q, q < p → M2 43 q = 0 ∧ M2 44 q = 1000000) → ∃ M' v', run 2 27 73 [.inr (some 40), .inr (some 2), .inl (n : Int), .inl (n : Int), .inl (p : Int), .inl (s : Int), v] [] M2 = run 2 27 65 [.inr (some 40), .inr (some 2), .inl (n : Int), .inl (n : Int), .inl ((p : Int) - 1), .inl 8, v'] [] M' ∧ BF M M' ∧ KT (sdI M n) (cL M) n 1000000 (M' 43) (M' 44) p 8 ∧ ∀ q, q < p → M' 43 q = 0 ∧ M' 44 q = 1000000
  | 0, s, M2, v, h, h1, h2, h3 => by
    have : s = 8 := by omega
    subst this
    refine ⟨M2, v, ?_, h1, h2, h3⟩
    rw [B_27_73, if_pos (by decide), wr_s (by omega) (by omega)]
    rfl
  | k + 1, s, M2, v, h, h1, h2, h3 => by
    have hs : s < 8 := by omega
    have w : wr ((s : Int) + 1) = ((s + 1 : Nat) : Int) := by rw [wr_s (by omega) (by omega)]; rfl
    have b0 : ¬ (8 : Int) ≤ (s : Int) := by omega
    have h28 := s28 (n := n) (h1.tp hm) hn (h1.cdi hc) hs (p := p) (by omega)
    rw [h1.eS] at h28
    rw [B_27_73, if_neg b0, h28, bI_s, w]
    by_cases g : sdI M n s p = 0
    · rw [if_pos g]
      exact s27s hm hn hn60 hc hp k (s + 1) M2 v (by omega) h1 (h2.skip g) h3
    · rw [if_neg g]
      have hds := sdI_ok (M := M) (n := n) s p g
      have yp : 0 ≤ (p : Int) ∧ (p : Int) < 61 := by omega
      have h24 := s24 (h1.cdi hc) hs
      rw [h1.eL] at h24
      have w1 : wr ((p : Int) + (cL M s : Int)) = ((p + cL M s : Nat) : Int) := by rw [wr_s (by omega) (by omega)]; rfl
      obtain ⟨k1, k2, k3, k4⟩ := h2
      have c0 := k1 p (Nat.le_refl _) (by omega)
      have c1 := k1 (p + cL M s) (by omega) hds.2
      have w2 : wr (M2 43 p + M2 43 (p + cL M s)) = M2 43 p + M2 43 (p + cL M s) := wr_s (by omega) (by omega)
      have w3 : wr (M2 44 (p + cL M s) + 1) = M2 44 (p + cL M s) + 1 := wr_s (by omega) (by omega)
      rw [h24, bI_s, w1, if_pos yp, s29 (by omega), bI_s, if_pos yp, if_pos yp, s30 (by omega), bI_s, if_pos yp, Int.toNat_natCast, w2, up_o (by decide), up_o (by decide), w3]
      have o1 : ∀ q, upM (upM M2 43 p (min 1000000000 (M2 43 p + M2 43 (p + cL M s)))) 44 p (min (M2 44 p) (M2 44 (p + cL M s) + 1)) 43 q = upM M2 43 p (min 1000000000 (M2 43 p + M2 43 (p + cL M s))) 43 q := fun q => by rw [up_o (by decide)]
      have o2 : ∀ q, q ≠ p → upM (upM M2 43 p (min 1000000000 (M2 43 p + M2 43 (p + cL M s)))) 44 p (min (M2 44 p) (M2 44 (p + cL M s) + 1)) 44 q = M2 44 q := fun q hq => by rw [up_j hq, up_o (by decide)]
      refine s27s hm hn hn60 hc hp k (s + 1) _ _ (by omega) (fun q q1 q2 => by rw [up_ne q2, up_ne q1]; exact h1 q q1 q2) ?_ (fun q hq => ?_)
      · exact KT.take sdI_ok ⟨k1, k2, k3, k4⟩ g (fun q hq => by rw [o1, up_j hq]) o2 (by rw [o1, up_s]) (by rw [up_s])
      · rw [o1, o2 q (by omega), up_j (by omega)]; exact h3 q hq
set_option maxHeartbeats 400000 in
theorem s27p (hm : TP M m) (hn : n ≤ m) (hn60 : n ≤ 60) (hc : CDI M) : ∀ (p : Nat) (M2 : aM) (v w : aV), p ≤ n → BF M M2 → KT (sdI M n) (cL M) n 1000000 (M2 43) (M2 44) p 8 → (∀ q, q < p → M2 43 q = 0 ∧ M2 44 q = 1000000) → ∃ M', run 2 27 65 [.inr (some 40), .inr (some 2), .inl (n : Int), .inl (n : Int), .inl ((p : Int) - 1), v, w] [] M2 = some (none, M') ∧ BF M M' ∧ KT (sdI M n) (cL M) n 1000000 (M' 43) (M' 44) 0 8
  | 0, M2, v, w, h, h1, h2, h3 => ⟨M2, by rw [B_27_65, if_pos (by decide)], h1, h2⟩
  | p + 1, M2, v, w, h, h1, h2, h3 => by
    have b0 : ¬ ((p + 1 : Nat) : Int) - 1 < 0 := by omega
    have e1 : ((p + 1 : Nat) : Int) - 1 = (p : Int) := by omega
    obtain ⟨M3, v3, g1, g2, g3, g4⟩ := s27s hm hn hn60 hc (p := p) (by omega) 8 0 M2 w (by omega) h1 (h2.next sdI_ok (by decide) (by omega) (fun _ _ => rfl) (fun _ _ => rfl) (h3 p (by omega)).1 (h3 p (by omega)).2) (fun q hq => h3 q (by omega))
    obtain ⟨M', e2, e3, e4⟩ := s27p hm hn hn60 hc p M3 (.inl 8) v3 (by omega) g2 g3 g4
    refine ⟨M', ?_, e3, e4⟩
    rw [B_27_65, if_neg b0, e1]
    exact g1.trans e2
set_option maxHeartbeats 400000 in
theorem s27 (hm : TP M m) (hn : n ≤ m) (hn60 : n ≤ 60) (hc : CDI M) : ∃ M', fnA 27 [.inr (some 40), .inr (some 2), .inl (n : Int)] M = some (none, M') ∧ BF M M' ∧ KT (sdI M n) (cL M) n 1000000 (M' 43) (M' 44) 0 8 := by
  obtain ⟨M1, a1, a2, a3⟩ := s27a (M := M) hn60 61 0 M (by omega) (fun _ _ _ => rfl) (fun j hj => absurd hj (Nat.not_lt_zero j))
  have b := a3 n (by omega)
  rw [if_pos rfl, if_pos rfl] at b
  obtain ⟨M', e1, e2, e3⟩ := s27p hm hn hn60 hc n M1 (.inr none) (.inr none) (Nat.le_refl _) a2 (KT.end b.1 b.2 (by decide) 8) (fun q hq => by
    have := a3 q (by omega)
    rw [if_neg (by omega), if_neg (by omega)] at this
    exact this)
  refine ⟨M', ?_, e2, e3⟩
  rw [E_27, show min (n : Int) 60 = (n : Int) by omega]
  exact a1.trans e1
end
end BLK
