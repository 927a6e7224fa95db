/-! Calls that change a little: bank, hold, keep, undo, setOff, check, count, feed. -/
/-- as SM, with the two tapes' lengths of their own -/
def SG (M M' : aM) (a b : Int) : Prop := (∀ q, keepQ q = true → M' q = M q) ∧ M' 1 13 = M 1 13 ∧ M' 2 1 = a ∧ M' 53 4 = b ∧ M' 53 13 = M 53 13 ∧ M' 53 49 = M 53 49
theorem SG.of {M M' : aM} (h : SM M M') : SG M M' (M 2 1) (M 53 4) := h
theorem SG.rf {M : aM} : SG M M (M 2 1) (M 53 4) := SG.of SM.rf
theorem SG.up {M M' : aM} {q j : Nat} {x a b : Int} (h : SG M M' a b) (hq : (keepQ q || q == 1 || q == 2 || q == 53) = false) : SG M (upM M' q j x) a b := by
  have hk : keepQ q = false ∧ q ≠ 1 ∧ q ≠ 2 ∧ q ≠ 53 := by simpa [Bool.or_eq_false_iff, and_assoc] using hq
  obtain ⟨h0, h1, h2, h3⟩ := hk
  refine ⟨fun a ha => ?_, ?_, ?_, ?_, ?_, ?_⟩
  · have : a ≠ q := fun e => by rw [e, h0] at ha; cases ha
    rw [up_ne this]; exact h.1 a ha
  · rw [up_o (Ne.symm h1)]; exact h.2.1
  · rw [up_o (Ne.symm h2)]; exact h.2.2.1
  · rw [up_o (Ne.symm h3)]; exact h.2.2.2.1
  · rw [up_o (Ne.symm h3)]; exact h.2.2.2.2.1
  · rw [up_o (Ne.symm h3)]; exact h.2.2.2.2.2
theorem SG.cl {M M' : aM} {x a b : Int} (h : SG M M' a b) : SG M (upM M' 2 1 x) x b := by
  refine ⟨fun q hq => ?_, ?_, up_s, ?_, ?_, ?_⟩
  · rw [up_ne (fun e => by rw [e] at hq; cases hq)]; exact h.1 q hq
  · rw [up_o (by decide)]; exact h.2.1
  · rw [up_o (by decide)]; exact h.2.2.2.1
  · rw [up_o (by decide)]; exact h.2.2.2.2.1
  · rw [up_o (by decide)]; exact h.2.2.2.2.2
theorem SG.rl {M M' : aM} {x a b : Int} (h : SG M M' a b) : SG M (upM M' 53 4 x) a x := by
  refine ⟨fun q hq => ?_, ?_, ?_, up_s, ?_, ?_⟩
  · rw [up_ne (fun e => by rw [e] at hq; cases hq)]; exact h.1 q hq
  · rw [up_o (by decide)]; exact h.2.1
  · rw [up_o (by decide)]; exact h.2.2.1
  · rw [up_j (by decide)]; exact h.2.2.2.2.1
  · rw [up_j (by decide)]; exact h.2.2.2.2.2
theorem SG.u53 {M M' : aM} {j : Nat} {x a b : Int} (h : SG M M' a b) (hj : j ≠ 4 ∧ j ≠ 13 ∧ j ≠ 49) : SG M (upM M' 53 j x) a b := by
  refine ⟨fun q hq => ?_, ?_, ?_, ?_, ?_, ?_⟩
  · rw [up_ne (fun e => by rw [e] at hq; cases hq)]; exact h.1 q hq
  · rw [up_o (by decide)]; exact h.2.1
  · rw [up_o (by decide)]; exact h.2.2.1
  · rw [up_j (Ne.symm hj.1)]; exact h.2.2.2.1
  · rw [up_j (Ne.symm hj.2.1)]; exact h.2.2.2.2.1
  · rw [up_j (Ne.symm hj.2.2)]; exact h.2.2.2.2.2
theorem SG.u2 {M M' : aM} {j : Nat} {x a b : Int} (h : SG M M' a b) (hj : j ≠ 1) : SG M (upM M' 2 j x) a b := by
  refine ⟨fun q hq => ?_, ?_, ?_, ?_, ?_, ?_⟩
  · rw [up_ne (fun e => by rw [e] at hq; cases hq)]; exact h.1 q hq
  · rw [up_o (by decide)]; exact h.2.1
  · rw [up_j (Ne.symm hj)]; exact h.2.2.1
  · rw [up_o (by decide)]; exact h.2.2.2.1
  · rw [up_o (by decide)]; exact h.2.2.2.2.1
  · rw [up_o (by decide)]; exact h.2.2.2.2.2
theorem SG.tr {M M1 M2 : aM} {a b c d : Int} (h1 : SG M M1 a b) (h2 : SG M1 M2 c d) : SG M M2 c d := ⟨fun q h => (h2.1 q h).trans (h1.1 q h), h2.2.1.trans h1.2.1, h2.2.2.1, h2.2.2.2.1, h2.2.2.2.2.1.trans h1.2.2.2.2.1, h2.2.2.2.2.2.trans h1.2.2.2.2.2⟩
theorem SG.zap {W : aM → Prop} (hW : WM W) {M M' : aM} (h : SG M M' 0 0) (hI : INV W M) : INV W M' := by
  refine ⟨hI.1.mv (fun q h1 h2 => h.1 q (kq1 h1 (by omega))) (h.1 54 rfl), hI.2.1.mv h.2.1 h.2.2.2.2.2 (fun q h1 h2 => h.1 q (kq1 (by omega) h2)) (h.1 56 rfl), ⟨0, h.2.2.1, h.2.2.2.1, by decide, fun i hi => absurd hi (by omega)⟩, hI.2.2.2.1.mv (h.1 41 rfl) (h.1 42 rfl) (h.1 82 rfl) (h.1 83 rfl), hW M M' (fun q hq => h.1 q (kqL hq)) h.2.2.2.2.1 (by rw [h.1 81 rfl]) hI.2.2.2.2⟩
theorem sumV (G : Int → Int → aX) (g : Nat → Int) (N : Nat) (s0 : Int) (fin : aX) (hN : N < 2147483648) (hs : ∀ i, i < N → G (i : Int) (s0 + sg g i) = G (wr ((i : Int) + 1)) (s0 + sg g (i + 1))) (he : G (N : Int) (s0 + sg g N) = fin) : ∀ n i, i + n = N → G (i : Int) (s0 + sg g i) = fin
  | 0, i, h => by have : i = N := by omega
                  subst this; exact he
  | n + 1, i, h => by
    rw [hs i (by omega), wr_s (by omega) (by omega)]
    exact sumV G g N s0 fin hN hs he n (i + 1) (by omega)
theorem sg_ex {f : Nat → Int} {b : Nat} : ∀ {n : Nat}, b < n → sg f n = sg (fun e => if e = b then 0 else f e) n + f b
  | 0, h => absurd h (by omega)
  | n + 1, h => by
    rw [sg_s, sg_s]
    by_cases e : n = b
    · subst e
      rw [if_pos rfl, sg_c (g := f) (fun i hi => if_neg (by omega))]
      omega
    · rw [if_neg e, sg_ex (n := n) (b := b) (by omega)]
      omega
theorem sg_add {f g : Nat → Int} : ∀ n, sg (fun i => f i + g i) n = sg f n + sg g n
  | 0 => rfl
  | n + 1 => by rw [sg_s, sg_s, sg_s, sg_add n]; omega
theorem sg_z : ∀ n, sg (fun _ => (0 : Int)) n = 0
  | 0 => rfl
  | n + 1 => by rw [sg_s, sg_z n]; rfl
theorem sg_sw {F : Nat → Nat → Int} (n : Nat) : ∀ m, sg (fun a => sg (fun b => F a b) n) m = sg (fun b => sg (fun a => F a b) m) n
  | 0 => by rw [show sg (fun b => sg (fun a => F a b) 0) n = 0 from sg_z n]; rfl
  | m + 1 => by
    rw [sg_s, sg_sw n m, ← sg_add]
    exact sg_c (fun i _ => (sg_s _ m).symm)
theorem s108 {k t : Nat} (hk : isT k) (ht : isT t) (hne : k ≠ t) (M : aM) : ∃ M', fnA 108 [.inr (some k), .inr (some t)] M = some (none, M') ∧ (∀ T, TC M t T → TC M' k T) ∧ ∀ q, q ≠ k → q ≠ k + 1 → q ≠ k + 2 → q ≠ k + 3 → M' q = M q := by
  rw [E_108 _ _ _ hk ht]
  refine ⟨_, rfl, fun T h => ?_, fun q h0 h1 h2 h3 => ?_⟩
  · obtain ⟨h1, h2, h3, h4, h5, h6, h7, h8⟩ := h
    rcases hk with rfl | rfl | rfl <;> rcases ht with rfl | rfl | rfl <;> first | exact absurd rfl hne | (refine ⟨fun j hj => ?_, fun j hj => ?_, fun j hj => ?_, ?_, ?_, ?_, ?_, ?_⟩ <;> simp [upM, cpM, *])
  · simp only [up_ne h0, cp_o h1, cp_o h2, cp_o h3]
section CALLS
variable {W : aM → Prop}
theorem ok_open {T : Nat → Int} (hT : TI T) {a : Nat} (ha : a < 8) {T' : Nat → Int} (h1 : T' 136 = ((tk T ||| 2 ^ a : Nat) : Int)) (h2 : T' 137 = (andN (sk T) (2 ^ a) : Int)) : ok T' = ok T ||| 2 ^ a := by
  have e1 : tk T' = tk T ||| 2 ^ a := by unfold tk; rw [h1]; rfl
  have e2 : sk T' = andN (sk T) (2 ^ a) := by unfold sk; rw [h2]; rfl
  have l1 : tk T ||| 2 ^ a < 2 ^ 8 := or_pow_lt (tk_i hT).2 ha
  refine eq_of_bits (n := 8) (Nat.lt_of_le_of_lt andN_le (by rw [e1]; exact l1)) (or_pow_lt (ok_lt hT) ha) (fun i hi => ?_)
  rw [ok_bit hi, e1, e2, or_pow_bit, or_pow_bit, andN_bit (by omega), ok_bit hi, Nat.testBit_two_pow]
  by_cases e : a = i
  · simp [e]
  · simp [e]
theorem c_bank (hW : WM W) (x y : Int) : OK2 W 133 196 [.inl x, .inl y] := fun M hI _ => by
  obtain ⟨T, hC, hR, hT, hZ⟩ := hI.1
  by_cases hx : 0 ≤ x ∧ x < 8
  · by_cases hy : 0 ≤ y ∧ y ≤ 9999
    · obtain ⟨a, ha, rfl⟩ : ∃ a : Nat, a < 8 ∧ x = (a : Int) := ⟨x.toNat, by omega, by omega⟩
      have hp : 2 ^ a < 2 ^ 8 := Nat.pow_lt_pow_right (by decide) ha
      have hk := tk_i hT
      have hs := sk_i hT
      have l1 : tk T ||| 2 ^ a < 2 ^ 8 := or_pow_lt hk.2 ha
      have l2 : ok T ||| 2 ^ a < 2 ^ 8 := or_pow_lt (ok_lt hT) ha
      have l3 : andN (sk T) (2 ^ a) ≤ sk T := andN_le
      have hc3 := hC.2.2.2.1
      have hc4 := hC.2.2.2.2.1
      have e1 : iOr (M 4 3) (iShl 1 (a : Int)) = ((tk T ||| 2 ^ a : Nat) : Int) := by rw [hc3, hk.1, iShl_1 (by omega), iOr_n (by omega)]
      have e2 : iOr (M 4 4) (iShl 1 (a : Int)) = ((ok T ||| 2 ^ a : Nat) : Int) := by rw [hc4, iShl_1 (by omega), iOr_n (by omega)]
      have e3 : iAnd (T 137) (iXor (iShl 1 (a : Int)) (-1)) = (andN (sk T) (2 ^ a) : Int) := by rw [hs.1, iShl_1 (by omega), iAndN (by omega)]
      let T' := tset (tset (tset T 136 ((tk T ||| 2 ^ a : Nat) : Int)) 137 (andN (sk T) (2 ^ a) : Int)) a y
      have t6 : T' 136 = ((tk T ||| 2 ^ a : Nat) : Int) := by show tset _ _ _ _ = _; rw [ts_o (by omega), ts_o (by omega), ts_s]
      have t7 : T' 137 = (andN (sk T) (2 ^ a) : Int) := by show tset _ _ _ _ = _; rw [ts_o (by omega), ts_s]
      have to : ∀ j, j ≠ 136 → j ≠ 137 → j ≠ a → T' j = T j := fun j h1 h2 h3 => by show tset _ _ _ _ = _; rw [ts_o h3, ts_o h2, ts_o h1]
      have ta : T' a = y := ts_s
      have hok : ok T' = ok T ||| 2 ^ a := ok_open hT ha t6 t7
      let M1 := upM (upM (upM M 4 3 ((tk T ||| 2 ^ a : Nat) : Int)) 4 4 ((ok T ||| 2 ^ a : Nat) : Int)) 5 a y
      let M2 := upM (upM (upM M1 54 136 ((tk T ||| 2 ^ a : Nat) : Int)) 54 137 (andN (sk T) (2 ^ a) : Int)) 54 a y
      have mo : ∀ q, q ≠ 4 → q ≠ 5 → M1 q = M q := fun q h1 h2 => by show upM _ _ _ _ _ = _; rw [up_ne h2, up_ne h1, up_ne h1]
      have mo2 : ∀ q, q ≠ 54 → M2 q = M1 q := fun q h1 => by show upM _ _ _ _ _ = _; rw [up_ne h1, up_ne h1, up_ne h1]
      have r54 : M1 54 = M 54 := mo 54 (by decide) (by decide)
      obtain ⟨c1, c2, c3, c4, c5, c6, c7, c8⟩ := hC
      refine ⟨1, M1, M2, ?_, ?_, ?_, ?_⟩
      · rw [E_133, s177n ha, bI_s, if_neg (by decide), if_neg (by omega), if_pos (by omega), E_113 _ _ _ _ (Or.inl rfl), s177n ha, bI_s, if_neg (by decide), if_pos (by omega), bV_s, Int.toNat_natCast, up_j (by decide), e1, e2]
      · rw [E_196, s181, bI_s, bI1_t (by omega), if_neg (by decide), s181, bI_s, bI1_t hy, if_neg (by decide), ix0 ha, if_pos (by omega), up_j (by decide), r54, hR 136 (by decide), hR 137 (by decide), hk.1, iShl_1 (by omega), iOr_n (by omega), hs.1, iAndN (by omega), Int.toNat_natCast]
      · have h5 : ∀ j, M1 5 j = if j = a then y else M 5 j := fun j => by
          show upM _ _ _ _ _ _ = _
          rw [up_r]
          by_cases e : j = a
          · rw [if_pos ⟨rfl, e⟩, if_pos e]
          · rw [if_neg (fun z => e z.2), if_neg e, up_o (by decide), up_o (by decide)]
        have h43 : M1 4 3 = ((tk T ||| 2 ^ a : Nat) : Int) := by show upM _ _ _ _ _ _ = _; rw [up_o (by decide), up_j (by decide), up_s]
        have h44 : M1 4 4 = ((ok T ||| 2 ^ a : Nat) : Int) := by show upM _ _ _ _ _ _ = _; rw [up_o (by decide), up_s]
        have h4o : ∀ j, j ≠ 3 → j ≠ 4 → M1 4 j = M 4 j := fun j h1 h2 => by show upM _ _ _ _ _ _ = _; rw [up_o (by decide), up_j h2, up_j h1]
        have hTC : TC M2 4 T' := by
          refine ⟨fun j hj => ?_, fun j hj => ?_, fun j hj => ?_, ?_, ?_, ?_, ?_, ?_⟩
          · rw [mo2 5 (by decide), h5]
            by_cases e : j = a
            · rw [if_pos e, e, ta]
            · rw [if_neg e, to j (by omega) (by omega) e]; exact c1 j hj
          · rw [mo2 6 (by decide), mo 6 (by decide) (by decide), to _ (by omega) (by omega) (by omega)]; exact c2 j hj
          · rw [mo2 7 (by decide), mo 7 (by decide) (by decide), to _ (by omega) (by omega) (by omega)]; exact c3 j hj
          · rw [mo2 4 (by decide), h43, t6]
          · rw [mo2 4 (by decide), h44, hok]
          · rw [mo2 4 (by decide), h4o 5 (by decide) (by decide), to _ (by omega) (by omega) (by omega)]; exact c6
          · rw [mo2 4 (by decide), h4o 6 (by decide) (by decide), to _ (by omega) (by omega) (by omega)]; exact c7
          · rw [mo2 4 (by decide), h4o 7 (by decide) (by decide), to _ (by omega) (by omega) (by omega)]; exact c8
        have hTR : TR M2 54 T' := TR.set (TR.set (TR.set (hR.mv r54) 136 _) 137 _) a y
        have hTI : TI T' := by
          obtain ⟨a1, a2, a3, a4, a5, a6, a7, a8⟩ := hT
          refine ⟨by rw [t6]; omega, by rw [t7]; omega, fun b hb => ?_, fun b hb => ?_, fun b hb => ?_, fun b hb => ?_, ?_, ?_⟩
          · by_cases e : b = a
            · rw [e, ta]; exact hy
            · rw [to b (by omega) (by omega) e]; exact a3 b hb
          · rw [to _ (by omega) (by omega) (by omega)]; exact a4 b hb
          · rw [to _ (by omega) (by omega) (by omega)]; exact a5 b hb
          · rw [sg_c (g := fun e => T (72 + (8 * e + b))) (fun i hi => to _ (by omega) (by omega) (by omega))]; exact a6 b hb
          · rw [to _ (by omega) (by omega) (by omega)]; exact a7
          · rw [to _ (by omega) (by omega) (by omega)]; exact a8
        have hTZ : TZ T' := by
          obtain ⟨z1, z2⟩ := hZ
          refine ⟨fun b hb hz => ?_, fun b hb => ?_⟩
          · rw [hok, or_pow_bit] at hz
            simp only [Bool.or_eq_false_iff, decide_eq_false_iff_not] at hz
            obtain ⟨d1, d2⟩ := z1 b hb hz.1
            refine ⟨by rw [to b (by omega) (by omega) (fun e => hz.2 e.symm)]; exact d1, fun e he => ?_⟩
            rw [to _ (by omega) (by omega) (by omega), to _ (by omega) (by omega) (by omega), to _ (by omega) (by omega) (by omega), to _ (by omega) (by omega) (by omega)]
            exact d2 e he
          · rw [to _ (by omega) (by omega) (by omega), to _ (by omega) (by omega) (by omega)]
            exact z2 b hb
        have ho : ∀ q, q ≠ 4 → q ≠ 5 → q ≠ 54 → M2 q = M q := fun q h1 h2 h3 => (mo2 q h3).trans (mo q h1 h2)
        obtain ⟨m, hm⟩ := hI.2.2.1
        refine ⟨⟨T', hTC, hTR, hTI, hTZ⟩, hI.2.1.mv (by rw [ho 1 (by omega) (by omega) (by omega)]) (by rw [ho 53 (by omega) (by omega) (by omega)]) (fun a h1 h2 => ho a (by omega) (by omega) (by omega)) (ho 56 (by omega) (by omega) (by omega)), ⟨m, hm.mv (by rw [ho 2 (by omega) (by omega) (by omega)]) (by rw [ho 53 (by omega) (by omega) (by omega)]) (ho 3 (by omega) (by omega) (by omega)) (ho 57 (by omega) (by omega) (by omega))⟩, hI.2.2.2.1.mv (ho 41 (by omega) (by omega) (by omega)) (ho 42 (by omega) (by omega) (by omega)) (ho 82 (by omega) (by omega) (by omega)) (ho 83 (by omega) (by omega) (by omega)), hW M _ (fun a ha => ho a ?_ ?_ ?_) (by rw [ho 53 (by omega) (by omega) (by omega)]) (by rw [ho 81 (by omega) (by omega) (by omega)]) hI.2.2.2.2⟩ <;> (intro e; subst e; exact absurd ha (by decide))
      · rw [mo2 0 (by decide), mo 0 (by decide) (by decide)]
    · refine ⟨0, M, M, ?_, ?_, hI, rfl⟩
      · rw [E_133, s177, bI_s, bI1_t hx, if_neg (by decide)]
        by_cases h1 : y < 0
        · rw [if_pos h1]
        · rw [if_neg h1, if_neg (by omega)]
      · rw [E_196, s181, bI_s, bI1_t (by omega), if_neg (by decide), s181, bI_s, bI1_f hy, if_pos rfl]
  · refine ⟨0, M, M, ?_, ?_, hI, rfl⟩
    · rw [E_133, s177, bI_s, bI1_f hx, if_pos rfl]
    · rw [E_196, s181, bI_s, bI1_f (by omega), if_pos rfl]
/-- the shares of one bank that others than b hold -/
def aOut (T : Nat → Int) (c b : Nat) : Int := sg (fun e => if e = b then 0 else T (72 + (8 * e + c))) 8
theorem aOut_b {T : Nat → Int} (hT : TI T) {c b : Nat} (hc : c < 8) (hb : b < 8) : aOut T c b + T (72 + (8 * b + c)) ≤ 100 := by
  have := hT.2.2.2.2.2.1 c hc
  rw [sg_ex (b := b) hb] at this
  exact this
theorem aOut_p {T : Nat → Int} (hT : TI T) {c b : Nat} (hc : c < 8) : ∀ n, n ≤ 8 → 0 ≤ sg (fun e => if e = b then 0 else T (72 + (8 * e + c))) n
  | 0, _ => by simp [sg]
  | n + 1, h => by
    have h1 := aOut_p hT (b := b) hc n (by omega)
    have h2 := hT.2.2.2.2.1 (8 * n + c) (by omega)
    rw [sg_s]
    split <;> omega
theorem sg_mono {f : Nat → Int} (h : ∀ i, i < 8 → 0 ≤ f i) : ∀ n m, m + n = 8 → sg f m ≤ sg f 8
  | 0, m, e => by rw [show m = 8 by omega]; omega
  | n + 1, m, e => by
    have h1 := sg_mono h n (m + 1) (by omega)
    have h2 := h m (by omega)
    rw [sg_s] at h1
    omega
theorem shx {T : Nat → Int} (hT : TI T) {c b : Nat} (hc : c < 8) {i : Nat} (hi : i < 8) : 0 ≤ (if i = b then 0 else T (72 + (8 * i + c))) := by
  have := hT.2.2.2.2.1 (8 * i + c) (by omega)
  split <;> omega
theorem s120 {k : Nat} {M : aM} {T : Nat → Int} (hk : isT k) (hC : TC M k T) (hT : TI T) {c b : Nat} (hc : c < 8) (hb : b < 8) : fnA 120 [.inr (some k), .inl (c : Int), .inl (b : Int)] M = some (some (.inl (aOut T c b)), M) := by
  have hx := fun (i : Nat) (hi : i < 8) => shx hT (b := b) hc hi
  have hs := aOut_b hT hc hb
  have hp := hT.2.2.2.2.1 (8 * b + c) (by omega)
  rw [E_120 _ _ _ _ hk]
  have := sumV (fun i s => run 2 120 5 [.inr (some k), .inl (c : Int), .inl (b : Int), .inl s, .inl i] [] M) (fun e => if e = b then 0 else T (72 + (8 * e + c))) 8 0 (some (some (.inl (aOut T c b)), M)) (by decide) (fun i hi => by
    rw [B_120_5 _ _ _ _ _ _ hk, if_neg (by omega)]
    by_cases e : i = b
    · rw [if_pos (by omega), sg_s, if_pos e, Int.add_zero]
    · have h1 := sg_mono hx (8 - (i + 1)) (i + 1) (by omega)
      have h2 := aOut_p hT (b := b) hc (i + 1) (by omega)
      rw [if_neg (by omega), s118 hk hi hc, bI_s, hC.2.2.1 _ (by omega)]
      unfold aOut at hs
      rw [sg_s, if_neg e] at h1 h2
      rw [sg_s, if_neg e, wr_s (z := _ + T _) (by omega) (by omega)]
      rw [Int.add_assoc]) (by
    rw [B_120_5 _ _ _ _ _ _ hk, if_pos (by decide), Int.zero_add]
    rfl) 8 0 (by omega)
  exact this
theorem c_hold (hW : WM W) (x y z : Int) : OK2 W 135 198 [.inl x, .inl y, .inl z] := fun M hI _ => by
  obtain ⟨T, hC, hR, hT, hZ⟩ := hI.1
  by_cases h : x ≠ y ∧ tb (ok T) x ∧ tb (ok T) y
  · by_cases hz : 0 ≤ z ∧ z ≤ 100
    · obtain ⟨b, hb, rfl⟩ := tbx h.2.1
      obtain ⟨c, hc, rfl⟩ := tbx h.2.2
      have hx := fun (i : Nat) (hi : i < 8) => shx hT (b := b) hc hi
      have hs := aOut_b hT hc hb
      have hp := hT.2.2.2.2.1 (8 * b + c) (by omega)
      have ho0 := aOut_p hT (b := b) hc 8 (by omega)
      have hou : sg (fun e => if e = b then 0 else T (72 + (8 * e + c))) 8 = aOut T c b := rfl
      rw [hou] at ho0
      have hrf : ∀ M', TR M' 54 T → run 4 198 27 [.inr (some 53), .inl (b : Int), .inl (c : Int), .inl z, .inl z, .inl 0] [] M' = if aOut T c b + z ≤ 100 then some (some (.inl 1), upM M' 54 (72 + (8 * b + c)) z) else some (some (.inl 0), M') := fun M' hR' => by
        have := sumV (fun i s => run 4 198 27 [.inr (some 53), .inl (b : Int), .inl (c : Int), .inl z, .inl s, .inl i] [] M') (fun e => if e = b then 0 else T (72 + (8 * e + c))) 8 z (if aOut T c b + z ≤ 100 then some (some (.inl 1), upM M' 54 (72 + (8 * b + c)) z) else some (some (.inl 0), M')) (by decide) (fun i hi => by
          have h1 := sg_mono hx (8 - (i + 1)) (i + 1) (by omega)
          have h2 := aOut_p hT (b := b) hc (i + 1) (by omega)
          have h0 := aOut_p hT (b := b) hc i (by omega)
          have h01 := sg_mono hx (8 - i) i (by omega)
          rw [hou] at h1 h01
          rw [B_198_27, if_neg (by omega)]
          by_cases e : i = b
          · rw [if_pos (by omega), sg_s, if_pos e, Int.add_zero, Int.add_zero, wr_s (z := z + _) (by omega) (by omega)]
          · rw [if_neg (by omega), s191 hi hc, bI_s, if_pos (by omega), Int.toNat_natCast, hR' _ (by omega)]
            rw [sg_s, if_neg e] at h1 h2
            rw [sg_s, if_neg e, wr_s (z := _ + T _) (by omega) (by omega), Int.add_assoc]) (by
          rw [B_198_27, if_pos (by decide), hou]
          by_cases h1 : aOut T c b + z ≤ 100
          · rw [if_pos h1, if_pos (by omega), s191 hb hc, bI_s, if_pos (by omega), Int.toNat_natCast]
          · rw [if_neg h1, if_neg (by omega)]) 8 0 (by omega)
        rw [show z + sg (fun e => if e = b then 0 else T (72 + (8 * e + c))) 0 = z from Int.add_zero z] at this
        exact this
      by_cases h1 : aOut T c b + z ≤ 100
      · have hT4 := hC.shr (a := 8 * b + c) (by omega) z
        have hTI : TI (tset T (72 + (8 * b + c)) z) := by
          obtain ⟨a1, a2, a3, a4, a5, a6, a7, a8⟩ := hT
          refine ⟨by rw [ts_o (by omega)]; exact a1, by rw [ts_o (by omega)]; exact a2, fun b hb => ?_, fun b hb => ?_, fun e he => ?_, fun e he => ?_, ?_, ?_⟩
          · rw [ts_o (by omega)]; exact a3 b hb
          · rw [ts_o (by omega)]; exact a4 b hb
          · by_cases h2 : 72 + e = 72 + (8 * b + c)
            · rw [h2, ts_s]; omega
            · rw [ts_o h2]; exact a5 e he
          · by_cases h2 : e = c
            · subst h2
              rw [sg_ex (b := b) hb, ts_s, sg_c (g := fun i => if i = b then 0 else T (72 + (8 * i + e))) (fun i hi => ?_)]
              · exact h1
              · by_cases h3 : i = b
                · rw [if_pos h3, if_pos h3]
                · rw [if_neg h3, if_neg h3, ts_o (by omega)]
            · rw [sg_c (g := fun i => T (72 + (8 * i + e))) (fun i hi => ts_o (by omega))]; exact a6 e he
          · rw [ts_o (by omega)]; exact a7
          · rw [ts_o (by omega)]; exact a8
        have hTZ : TZ (tset T (72 + (8 * b + c)) z) := by
          obtain ⟨z1, z2⟩ := hZ
          have n1 := (tb_n hb).mp h.2.1
          have n2 := (tb_n hc).mp h.2.2
          refine ⟨fun d hd hz => ?_, fun d hd => ?_⟩
          · rw [(ok_ts (by omega)).1] at hz
            obtain ⟨d1, d2⟩ := z1 d hd hz
            have n3 : d ≠ b := fun e => by rw [e, n1] at hz; cases hz
            have n4 : d ≠ c := fun e => by rw [e, n2] at hz; cases hz
            refine ⟨by rw [ts_o (by omega)]; exact d1, fun e he => ?_⟩
            rw [ts_o (by omega), ts_o (by omega), ts_o (by omega), ts_o (by omega)]
            exact d2 e he
          · have : b ≠ c := fun e => h.1 (by rw [e])
            rw [ts_o (by omega), ts_o (by omega)]
            exact z2 d hd
        refine ⟨1, upM M 7 (8 * b + c) z, upM (upM M 7 (8 * b + c) z) 54 (72 + (8 * b + c)) z, ?_, ?_, ?_, ?_⟩
        · rw [E_135, s112 (Or.inl rfl) hC hT, bI_s, bI1_t h, if_neg (by decide), if_neg (by omega), if_pos (by omega), s120 (Or.inl rfl) hC hT hc hb, bI_s, wr_s (by omega) (by omega), if_pos h1, s119 (Or.inl rfl) hb hc, bV_s]
        · have hR' : TR (upM M 7 (8 * b + c) z) 54 T := hR.mv (up_ne (by decide))
          rw [E_198, s189 hR' hT, bI_s, bI1_t h, if_neg (by decide), s181, bI_s, bI1_t hz, if_neg (by decide), hrf _ hR', if_pos h1]
        · exact inv_set hW hI (by omega) hT4 hR hTI hTZ
        · rw [up_ne (by decide), up_ne (by decide)]
      · refine ⟨0, M, M, ?_, ?_, hI, rfl⟩
        · rw [E_135, s112 (Or.inl rfl) hC hT, bI_s, bI1_t h, if_neg (by decide), if_neg (by omega), if_pos (by omega), s120 (Or.inl rfl) hC hT hc hb, bI_s, wr_s (by omega) (by omega), if_neg h1]
        · rw [E_198, s189 hR hT, bI_s, bI1_t h, if_neg (by decide), s181, bI_s, bI1_t hz, if_neg (by decide), hrf _ hR, if_neg h1]
    · refine ⟨0, M, M, ?_, ?_, hI, rfl⟩
      · rw [E_135, s112 (Or.inl rfl) hC hT, bI_s, bI1_t h, if_neg (by decide)]
        by_cases h1 : z < 0
        · rw [if_pos h1]
        · rw [if_neg h1, if_neg (by omega)]
      · rw [E_198, s189 hR hT, bI_s, bI1_t h, if_neg (by decide), s181, bI_s, bI1_f hz, if_pos rfl]
  · refine ⟨0, M, M, ?_, ?_, hI, rfl⟩
    · rw [E_135, s112 (Or.inl rfl) hC hT, bI_s, bI1_f h, if_pos rfl]
    · rw [E_198, s189 hR hT, bI_s, bI1_f h, if_pos rfl]
end CALLS
