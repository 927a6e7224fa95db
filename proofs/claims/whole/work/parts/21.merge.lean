/-! merge. -/
def mg1 (b o : Nat) (R : Nat → Int) (e : Nat) : Nat → Int := tset R (8 + (8 * b + e)) (min 999 (R (8 + (8 * b + e)) + R (8 + (8 * o + e))))
def mg2 (b o : Nat) (R : Nat → Int) (e : Nat) : Nat → Int := tset R (8 + (8 * e + b)) (min 999 (R (8 + (8 * e + b)) + R (8 + (8 * e + o))))
def mg3 (b o : Nat) (R : Nat → Int) (e : Nat) : Nat → Int := tset R (72 + (8 * b + e)) (R (72 + (8 * b + e)) + R (72 + (8 * o + e)))
def mg (b o : Nat) (R : Nat → Int) (e : Nat) : Nat → Int := if e = b ∨ e = o then R else mg3 b o (mg2 b o (mg1 b o R e) e) e
def mgl (b o : Nat) (T : Nat → Int) : Nat → Nat → Int
  | 0 => tset T b (min 9999 (T b + T o))
  | n + 1 => mg b o (mgl b o T n) n
theorem mgl_s (b o : Nat) (T : Nat → Int) (n : Nat) : mgl b o T (n + 1) = mg b o (mgl b o T n) n := rfl
def MGI (T : Nat → Int) (b o n : Nat) (R : Nat → Int) : Prop :=
  (∀ j, 136 ≤ j → R j = T j) ∧ (∀ j, j < 8 → R j = if j = b then min 9999 (T b + T o) else T j) ∧ (∀ x y, x < 8 → y < 8 → 0 ≤ R (8 + (8 * x + y)) ∧ R (8 + (8 * x + y)) ≤ 999) ∧ (∀ x y, x < 8 → y < 8 → R (72 + (8 * x + y)) = if x = b ∧ y < n ∧ y ≠ b ∧ y ≠ o then T (72 + (8 * b + y)) + T (72 + (8 * o + y)) else T (72 + (8 * x + y))) ∧ (∀ d, d < 8 → (ok T).testBit d = false → ∀ e, e < 8 → R (8 + (8 * d + e)) = 0 ∧ R (8 + (8 * e + d)) = 0) ∧ ∀ d, d < 8 → R (8 + (8 * d + d)) = 0
section MRG
variable {T : Nat → Int} {b o : Nat}
theorem sh_b (hT : TI T) {x y : Nat} (hx : x < 8) (hy : y < 8) : 0 ≤ T (72 + (8 * x + y)) ∧ T (72 + (8 * x + y)) ≤ 100 := by
  have h1 := hT.2.2.2.2.1 (8 * x + y) (by omega)
  have h2 := hT.2.2.2.2.2.1 y hy
  rw [sg_ex (b := x) hx] at h2
  have h3 := aOut_p hT (b := x) hy 8 (by omega)
  omega
theorem mgi_0 (hT : TI T) (hZ : TZ T) (hb : b < 8) : MGI T b o 0 (mgl b o T 0) := by
  have hs : ∀ j, j ≠ b → mgl b o T 0 j = T j := fun j h => ts_o h
  refine ⟨fun j hj => hs j (by omega), fun j hj => ?_, fun x y hx hy => ?_, fun x y hx hy => ?_, fun d hd hz e he => ?_, fun d hd => ?_⟩
  · by_cases e : j = b
    · rw [if_pos e, e]; exact ts_s
    · rw [if_neg e]; exact hs j e
  · rw [hs _ (by omega)]; exact dI hT hx hy
  · rw [if_neg (by omega)]; exact hs _ (by omega)
  · rw [hs _ (by omega), hs _ (by omega)]
    have := (hZ.1 d hd hz).2 e he
    exact ⟨this.1, this.2.1⟩
  · rw [hs _ (by omega)]; exact (hZ.2 d hd).1
theorem mgi_s (hT : TI T) (hZ : TZ T) (hb : b < 8) (ho : o < 8) (hbo : b ≠ o) (kb : (ok T).testBit b = true) (ko : (ok T).testBit o = true) {n : Nat} (hn : n < 8) {R : Nat → Int} (h : MGI T b o n R) : MGI T b o (n + 1) (mg b o R n) := by
  obtain ⟨a1, a2, a3, a4, a5, a6⟩ := h
  unfold mg
  by_cases hx : n = b ∨ n = o
  · rw [if_pos hx]
    refine ⟨a1, a2, a3, fun x y hx8 hy8 => ?_, a5, a6⟩
    rw [a4 x y hx8 hy8]
    by_cases h1 : x = b ∧ y < n ∧ y ≠ b ∧ y ≠ o
    · rw [if_pos h1, if_pos (by omega)]
    · rw [if_neg h1, if_neg (by omega)]
  rw [if_neg hx]
  have m1 : ∀ j, mg1 b o R n j = if j = 8 + (8 * b + n) then min 999 (R (8 + (8 * b + n)) + R (8 + (8 * o + n))) else R j := fun _ => rfl
  have m2 : ∀ j, mg2 b o (mg1 b o R n) n j = if j = 8 + (8 * n + b) then min 999 (R (8 + (8 * n + b)) + R (8 + (8 * n + o))) else mg1 b o R n j := fun j => by
    have p1 : mg1 b o R n (8 + (8 * n + b)) = R (8 + (8 * n + b)) := by rw [m1, if_neg (by omega)]
    have p2 : mg1 b o R n (8 + (8 * n + o)) = R (8 + (8 * n + o)) := by rw [m1, if_neg (by omega)]
    show (if j = 8 + (8 * n + b) then _ else _) = _
    rw [p1, p2]
  have m3 : ∀ j, mg3 b o (mg2 b o (mg1 b o R n) n) n j = if j = 72 + (8 * b + n) then R (72 + (8 * b + n)) + R (72 + (8 * o + n)) else mg2 b o (mg1 b o R n) n j := fun j => by
    have p1 : mg2 b o (mg1 b o R n) n (72 + (8 * b + n)) = R (72 + (8 * b + n)) := by rw [m2, m1, if_neg (by omega), if_neg (by omega)]
    have p2 : mg2 b o (mg1 b o R n) n (72 + (8 * o + n)) = R (72 + (8 * o + n)) := by rw [m2, m1, if_neg (by omega), if_neg (by omega)]
    show (if j = 72 + (8 * b + n) then _ else _) = _
    rw [p1, p2]
  have md : ∀ x y, x < 8 → y < 8 → mg3 b o (mg2 b o (mg1 b o R n) n) n (8 + (8 * x + y)) = if x = n ∧ y = b then min 999 (R (8 + (8 * n + b)) + R (8 + (8 * n + o))) else if x = b ∧ y = n then min 999 (R (8 + (8 * b + n)) + R (8 + (8 * o + n))) else R (8 + (8 * x + y)) := fun x y hx8 hy8 => by
    rw [m3, if_neg (by omega), m2, m1]
    by_cases h1 : x = n ∧ y = b
    · rw [if_pos h1, if_pos (by omega)]
    · rw [if_neg h1, if_neg (by omega)]
      by_cases h2 : x = b ∧ y = n
      · rw [if_pos h2, if_pos (by omega)]
      · rw [if_neg h2, if_neg (by omega)]
  refine ⟨fun j hj => ?_, fun j hj => ?_, fun x y hx8 hy8 => ?_, fun x y hx8 hy8 => ?_, fun d hd hz e he => ?_, fun d hd => ?_⟩
  · rw [m3, m2, m1, if_neg (by omega), if_neg (by omega), if_neg (by omega)]; exact a1 j hj
  · rw [m3, m2, m1, if_neg (by omega), if_neg (by omega), if_neg (by omega)]; exact a2 j hj
  · rw [md x y hx8 hy8]
    have g1 := a3 n b hn hb
    have g2 := a3 n o hn ho
    have g3 := a3 b n hb hn
    have g4 := a3 o n ho hn
    have g5 := a3 x y hx8 hy8
    split
    · omega
    · split <;> omega
  · rw [m3]
    by_cases h1 : x = b ∧ y = n
    · rw [if_pos (by omega), a4 b n hb hn, a4 o n ho hn, if_neg (by omega), if_neg (by omega), if_pos (by omega), h1.2]
    · rw [if_neg (by omega), m2, m1, if_neg (by omega), if_neg (by omega), a4 x y hx8 hy8]
      by_cases h2 : x = b ∧ y < n ∧ y ≠ b ∧ y ≠ o
      · rw [if_pos h2, if_pos (by omega)]
      · rw [if_neg h2, if_neg (by omega)]
  · have n1 : d ≠ b := fun e => by rw [e, kb] at hz; cases hz
    have n2 : d ≠ o := fun e => by rw [e, ko] at hz; cases hz
    have z1 := a5 d hd hz
    refine ⟨?_, ?_⟩
    · rw [md d e hd he]
      by_cases h1 : d = n ∧ e = b
      · rw [if_pos h1, ← h1.1, (z1 b hb).1, (z1 o ho).1]; decide
      · rw [if_neg h1, if_neg (by omega)]; exact (z1 e he).1
    · rw [md e d he hd]
      rw [if_neg (by omega)]
      by_cases h1 : e = b ∧ d = n
      · rw [if_pos h1, ← h1.2, (z1 b hb).2, (z1 o ho).2]; decide
      · rw [if_neg h1]; exact (z1 e he).2
  · rw [md d d hd hd, if_neg (by omega), if_neg (by omega)]; exact a6 d hd
theorem mgi (hT : TI T) (hZ : TZ T) (hb : b < 8) (ho : o < 8) (hbo : b ≠ o) (kb : (ok T).testBit b = true) (ko : (ok T).testBit o = true) : ∀ n, n ≤ 8 → MGI T b o n (mgl b o T n)
  | 0, _ => mgi_0 hT hZ hb
  | n + 1, h => mgi_s hT hZ hb ho hbo kb ko (by omega) (mgi hT hZ hb ho hbo kb ko n (by omega))
/-- the merged town, the second one not yet shut -/
theorem mg_TI (hT : TI T) (hb : b < 8) (ho : o < 8) (hbo : b ≠ o) (h : MGI T b o 8 (mgl b o T 8)) : TI (aShut (mgl b o T 8) o) := by
  obtain ⟨a1, a2, a3, a4, a5, a6⟩ := h
  have hT0 := hT
  obtain ⟨t1, t2, t3, t4, t5, t6, t7, t8⟩ := hT
  have e7 : sk (mgl b o T 8) = sk T := by unfold sk; rw [a1 137 (by omega)]
  have l1 : sk T ||| 2 ^ o < 2 ^ 8 := or_pow_lt (sk_i hT0).2 ho
  refine ⟨by rw [as_o ho (by omega) (by omega), a1 _ (by omega)]; exact t1, by rw [as_7 ho, e7]; omega, fun x hx => ?_, fun j hj => ?_, fun j hj => ?_, fun y hy => ?_, ?_, ?_⟩
  · rw [as_c ho hx, a2 x hx]
    have g1 := t3 x hx
    have g2 := t3 b hb
    have g3 := t3 o ho
    split
    · omega
    · split <;> omega
  · obtain ⟨x, y, hx, hy, rfl⟩ : ∃ x y, x < 8 ∧ y < 8 ∧ j = 8 * x + y := ⟨j / 8, j % 8, by omega, by omega, by omega⟩
    rw [as_d ho hx hy]
    have := a3 x y hx hy
    split <;> omega
  · obtain ⟨x, y, hx, hy, rfl⟩ : ∃ x y, x < 8 ∧ y < 8 ∧ j = 8 * x + y := ⟨j / 8, j % 8, by omega, by omega, by omega⟩
    rw [as_h ho hx hy, a4 x y hx hy]
    have g1 := t5 (8 * x + y) hj
    have g2 := t5 (8 * b + y) (by omega)
    have g3 := t5 (8 * o + y) (by omega)
    split
    · omega
    · split <;> omega
  · have e1 : sg (fun e => aShut (mgl b o T 8) o (72 + (8 * e + y))) 8 ≤ sg (fun e => T (72 + (8 * e + y))) 8 := by
      rw [sg_ex (b := b) hb, sg_ex (f := fun e => T (72 + (8 * e + y))) (b := b) hb, sg_ex (f := fun e => if e = b then 0 else aShut (mgl b o T 8) o (72 + (8 * e + y))) (b := o) ho, sg_ex (f := fun e => if e = b then 0 else T (72 + (8 * e + y))) (b := o) ho]
      rw [if_neg (by omega), if_neg (by omega), as_h ho ho hy, if_pos (Or.inl rfl), as_h ho hb hy, a4 b y hb hy]
      have hle : sg (fun e => if e = o then 0 else if e = b then 0 else aShut (mgl b o T 8) o (72 + (8 * e + y))) 8 ≤ sg (fun e => if e = o then 0 else if e = b then 0 else T (72 + (8 * e + y))) 8 := sg_le (fun i hi => by
        have g1 := t5 (8 * i + y) (by omega)
        split
        · exact Int.le_refl _
        · split
          · exact Int.le_refl _
          · next h1 h2 =>
            rw [as_h ho hi hy, a4 i y hi hy, if_neg (by omega : ¬ (i = b ∧ _))]
            split <;> omega)
      have g2 := t5 (8 * b + y) (by omega)
      have g3 := t5 (8 * o + y) (by omega)
      by_cases h1 : b = o ∨ y = o
      · rw [if_pos h1]; omega
      · rw [if_neg h1]
        split <;> omega
    exact Int.le_trans e1 (t6 y hy)
  · rw [as_o ho (by omega) (by omega), a1 _ (by omega)]; exact t7
  · rw [as_o ho (by omega) (by omega), a1 _ (by omega)]; exact t8
theorem mg_ok (h : MGI T b o 8 (mgl b o T 8)) : ok (mgl b o T 8) = ok T := by
  unfold ok tk sk
  rw [h.1 136 (by omega), h.1 137 (by omega)]
theorem mg_TZ (hT : TI T) (hZ : TZ T) (hb : b < 8) (ho : o < 8) (hbo : b ≠ o) (kb : (ok T).testBit b = true) (h : MGI T b o 8 (mgl b o T 8)) : TZ (aShut (mgl b o T 8) o) := by
  have hok := mg_ok h
  obtain ⟨a1, a2, a3, a4, a5, a6⟩ := h
  have e7 : ok (aShut (mgl b o T 8) o) = andN (ok T) (2 ^ o) := by
    refine ok_s0 (TM.of hT) ho ?_ ?_
    · rw [as_o ho (by omega) (by omega), a1 136 (by omega)]
    · rw [as_7 ho]
      have : sk (mgl b o T 8) = sk T := by unfold sk; rw [a1 137 (by omega)]
      rw [this]
  refine ⟨fun x hx hz => ?_, fun x hx => ?_⟩
  · rw [e7, andN_bit (by omega), Nat.testBit_two_pow] at hz
    rw [as_c ho hx]
    by_cases e : x = o
    · refine ⟨if_pos e, fun y hy => ?_⟩
      rw [as_d ho hx hy, as_d ho hy hx, as_h ho hx hy, as_h ho hy hx, if_pos (Or.inl e), if_pos (Or.inr e), if_pos (Or.inl e), if_pos (Or.inr e)]
      exact ⟨rfl, rfl, rfl, rfl⟩
    · have hzz : (ok T).testBit x = false := by
        have : decide (o = x) = false := by simpa using fun z : o = x => e z.symm
        rw [this] at hz
        simpa using hz
      have n1 : x ≠ b := fun e => by rw [e, kb] at hzz; cases hzz
      obtain ⟨d1, d2⟩ := hZ.1 x hx hzz
      refine ⟨by rw [if_neg e, a2 x hx, if_neg n1]; exact d1, fun y hy => ?_⟩
      obtain ⟨d3, d4⟩ := a5 x hx hzz y hy
      obtain ⟨_, _, d5, d6⟩ := d2 y hy
      rw [as_d ho hx hy, as_d ho hy hx, as_h ho hx hy, as_h ho hy hx, d3, d4, a4 x y hx hy, a4 y x hy hx, if_neg (by omega : ¬ (x = b ∧ _)), d5]
      have hby := (d2 b hb).2.2.2
      have hoy := (d2 o ho).2.2.2
      rw [hby, hoy, d6]
      simp
  · rw [as_d ho hx hx, as_h ho hx hx, a6 x hx, a4 x x hx hx, if_neg (show ¬ (x = b ∧ x < 8 ∧ x ≠ b ∧ x ≠ o) by omega), (hZ.2 x hx).2]
    simp
theorem s130 {k : Nat} {M : aM} (hk : isT k) (hC : TC M k T) (hT : TI T) (hZ : TZ T) (hb : b < 8) (ho : o < 8) (hbo : b ≠ o) (kb : (ok T).testBit b = true) (ko : (ok T).testBit o = true) : ∃ M', fnA 130 [.inr (some k), .inl (b : Int), .inl (o : Int)] M = some (none, M') ∧ TC M' k (aShut (mgl b o T 8) o) ∧ ∀ q, q ≠ k → q ≠ k + 1 → q ≠ k + 2 → q ≠ k + 3 → M' q = M q := by
  have g1 := hT.2.2.1 b hb
  have g2 := hT.2.2.1 o ho
  have hall := mgi hT hZ hb ho hbo kb ko
  let M0 := upM M (k + 1) b (min 9999 (T b + T o))
  have hC0 : TC M0 k (mgl b o T 0) := hC.cash hb _
  obtain ⟨M1, hs, he⟩ := upR (fun i (M' : aM) => run 3 130 24 [.inr (some k), .inl (b : Int), .inl (o : Int), .inl i] [] M') (fun i M' => TC M' k (mgl b o T i) ∧ ∀ q, q ≠ k → q ≠ k + 1 → q ≠ k + 2 → q ≠ k + 3 → M' q = M0 q) 8 (by decide) (fun i M' hi hI => by
    obtain ⟨h1, h2⟩ := hI
    obtain ⟨a1, a2, a3, a4, a5, a6⟩ := hall i (by omega)
    rw [mgl_s]
    by_cases e1 : i = b
    · refine ⟨M', ?_, ?_, h2⟩
      · rw [B_130_24 _ _ _ _ _ hk, if_neg (by omega), if_pos (by omega)]
      · unfold mg; rw [if_pos (Or.inl e1)]; exact h1
    by_cases e2 : i = o
    · refine ⟨M', ?_, ?_, h2⟩
      · rw [B_130_24 _ _ _ _ _ hk, if_neg (by omega), if_neg (by omega), if_pos (by omega)]
      · unfold mg; rw [if_pos (Or.inr e2)]; exact h1
    have q1 : mg1 b o (mgl b o T i) i (8 + (8 * i + b)) = mgl b o T i (8 + (8 * i + b)) := ts_o (by omega)
    have q2 : mg1 b o (mgl b o T i) i (8 + (8 * i + o)) = mgl b o T i (8 + (8 * i + o)) := ts_o (by omega)
    have q3 : mg2 b o (mg1 b o (mgl b o T i) i) i (72 + (8 * b + i)) = mgl b o T i (72 + (8 * b + i)) := (ts_o (by omega)).trans (ts_o (by omega))
    have q4 : mg2 b o (mg1 b o (mgl b o T i) i) i (72 + (8 * o + i)) = mgl b o T i (72 + (8 * o + i)) := (ts_o (by omega)).trans (ts_o (by omega))
    have r1 := a3 b i hb hi
    have r2 := a3 o i ho hi
    have r3 := a3 i b hi hb
    have r4 := a3 i o hi ho
    have r5 := a4 b i hb hi
    have r6 := a4 o i ho hi
    rw [if_neg (by omega)] at r5 r6
    have r7 := sh_b hT hb hi
    have r8 := sh_b hT ho hi
    have hC1 : TC (upM M' (k + 2) (8 * b + i) (min 999 (mgl b o T i (8 + (8 * b + i)) + mgl b o T i (8 + (8 * o + i))))) k (mg1 b o (mgl b o T i) i) := h1.debt (a := 8 * b + i) (by omega) _
    have hC2 := hC1.debt (a := 8 * i + b) (by omega) (min 999 (mg1 b o (mgl b o T i) i (8 + (8 * i + b)) + mg1 b o (mgl b o T i) i (8 + (8 * i + o))))
    rw [show tset (mg1 b o (mgl b o T i) i) (8 + (8 * i + b)) (min 999 (mg1 b o (mgl b o T i) i (8 + (8 * i + b)) + mg1 b o (mgl b o T i) i (8 + (8 * i + o)))) = mg2 b o (mg1 b o (mgl b o T i) i) i from rfl] at hC2
    have hC3 := hC2.shr (a := 8 * b + i) (by omega) (mg2 b o (mg1 b o (mgl b o T i) i) i (72 + (8 * b + i)) + mg2 b o (mg1 b o (mgl b o T i) i) i (72 + (8 * o + i)))
    rw [show tset (mg2 b o (mg1 b o (mgl b o T i) i) i) (72 + (8 * b + i)) (mg2 b o (mg1 b o (mgl b o T i) i) i (72 + (8 * b + i)) + mg2 b o (mg1 b o (mgl b o T i) i) i (72 + (8 * o + i))) = mg b o (mgl b o T i) i from by unfold mg; rw [if_neg (by omega)]; rfl] at hC3
    refine ⟨_, ?_, hC3, fun q g1 g2 g3 g4 => by rw [up_ne g4, up_ne g3, up_ne g3]; exact h2 q g1 g2 g3 g4⟩
    rw [B_130_24 _ _ _ _ _ hk, if_neg (by omega), if_neg (by omega), if_neg (by omega), s116 hk hb hi, bI_s, s116 hk ho hi, bI_s, s117 hk hb hi, bV_s, h1.2.1 _ (by omega), h1.2.1 _ (by omega), wr_s (by omega) (by omega)]
    rw [s116 hk hi hb, bI_s, s116 hk hi ho, bI_s, s117 hk hi hb, bV_s, hC1.2.1 _ (by omega), hC1.2.1 _ (by omega)]
    rw [wr_s (z := mg1 b o (mgl b o T i) i (8 + (8 * i + b)) + _) (by omega) (by omega)]
    rw [s118 hk hb hi, bI_s, s118 hk ho hi, bI_s, s119 hk hb hi, bV_s, hC2.2.2.1 _ (by omega), hC2.2.2.1 _ (by omega)]
    rw [wr_s (z := mg2 b o (mg1 b o (mgl b o T i) i) i (72 + (8 * b + i)) + _) (by omega) (by omega)]) 8 0 M0 (by omega) ⟨hC0, fun _ _ _ _ _ => rfl⟩
  have h8 := hall 8 (by omega)
  have hm : TM (mgl b o T 8) := by
    have := TM.of hT
    unfold TM tk sk at *
    rw [h8.1 136 (by omega), h8.1 137 (by omega)]
    exact this
  obtain ⟨M', f1, f2, f3⟩ := s129 hk hs.1 hm ho
  refine ⟨M', ?_, f2, fun q g1 g2 g3 g4 => ?_⟩
  · rw [E_130 _ _ _ _ hk, s114 hk hb, bI_s, s114 hk ho, bI_s, s115 hk hb, bV_s, hC.1 b hb, hC.1 o ho, wr_s (by omega) (by omega)]
    refine Eq.trans he ?_
    rw [B_130_24 _ _ _ _ _ hk, if_pos (by decide), f1, bV_s]
  · rw [f3 q g1 g2 g3 g4, hs.2 q g1 g2 g3 g4]
    exact up_ne g2
theorem s264 {M : aM} (hR : TR M 54 T) (hT : TI T) (hZ : TZ T) (hb : b < 8) (ho : o < 8) (hbo : b ≠ o) (kb : (ok T).testBit b = true) (ko : (ok T).testBit o = true) : ∃ M', fnA 264 [.inr (some 53), .inl (b : Int), .inl (o : Int)] M = some (some (.inl 1), M') ∧ TR M' 54 (aShut (mgl b o T 8) o) ∧ ∀ q, q ≠ 54 → M' q = M q := by
  have g1 := hT.2.2.1 b hb
  have g2 := hT.2.2.1 o ho
  have hall := mgi hT hZ hb ho hbo kb ko
  let M0 := upM M 54 b (min 9999 (T b + T o))
  have hR0 : TR M0 54 (mgl b o T 0) := hR.set b _
  obtain ⟨M1, hs, he⟩ := upR (fun i (M' : aM) => run 4 264 44 [.inr (some 53), .inl (b : Int), .inl (o : Int), .inl i] [] M') (fun i M' => TR M' 54 (mgl b o T i) ∧ ∀ q, q ≠ 54 → M' q = M0 q) 8 (by decide) (fun i M' hi hI => by
    obtain ⟨h1, h2⟩ := hI
    obtain ⟨a1, a2, a3, a4, a5, a6⟩ := hall i (by omega)
    rw [mgl_s]
    by_cases e1 : i = b
    · refine ⟨M', ?_, ?_, h2⟩
      · rw [B_264_44, if_neg (by omega), if_pos (by omega)]
      · unfold mg; rw [if_pos (Or.inl e1)]; exact h1
    by_cases e2 : i = o
    · refine ⟨M', ?_, ?_, h2⟩
      · rw [B_264_44, if_neg (by omega), if_neg (by omega), if_pos (by omega)]
      · unfold mg; rw [if_pos (Or.inr e2)]; exact h1
    have q1 : mg1 b o (mgl b o T i) i (8 + (8 * i + b)) = mgl b o T i (8 + (8 * i + b)) := ts_o (by omega)
    have q2 : mg1 b o (mgl b o T i) i (8 + (8 * i + o)) = mgl b o T i (8 + (8 * i + o)) := ts_o (by omega)
    have q3 : mg2 b o (mg1 b o (mgl b o T i) i) i (72 + (8 * b + i)) = mgl b o T i (72 + (8 * b + i)) := (ts_o (by omega)).trans (ts_o (by omega))
    have q4 : mg2 b o (mg1 b o (mgl b o T i) i) i (72 + (8 * o + i)) = mgl b o T i (72 + (8 * o + i)) := (ts_o (by omega)).trans (ts_o (by omega))
    have r1 := a3 b i hb hi
    have r2 := a3 o i ho hi
    have r3 := a3 i b hi hb
    have r4 := a3 i o hi ho
    have r5 := a4 b i hb hi
    have r6 := a4 o i ho hi
    rw [if_neg (by omega)] at r5 r6
    have r7 := sh_b hT hb hi
    have r8 := sh_b hT ho hi
    have hR1 : TR (upM M' 54 (8 + (8 * b + i)) (min 999 (mgl b o T i (8 + (8 * b + i)) + mgl b o T i (8 + (8 * o + i))))) 54 (mg1 b o (mgl b o T i) i) := h1.set _ _
    have hR2 := hR1.set (8 + (8 * i + b)) (min 999 (mg1 b o (mgl b o T i) i (8 + (8 * i + b)) + mg1 b o (mgl b o T i) i (8 + (8 * i + o))))
    rw [show tset (mg1 b o (mgl b o T i) i) (8 + (8 * i + b)) (min 999 (mg1 b o (mgl b o T i) i (8 + (8 * i + b)) + mg1 b o (mgl b o T i) i (8 + (8 * i + o)))) = mg2 b o (mg1 b o (mgl b o T i) i) i from rfl] at hR2
    have hR3 := hR2.set (72 + (8 * b + i)) (mg2 b o (mg1 b o (mgl b o T i) i) i (72 + (8 * b + i)) + mg2 b o (mg1 b o (mgl b o T i) i) i (72 + (8 * o + i)))
    rw [show tset (mg2 b o (mg1 b o (mgl b o T i) i) i) (72 + (8 * b + i)) (mg2 b o (mg1 b o (mgl b o T i) i) i (72 + (8 * b + i)) + mg2 b o (mg1 b o (mgl b o T i) i) i (72 + (8 * o + i))) = mg b o (mgl b o T i) i from by unfold mg; rw [if_neg (by omega)]; rfl] at hR3
    refine ⟨_, ?_, hR3, fun q g => by rw [up_ne g, up_ne g, up_ne g]; exact h2 q g⟩
    rw [B_264_44, if_neg (by omega), if_neg (by omega), if_neg (by omega), s190 hb hi, bI_s, s190 hb hi, bI_s, if_pos (by omega), s190 ho hi, bI_s, if_pos (by omega), s182, bI_s, if_pos (by omega), Int.toNat_natCast, Int.toNat_natCast, h1 _ (by omega), h1 _ (by omega), wr_s (by omega) (by omega)]
    rw [s190 hi hb, bI_s, s190 hi hb, bI_s, if_pos (by omega), s190 hi ho, bI_s, if_pos (by omega), s182, bI_s, if_pos (by omega), Int.toNat_natCast, Int.toNat_natCast, hR1 _ (by omega), hR1 _ (by omega)]
    rw [wr_s (z := mg1 b o (mgl b o T i) i (8 + (8 * i + b)) + _) (by omega) (by omega)]
    rw [s191 hb hi, bI_s, s191 hb hi, bI_s, if_pos (by omega), s191 ho hi, bI_s, if_pos (by omega), if_pos (by omega), Int.toNat_natCast, Int.toNat_natCast, hR2 _ (by omega), hR2 _ (by omega)]
    rw [wr_s (z := mg2 b o (mg1 b o (mgl b o T i) i) i (72 + (8 * b + i)) + _) (by omega) (by omega)]) 8 0 M0 (by omega) ⟨hR0, fun _ _ => rfl⟩
  have h8 := hall 8 (by omega)
  have hm : TM (mgl b o T 8) := by
    have := TM.of hT
    unfold TM tk sk at *
    rw [h8.1 136 (by omega), h8.1 137 (by omega)]
    exact this
  obtain ⟨M', f1, f2, f3⟩ := s234 hs.1 hm ho
  refine ⟨M', ?_, f2, fun q g => ?_⟩
  · rw [E_264, s189 hR hT, bI_s, bI1_t ⟨by omega, (tb_n hb).mpr kb, (tb_n ho).mpr ko⟩, if_neg (by decide), ix0 hb, ix0 ho, if_pos (by omega), if_pos (by omega), s182, bI_s, if_pos (by omega), Int.toNat_natCast, Int.toNat_natCast, hR b (by omega), hR o (by omega), wr_s (by omega) (by omega)]
    refine Eq.trans he ?_
    rw [B_264_44, if_pos (by decide), f1, bV_s]
  · rw [f3 q g, hs.2 q g]
    exact up_ne g
end MRG
theorem c_merge {W : aM → Prop} (hW : WM W) (x y : Int) : OK2 W 156 264 [.inl x, .inl y] := fun M hI _ => by
  obtain ⟨T, hC, hR, hT, hZ⟩ := hI.1
  by_cases h : x ≠ y ∧ tb (ok T) x ∧ tb (ok T) y
  · obtain ⟨b, hb, rfl⟩ := tbx h.2.1
    obtain ⟨o, ho, rfl⟩ := tbx h.2.2
    have hbo : b ≠ o := fun e => h.1 (by rw [e])
    have kb := (tb_n hb).mp h.2.1
    have ko := (tb_n ho).mp h.2.2
    obtain ⟨M1, a1, a2, a3⟩ := s130 (Or.inl rfl) hC hT hZ hb ho hbo kb ko
    obtain ⟨M2, b1, b2, b3⟩ := s264 (M := M1) (hR.mv (a3 54 (by decide) (by decide) (by decide) (by decide))) hT hZ hb ho hbo kb ko
    have h8 := mgi hT hZ hb ho hbo kb ko 8 (by omega)
    have all : ∀ q, ¬ (4 ≤ q ∧ q ≤ 7) → q ≠ 54 → M2 q = M q := fun q h1 h2 => by rw [b3 q h2, a3 q (by omega) (by omega) (by omega) (by omega)]
    obtain ⟨n, hn⟩ := hI.2.2.1
    refine ⟨1, M1, M2, ?_, b1, ?_, all 0 (by decide) (by decide)⟩
    · rw [E_156, s112 (Or.inl rfl) hC hT, bI_s, bI1_t h, if_neg (by decide), a1, bV_s]
    · refine ⟨⟨_, a2.mv (b3 4 (by decide)) (b3 5 (by decide)) (b3 6 (by decide)) (b3 7 (by decide)), b2, mg_TI hT hb ho hbo h8, mg_TZ hT hZ hb ho hbo kb h8⟩, hI.2.1.mv (by rw [all 1 (by decide) (by decide)]) (by rw [all 53 (by decide) (by decide)]) (fun q h1 h2 => all q (by omega) (by omega)) (all 56 (by decide) (by decide)), ⟨n, hn.mv (by rw [all 2 (by decide) (by decide)]) (by rw [all 53 (by decide) (by decide)]) (all 3 (by decide) (by decide)) (all 57 (by decide) (by decide))⟩, hI.2.2.2.1.mv (all 41 (by decide) (by decide)) (all 42 (by decide) (by decide)) (all 82 (by decide) (by decide)) (all 83 (by decide) (by decide)), hW M _ (fun q hq => all q ?_ ?_) (by rw [all 53 (by decide) (by decide)]) (by rw [all 81 (by decide) (by decide)]) hI.2.2.2.2⟩
      all_goals (unfold lawQ at hq; simp at hq; omega)
  · refine ⟨0, M, M, ?_, ?_, hI, rfl⟩
    · rw [E_156, s112 (Or.inl rfl) hC hT, bI_s, bI1_f h, if_pos rfl]
    · rw [E_264, s189 hR hT, bI_s, bI1_f h, if_pos rfl]
