/-! What class and reference hold alike between two calls. W: what is said of the laws, by their cells alone. -/
def KP (M : aM) : Prop := ∃ K : Nat → Int, M 1 13 = M 53 49 ∧ (M 53 49 = 0 ∨ M 53 49 = 1 ∧ TC M 8 K ∧ TR M 56 K ∧ TI K ∧ TZ K)
def TP (M : aM) (n : Nat) : Prop := M 2 1 = (n : Int) ∧ M 53 4 = (n : Int) ∧ n ≤ 260 ∧ ∀ i, i < n → M 3 i = iAnd (M 57 i) 255 ∧ 0 ≤ M 3 i ∧ M 3 i < 256
/-- the number that a row of blinks spells -/
def bz (f : Nat → Int) : Nat → Int
  | 0 => 0
  | n + 1 => 2 * bz f n + if f n = 45 then 1 else 0
def CDI (M : aM) : Prop := ∀ s, s < 8 → M 41 s = M 82 s ∧ 0 ≤ M 41 s ∧ M 41 s ≤ 6 ∧ (∀ i : Nat, (i : Int) < M 41 s → M 42 (6 * s + i) = 46 ∨ M 42 (6 * s + i) = 45) ∧ M 83 s = bz (fun i => M 42 (6 * s + i)) (M 41 s).toNat
def lawQ (q : Nat) : Bool := (47 ≤ q && q ≤ 52) || (64 ≤ q && q ≤ 68)
def WM (W : aM → Prop) : Prop := ∀ M M' : aM, (∀ q, lawQ q = true → M' q = M q) → M' 53 13 = M 53 13 → M' 81 0 = M 81 0 → W M → W M'
def TW (M : aM) : Prop := ∃ T : Nat → Int, TC M 4 T ∧ TR M 54 T ∧ TI T ∧ TZ T
def INV (W : aM → Prop) (M : aM) : Prop := TW M ∧ KP M ∧ (∃ n, TP M n) ∧ CDI M ∧ W M
def keepQ (q : Nat) : Bool := q == 3 || (4 ≤ q && q ≤ 11) || q == 41 || q == 42 || (47 ≤ q && q ≤ 52) || q == 54 || q == 56 || q == 57 || (64 ≤ q && q ≤ 68) || q == 81 || q == 82 || q == 83
/-- what has to be kept where an op changes nothing for good -/
def SM (M M' : aM) : Prop := (∀ q, keepQ q = true → M' q = M q) ∧ M' 1 13 = M 1 13 ∧ M' 2 1 = M 2 1 ∧ M' 53 4 = M 53 4 ∧ M' 53 13 = M 53 13 ∧ M' 53 49 = M 53 49
theorem SM.rf {M : aM} : SM M M := ⟨fun _ _ => rfl, rfl, rfl, rfl, rfl, rfl⟩
theorem SM.tr {M M1 M2 : aM} (h1 : SM M M1) (h2 : SM M1 M2) : SM M M2 := ⟨fun q h => (h2.1 q h).trans (h1.1 q h), h2.2.1.trans h1.2.1, h2.2.2.1.trans h1.2.2.1, h2.2.2.2.1.trans h1.2.2.2.1, h2.2.2.2.2.1.trans h1.2.2.2.2.1, h2.2.2.2.2.2.trans h1.2.2.2.2.2⟩
theorem SM.up {M M' : aM} {q j : Nat} {x : Int} (h : SM M M') (hq : (keepQ q || q == 1 || q == 2 || q == 53) = false) : SM M (upM M' q j x) := by
  have hk : keepQ q = false ∧ q ≠ 1 ∧ q ≠ 2 ∧ q ≠ 53 := by simpa [Bool.or_eq_false_iff, and_assoc] using hq
  obtain ⟨h0, h1, h2, h3⟩ := hk
  refine ⟨fun a ha => ?_, ?_, ?_, ?_, ?_, ?_⟩
  · have : a ≠ q := fun e => by rw [e, h0] at ha; cases ha
    rw [up_ne this]; exact h.1 a ha
  · rw [up_o (Ne.symm h1)]; exact h.2.1
  · rw [up_o (Ne.symm h2)]; exact h.2.2.1
  · rw [up_o (Ne.symm h3)]; exact h.2.2.2.1
  · rw [up_o (Ne.symm h3)]; exact h.2.2.2.2.1
  · rw [up_o (Ne.symm h3)]; exact h.2.2.2.2.2
theorem KP.mv {M M' : aM} (h : KP M) (h0 : M' 1 13 = M 1 13) (h1 : M' 53 49 = M 53 49) (h2 : ∀ q, 8 ≤ q → q ≤ 11 → M' q = M q) (h3 : M' 56 = M 56) : KP M' := by
  obtain ⟨K, a, b⟩ := h
  refine ⟨K, by rw [h0, h1]; exact a, ?_⟩
  rw [h1]
  rcases b with b | ⟨b, c, d, e⟩
  · exact Or.inl b
  · exact Or.inr ⟨b, c.mv (h2 8 (by decide) (by decide)) (h2 9 (by decide) (by decide)) (h2 10 (by decide) (by decide)) (h2 11 (by decide) (by decide)), d.mv h3, e⟩
theorem TP.mv {M M' : aM} {n : Nat} (h : TP M n) (h0 : M' 2 1 = M 2 1) (h1 : M' 53 4 = M 53 4) (h2 : M' 3 = M 3) (h3 : M' 57 = M 57) : TP M' n := by
  unfold TP at *
  rw [h0, h1, h2, h3]
  exact h
theorem CDI.mv {M M' : aM} (h : CDI M) (h0 : M' 41 = M 41) (h1 : M' 42 = M 42) (h2 : M' 82 = M 82) (h3 : M' 83 = M 83) : CDI M' := by
  unfold CDI at *
  rw [h0, h1, h2, h3]
  exact h
theorem TW.mv {M M' : aM} (h : TW M) (h2 : ∀ q, 4 ≤ q → q ≤ 7 → M' q = M q) (h3 : M' 54 = M 54) : TW M' := by
  obtain ⟨T, a, b, c⟩ := h
  exact ⟨T, a.mv (h2 4 (by decide) (by decide)) (h2 5 (by decide) (by decide)) (h2 6 (by decide) (by decide)) (h2 7 (by decide) (by decide)), b.mv h3, c⟩
theorem kq1 {q : Nat} (h1 : 4 ≤ q) (h2 : q ≤ 11) : keepQ q = true := by simp [keepQ, h1, h2]
theorem kqL {q : Nat} (h : lawQ q = true) : keepQ q = true := by
  unfold lawQ at h
  unfold keepQ
  simp only [Bool.or_eq_true, Bool.and_eq_true, decide_eq_true_eq, beq_iff_eq] at *
  omega
theorem SM.town {M M' : aM} (h : SM M M') (hT : TW M) : TW M' := hT.mv (fun q h1 h2 => h.1 q (kq1 h1 (by omega))) (h.1 54 rfl)
theorem SM.kept {M M' : aM} (h : SM M M') (hT : KP M) : KP M' := hT.mv h.2.1 h.2.2.2.2.2 (fun q h1 h2 => h.1 q (kq1 (by omega) h2)) (h.1 56 rfl)
theorem SM.tape {M M' : aM} {n : Nat} (h : SM M M') (hT : TP M n) : TP M' n := hT.mv h.2.2.1 h.2.2.2.1 (h.1 3 rfl) (h.1 57 rfl)
theorem SM.codes {M M' : aM} (h : SM M M') (hT : CDI M) : CDI M' := hT.mv (h.1 41 rfl) (h.1 42 rfl) (h.1 82 rfl) (h.1 83 rfl)
theorem SM.laws {W : aM → Prop} (hW : WM W) {M M' : aM} (h : SM M M') (hT : W M) : W M' := hW M M' (fun q hq => h.1 q (kqL hq)) h.2.2.2.2.1 (by rw [h.1 81 rfl]) hT
theorem SM.inv {W : aM → Prop} (hW : WM W) {M M' : aM} (h : SM M M') (hI : INV W M) : INV W M' := by
  obtain ⟨n, hn⟩ := hI.2.2.1
  exact ⟨h.town hI.1, h.kept hI.2.1, ⟨n, h.tape hn⟩, h.codes hI.2.2.2.1, h.laws hW hI.2.2.2.2⟩
/-- a call: both answer alike -/
def OK2 (W : aM → Prop) (c d : Nat) (as : List aV) : Prop := ∀ M, INV W M → (∀ j, inR (M 0 j)) → ∃ v M1 M2, fnA c (.inr (some 1) :: as) M = some (some (.inl v), M1) ∧ fnA d (.inr (some 53) :: as) M1 = some (some (.inl v), M2) ∧ INV W M2 ∧ M2 0 = M 0
/-- rows changed in a place -/
def tset (T : Nat → Int) (j : Nat) (x : Int) : Nat → Int := fun i => if i = j then x else T i
theorem ts_s {T : Nat → Int} {j : Nat} {x : Int} : tset T j x j = x := by simp [tset]
theorem ts_o {T : Nat → Int} {j i : Nat} {x : Int} (h : i ≠ j) : tset T j x i = T i := by simp [tset, h]
theorem TR.set {M : aM} {c : Nat} {T : Nat → Int} (h : TR M c T) (j : Nat) (x : Int) : TR (upM M c j x) c (tset T j x) := fun i hi => by
  rw [up_r]; unfold tset
  by_cases e : i = j
  · rw [if_pos ⟨rfl, e⟩, if_pos e]
  · rw [if_neg (fun z => e z.2), if_neg e]; exact h i hi
theorem TR.set' {M : aM} {c : Nat} {T : Nat → Int} (h : TR M c T) {j : Int} {x : Int} {n : Nat} (hj : j = (n : Int)) : TR (upM M c j.toNat x) c (tset T n x) := by subst hj; exact h.set n x
theorem ok_ts {T : Nat → Int} {j : Nat} {x : Int} (h : j < 136 ∨ 137 < j) : ok (tset T j x) = ok T ∧ tk (tset T j x) = tk T ∧ sk (tset T j x) = sk T := by
  unfold ok tk sk
  rw [ts_o (by omega), ts_o (by omega)]
  exact ⟨rfl, rfl, rfl⟩
theorem TC.cash {M : aM} {k : Nat} {T : Nat → Int} (h : TC M k T) {a : Nat} (ha : a < 8) (x : Int) : TC (upM M (k + 1) a x) k (tset T a x) := by
  obtain ⟨h1, h2, h3, h4, h5, h6, h7, h8⟩ := h
  refine ⟨fun j hj => ?_, fun j hj => ?_, fun j hj => ?_, ?_, ?_, ?_, ?_, ?_⟩
  · rw [up_r]; unfold tset
    by_cases e : j = a
    · rw [if_pos ⟨rfl, e⟩, if_pos e]
    · rw [if_neg (fun z => e z.2), if_neg e]; exact h1 j hj
  · rw [up_o (by omega), ts_o (by omega)]; exact h2 j hj
  · rw [up_o (by omega), ts_o (by omega)]; exact h3 j hj
  · rw [up_o (by omega), ts_o (by omega)]; exact h4
  · rw [up_o (by omega), (ok_ts (by omega)).1]; exact h5
  · rw [up_o (by omega), ts_o (by omega)]; exact h6
  · rw [up_o (by omega), ts_o (by omega)]; exact h7
  · rw [up_o (by omega), ts_o (by omega)]; exact h8
theorem TC.debt {M : aM} {k : Nat} {T : Nat → Int} (h : TC M k T) {a : Nat} (ha : a < 64) (x : Int) : TC (upM M (k + 2) a x) k (tset T (8 + a) x) := by
  obtain ⟨h1, h2, h3, h4, h5, h6, h7, h8⟩ := h
  refine ⟨fun j hj => ?_, fun j hj => ?_, fun j hj => ?_, ?_, ?_, ?_, ?_, ?_⟩
  · rw [up_o (by omega), ts_o (by omega)]; exact h1 j hj
  · rw [up_r]; unfold tset
    by_cases e : j = a
    · rw [if_pos ⟨rfl, e⟩, if_pos (by omega)]
    · rw [if_neg (fun z => e z.2), if_neg (by omega)]; exact h2 j hj
  · rw [up_o (by omega), ts_o (by omega)]; exact h3 j hj
  · rw [up_o (by omega), ts_o (by omega)]; exact h4
  · rw [up_o (by omega), (ok_ts (by omega)).1]; exact h5
  · rw [up_o (by omega), ts_o (by omega)]; exact h6
  · rw [up_o (by omega), ts_o (by omega)]; exact h7
  · rw [up_o (by omega), ts_o (by omega)]; exact h8
theorem TC.shr {M : aM} {k : Nat} {T : Nat → Int} (h : TC M k T) {a : Nat} (ha : a < 64) (x : Int) : TC (upM M (k + 3) a x) k (tset T (72 + a) x) := by
  obtain ⟨h1, h2, h3, h4, h5, h6, h7, h8⟩ := h
  refine ⟨fun j hj => ?_, fun j hj => ?_, fun j hj => ?_, ?_, ?_, ?_, ?_, ?_⟩
  · rw [up_o (by omega), ts_o (by omega)]; exact h1 j hj
  · rw [up_o (by omega), ts_o (by omega)]; exact h2 j hj
  · rw [up_r]; unfold tset
    by_cases e : j = a
    · rw [if_pos ⟨rfl, e⟩, if_pos (by omega)]
    · rw [if_neg (fun z => e z.2), if_neg (by omega)]; exact h3 j hj
  · rw [up_o (by omega), ts_o (by omega)]; exact h4
  · rw [up_o (by omega), (ok_ts (by omega)).1]; exact h5
  · rw [up_o (by omega), ts_o (by omega)]; exact h6
  · rw [up_o (by omega), ts_o (by omega)]; exact h7
  · rw [up_o (by omega), ts_o (by omega)]; exact h8
theorem TC.lot {M : aM} {k : Nat} {T : Nat → Int} (h : TC M k T) (x : Int) : TC (upM M k 7 x) k (tset T 140 x) := by
  obtain ⟨h1, h2, h3, h4, h5, h6, h7, h8⟩ := h
  refine ⟨fun j hj => ?_, fun j hj => ?_, fun j hj => ?_, ?_, ?_, ?_, ?_, ?_⟩
  · rw [up_o (by omega), ts_o (by omega)]; exact h1 j hj
  · rw [up_o (by omega), ts_o (by omega)]; exact h2 j hj
  · rw [up_o (by omega), ts_o (by omega)]; exact h3 j hj
  · rw [up_j (by omega), ts_o (by omega)]; exact h4
  · rw [up_j (by omega), (ok_ts (by omega)).1]; exact h5
  · rw [up_j (by omega), ts_o (by omega)]; exact h6
  · rw [up_j (by omega), ts_o (by omega)]; exact h7
  · rw [up_s, ts_s]
theorem TC.fal {M : aM} {k : Nat} {T : Nat → Int} (h : TC M k T) (x : Int) : TC (upM M k 6 x) k (tset T 139 x) := by
  obtain ⟨h1, h2, h3, h4, h5, h6, h7, h8⟩ := h
  refine ⟨fun j hj => ?_, fun j hj => ?_, fun j hj => ?_, ?_, ?_, ?_, ?_, ?_⟩
  · rw [up_o (by omega), ts_o (by omega)]; exact h1 j hj
  · rw [up_o (by omega), ts_o (by omega)]; exact h2 j hj
  · rw [up_o (by omega), ts_o (by omega)]; exact h3 j hj
  · rw [up_j (by omega), ts_o (by omega)]; exact h4
  · rw [up_j (by omega), (ok_ts (by omega)).1]; exact h5
  · rw [up_j (by omega), ts_o (by omega)]; exact h6
  · rw [up_s, ts_s]
  · rw [up_j (by omega), ts_o (by omega)]; exact h8
theorem TC.mon {M : aM} {k : Nat} {T : Nat → Int} (h : TC M k T) (x : Int) : TC (upM M k 5 x) k (tset T 138 x) := by
  obtain ⟨h1, h2, h3, h4, h5, h6, h7, h8⟩ := h
  refine ⟨fun j hj => ?_, fun j hj => ?_, fun j hj => ?_, ?_, ?_, ?_, ?_, ?_⟩
  · rw [up_o (by omega), ts_o (by omega)]; exact h1 j hj
  · rw [up_o (by omega), ts_o (by omega)]; exact h2 j hj
  · rw [up_o (by omega), ts_o (by omega)]; exact h3 j hj
  · rw [up_j (by omega), ts_o (by omega)]; exact h4
  · rw [up_j (by omega), (ok_ts (by omega)).1]; exact h5
  · rw [up_s, ts_s]
  · rw [up_j (by omega), ts_o (by omega)]; exact h7
  · rw [up_j (by omega), ts_o (by omega)]; exact h8
