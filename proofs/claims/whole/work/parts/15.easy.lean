/-! The calls that only look. -/
section EASY
variable {W : aM → Prop}
theorem tbx {m : Nat} {x : Int} (h : tb m x) : ∃ a : Nat, a < 8 ∧ x = (a : Int) := ⟨x.toNat, by have := h.1; have := h.2.1; omega, by have := h.1; omega⟩
theorem c_owes (x y : Int) : OK2 W 142 245 [.inl x, .inl y] := fun M hI _ => by
  obtain ⟨T, hC, hR, hT, hZ⟩ := hI.1
  have e : fnA 142 [.inr (some 1), .inl x, .inl y] M = fnA 245 [.inr (some 53), .inl x, .inl y] M ∧ ∃ v, fnA 245 [.inr (some 53), .inl x, .inl y] M = some (some (.inl v), M) := by
    rw [E_142, E_245, s111 (Or.inl rfl) hC hT, s187 hR hT, bI_s, bI_s]
    by_cases h1 : tb (tk T) x
    · rw [bI1_t h1, if_neg (c := (1 : Int) = 0) (by decide), s187 hR hT, bI_s]
      by_cases h2 : tb (tk T) y
      · rw [bI1_t h2, if_neg (c := (1 : Int) = 0) (by decide)]
        by_cases h : x = y
        · rw [if_pos h, bI1_f (fun z => z.1 h), if_pos rfl]; exact ⟨rfl, _, rfl⟩
        · obtain ⟨a, ha, rfl⟩ := tbx h1
          obtain ⟨b, hb, rfl⟩ := tbx h2
          rw [if_neg h, bI1_t ⟨h, h1, h2⟩, if_neg (by decide), s116 (Or.inl rfl) ha hb, s190 ha hb, bI_s, bI_s, if_pos (by omega), Int.toNat_natCast, hC.2.1 _ (by omega), hR _ (by omega)]
          exact ⟨rfl, _, rfl⟩
      · rw [bI1_f h2, if_pos rfl, bI1_f (fun z => h2 z.2.2), if_pos rfl]; exact ⟨rfl, _, rfl⟩
    · rw [bI1_f h1, if_pos rfl, bI1_f (fun z => h1 z.2.1), if_pos rfl]; exact ⟨rfl, _, rfl⟩
  obtain ⟨e1, v, e2⟩ := e
  exact ⟨v, M, M, e1.trans e2, e2, hI, rfl⟩
theorem c_holds (x y : Int) : OK2 W 143 246 [.inl x, .inl y] := fun M hI _ => by
  obtain ⟨T, hC, hR, hT, hZ⟩ := hI.1
  have e : fnA 143 [.inr (some 1), .inl x, .inl y] M = fnA 246 [.inr (some 53), .inl x, .inl y] M ∧ ∃ v, fnA 246 [.inr (some 53), .inl x, .inl y] M = some (some (.inl v), M) := by
    rw [E_143, E_246, s111 (Or.inl rfl) hC hT, s187 hR hT, bI_s, bI_s]
    by_cases h1 : tb (tk T) x
    · rw [bI1_t h1, if_neg (c := (1 : Int) = 0) (by decide), s187 hR hT, bI_s]
      by_cases h2 : tb (tk T) y
      · rw [bI1_t h2, if_neg (c := (1 : Int) = 0) (by decide)]
        by_cases h : x = y
        · rw [if_pos h, bI1_f (fun z => z.1 h), if_pos rfl]; exact ⟨rfl, _, rfl⟩
        · obtain ⟨a, ha, rfl⟩ := tbx h1
          obtain ⟨b, hb, rfl⟩ := tbx h2
          rw [if_neg h, bI1_t ⟨h, h1, h2⟩, if_neg (by decide), s118 (Or.inl rfl) ha hb, s191 ha hb, bI_s, bI_s, if_pos (by omega), Int.toNat_natCast, hC.2.2.1 _ (by omega), hR _ (by omega)]
          exact ⟨rfl, _, rfl⟩
      · rw [bI1_f h2, if_pos rfl, bI1_f (fun z => h2 z.2.2), if_pos rfl]; exact ⟨rfl, _, rfl⟩
    · rw [bI1_f h1, if_pos rfl, bI1_f (fun z => h1 z.2.1), if_pos rfl]; exact ⟨rfl, _, rfl⟩
  obtain ⟨e1, v, e2⟩ := e
  exact ⟨v, M, M, e1.trans e2, e2, hI, rfl⟩
/-- a town set in a place, in both -/
theorem inv_set (hW : WM W) {M : aM} (hI : INV W M) {q j n : Nat} {x : Int} (hq : 4 ≤ q ∧ q ≤ 7) {T : Nat → Int} (h4 : TC (upM M q j x) 4 (tset T n x)) (hR : TR M 54 T) (hTI : TI (tset T n x)) (hTZ : TZ (tset T n x)) : INV W (upM (upM M q j x) 54 n x) := by
  have ho : ∀ a, a ≠ q → a ≠ 54 → upM (upM M q j x) 54 n x a = M a := fun a h1 h2 => by rw [up_ne h2, up_ne h1]
  obtain ⟨m, hm⟩ := hI.2.2.1
  refine ⟨⟨tset T n x, h4.mv (up_ne (by decide)) (up_ne (by decide)) (up_ne (by decide)) (up_ne (by decide)), ?_, hTI, hTZ⟩, hI.2.1.mv (by rw [ho 1 (by omega) (by omega)]) (by rw [ho 53 (by omega) (by omega)]) (fun a h1 h2 => ho a (by omega) (by omega)) (ho 56 (by omega) (by omega)), ⟨m, hm.mv (by rw [ho 2 (by omega) (by omega)]) (by rw [ho 53 (by omega) (by omega)]) (ho 3 (by omega) (by omega)) (ho 57 (by omega) (by omega))⟩, hI.2.2.2.1.mv (ho 41 (by omega) (by omega)) (ho 42 (by omega) (by omega)) (ho 82 (by omega) (by omega)) (ho 83 (by omega) (by omega)), hW M _ (fun a ha => ho a ?_ ?_) (by rw [ho 53 (by omega) (by omega)]) (by rw [ho 81 (by omega) (by omega)]) hI.2.2.2.2⟩
  · exact TR.set (hR.mv (up_ne (by omega))) n x
  · intro e; subst e; unfold lawQ at ha; simp at ha; omega
  · intro e; subst e; exact absurd ha (by decide)
theorem TI.set {T : Nat → Int} (h : TI T) {j : Nat} {x : Int} (hj : j < 136 ∨ 137 < j) (h1 : j < 8 → 0 ≤ x ∧ x ≤ 9999) (h2 : 8 ≤ j → j < 72 → 0 ≤ x ∧ x ≤ 999) (h3 : ¬ (72 ≤ j ∧ j < 136)) (h4 : j = 138 → 0 ≤ x ∧ x ≤ 9999) (h5 : j = 140 → 0 ≤ x ∧ x ≤ 65535) : TI (tset T j x) := by
  obtain ⟨a1, a2, a3, a4, a5, a6, a7, a8⟩ := h
  refine ⟨by rw [ts_o (by omega)]; exact a1, by rw [ts_o (by omega)]; exact a2, fun b hb => ?_, fun b hb => ?_, fun b hb => ?_, fun b hb => ?_, ?_, ?_⟩
  · by_cases e : b = j
    · subst e; rw [ts_s]; exact h1 hb
    · rw [ts_o e]; exact a3 b hb
  · by_cases e : 8 + b = j
    · rw [e, ts_s]; exact h2 (by omega) (by omega)
    · rw [ts_o e]; exact a4 b hb
  · rw [ts_o (by omega)]; exact a5 b hb
  · rw [sg_c (g := fun e => T (72 + (8 * e + b))) (fun i hi => ts_o (by omega))]; exact a6 b hb
  · by_cases e : 138 = j
    · rw [e, ts_s]; exact h4 e.symm
    · rw [ts_o e]; exact a7
  · by_cases e : 140 = j
    · rw [e, ts_s]; exact h5 e.symm
    · rw [ts_o e]; exact a8
theorem TZ.set {T : Nat → Int} (h : TZ T) {j : Nat} {x : Int} (hj : 137 < j) : TZ (tset T j x) := by
  obtain ⟨h1, h2⟩ := h
  refine ⟨fun b hb hz => ?_, fun b hb => ?_⟩
  · rw [(ok_ts (Or.inr hj)).1] at hz
    obtain ⟨c1, c2⟩ := h1 b hb hz
    refine ⟨by rw [ts_o (by omega)]; exact c1, fun e he => ?_⟩
    rw [ts_o (by omega), ts_o (by omega), ts_o (by omega), ts_o (by omega)]
    exact c2 e he
  · rw [ts_o (by omega), ts_o (by omega)]
    exact h2 b hb
theorem TZ.cash {T : Nat → Int} (h : TZ T) {a : Nat} (ha : a < 8) {x : Int} (hx : (ok T).testBit a = true ∨ x = 0) : TZ (tset T a x) := by
  obtain ⟨h1, h2⟩ := h
  refine ⟨fun b hb hz => ?_, fun b hb => ?_⟩
  · rw [(ok_ts (by omega)).1] at hz
    obtain ⟨c1, c2⟩ := h1 b hb hz
    refine ⟨?_, fun e he => ?_⟩
    · by_cases e : b = a
      · subst e; rw [ts_s]
        rcases hx with hx | hx
        · rw [hx] at hz; cases hz
        · exact hx
      · rw [ts_o e]; exact c1
    · rw [ts_o (by omega), ts_o (by omega), ts_o (by omega), ts_o (by omega)]
      exact c2 e he
  · rw [ts_o (by omega), ts_o (by omega)]
    exact h2 b hb
theorem TZ.debt {T : Nat → Int} (h : TZ T) {a c : Nat} (ha : a < 8) (hc : c < 8) (hac : a ≠ c) {x : Int} (hx : (ok T).testBit a = true ∧ (ok T).testBit c = true) : TZ (tset T (8 + (8 * a + c)) x) := by
  obtain ⟨h1, h2⟩ := h
  refine ⟨fun b hb hz => ?_, fun b hb => ?_⟩
  · rw [(ok_ts (by omega)).1] at hz
    obtain ⟨c1, c2⟩ := h1 b hb hz
    have n1 : b ≠ a := fun e => by rw [e, hx.1] at hz; cases hz
    have n2 : b ≠ c := fun e => by rw [e, hx.2] at hz; cases hz
    refine ⟨by rw [ts_o (by omega)]; exact c1, fun e he => ?_⟩
    rw [ts_o (by omega), ts_o (by omega), ts_o (by omega), ts_o (by omega)]
    exact c2 e he
  · rw [ts_o (by omega), ts_o (by omega)]
    exact h2 b hb
theorem c_owe (hW : WM W) (x y z : Int) : OK2 W 134 197 [.inl x, .inl y, .inl z] := fun M hI _ => by
  obtain ⟨T, hC, hR, hT, hZ⟩ := hI.1
  by_cases h : x ≠ y ∧ tb (ok T) x ∧ tb (ok T) y
  · by_cases hz : 0 ≤ z ∧ z ≤ 999
    · obtain ⟨a, ha, rfl⟩ := tbx h.2.1
      obtain ⟨b, hb, rfl⟩ := tbx h.2.2
      have hT4 := hC.debt (a := 8 * a + b) (by omega) z
      refine ⟨1, upM M 6 (8 * a + b) z, upM (upM M 6 (8 * a + b) z) 54 (8 + (8 * a + b)) z, ?_, ?_, ?_, ?_⟩
      · rw [E_134, s112 (Or.inl rfl) hC hT, bI_s, bI1_t h, if_neg (by decide), if_neg (by omega), if_pos (by omega), s117 (Or.inl rfl) ha hb, bV_s]
      · rw [E_197, s189 (hR.mv (up_ne (by decide))) hT, bI_s, bI1_t h, if_neg (by decide), s181, bI_s, bI1_t hz, if_neg (by decide), s190 ha hb, bI_s, if_pos (by omega), Int.toNat_natCast]
      · exact inv_set hW hI (by omega) hT4 hR (hT.set (by omega) (by omega) (fun _ _ => hz) (by omega) (by omega) (by omega)) (hZ.debt ha hb (fun e => h.1 (by rw [e])) ⟨(tb_n ha).mp h.2.1, (tb_n hb).mp h.2.2⟩)
      · rw [up_ne (by decide), up_ne (by decide)]
    · refine ⟨0, M, M, ?_, ?_, hI, rfl⟩
      · rw [E_134, s112 (Or.inl rfl) hC hT, bI_s, bI1_t h, if_neg (by decide)]
        by_cases h1 : z < 0
        · rw [if_pos h1]
        · rw [if_neg h1, if_neg (by omega)]
      · rw [E_197, s189 hR hT, bI_s, bI1_t h, if_neg (by decide), s181, bI_s, bI1_f hz, if_pos rfl]
  · refine ⟨0, M, M, ?_, ?_, hI, rfl⟩
    · rw [E_134, s112 (Or.inl rfl) hC hT, bI_s, bI1_f h, if_pos rfl]
    · rw [E_197, s189 hR hT, bI_s, bI1_f h, if_pos rfl]
theorem c_seed (hW : WM W) (x : Int) : OK2 W 172 282 [.inl x] := fun M hI _ => by
  obtain ⟨T, hC, hR, hT, hZ⟩ := hI.1
  by_cases hx : 0 ≤ x ∧ x ≤ 65535
  · refine ⟨1, upM M 4 7 x, upM (upM M 4 7 x) 54 140 x, ?_, ?_, ?_, ?_⟩
    · rw [E_172, if_neg (by omega), if_pos (by omega)]
    · rw [E_282, s181, bI_s, bI1_t hx, if_neg (by decide)]
    · exact inv_set hW hI (by omega) (hC.lot x) hR (hT.set (by omega) (by omega) (by omega) (by omega) (by omega) (fun _ => hx)) (hZ.set (by omega))
    · rw [up_ne (by decide), up_ne (by decide)]
  · refine ⟨0, M, M, ?_, ?_, hI, rfl⟩
    · rw [E_172]
      by_cases h1 : x < 0
      · rw [if_pos h1]
      · rw [if_neg h1, if_neg (by omega)]
    · rw [E_282, s181, bI_s, bI1_f hx, if_pos rfl]
end EASY
