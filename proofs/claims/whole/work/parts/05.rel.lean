/-! The small machine's memory and the heap: numbers, cells, locals. -/
theorem w_of (z : Int) : Int32.ofInt (wr z) = Int32.ofInt z := by
  apply Int32.toInt_inj.mp
  rw [Int32.toInt_ofInt, Int32.toInt_ofInt]
  show Int.bmod (wr z) 4294967296 = Int.bmod z 4294967296
  rw [Int.bmod_def, Int.bmod_def]
  unfold wr
  split <;> split <;> omega
theorem w_in (z : Int) : inR (wr z) := by unfold inR wr; omega
theorem w_id {z : Int} (h : inR z) : wr z = z := by unfold inR at h; unfold wr; omega
theorem i_toI {x : Int} (h : inR x) : (Int32.ofInt x).toInt = x := Int32.toInt_ofInt_of_le (by have := h.1; omega) (by have := h.2; omega)
theorem i_inR (x : Int32) : inR x.toInt := ⟨by have := x.le_toInt; omega, by have := x.toInt_lt; omega⟩
theorem i_eq {x y : Int} (hx : inR x) (hy : inR y) : Int32.ofInt x = Int32.ofInt y ↔ x = y := by rw [← Int32.toInt_inj, i_toI hx, i_toI hy]
theorem i_lt {x y : Int} (hx : inR x) (hy : inR y) : Int32.ofInt x < Int32.ofInt y ↔ x < y := by rw [Int32.lt_iff_toInt_lt, i_toI hx, i_toI hy]
theorem i_le {x y : Int} (hx : inR x) (hy : inR y) : Int32.ofInt x ≤ Int32.ofInt y ↔ x ≤ y := by rw [Int32.le_iff_toInt_le, i_toI hx, i_toI hy]
theorem i_0 : Int32.ofInt 0 = 0 := rfl
theorem inR_0 : inR 0 := by unfold inR; omega
theorem i_add (x y : Int) : Int32.ofInt x + Int32.ofInt y = Int32.ofInt (wr (x + y)) := by rw [w_of, Int32.ofInt_add]
theorem i_sub (x y : Int) : Int32.ofInt x - Int32.ofInt y = Int32.ofInt (wr (x - y)) := by rw [w_of, Int32.ofInt_sub]
theorem i_mul (x y : Int) : Int32.ofInt x * Int32.ofInt y = Int32.ofInt (wr (x * y)) := by rw [w_of, Int32.ofInt_mul]
theorem i_neg (x : Int) : -Int32.ofInt x = Int32.ofInt (wr (-x)) := by rw [w_of, Int32.ofInt_neg]
theorem i_div {x y : Int} (hx : inR x) (hy : inR y) : Int32.ofInt x / Int32.ofInt y = Int32.ofInt (wr (x.tdiv y)) := by
  rw [w_of]
  apply Int32.toInt_inj.mp
  rw [Int32.toInt_ofInt, Int32.toInt_div, i_toI hx, i_toI hy]
theorem i_rem {x y : Int} (hx : inR x) (hy : inR y) : Int32.ofInt x - Int32.ofInt x / Int32.ofInt y * Int32.ofInt y = Int32.ofInt (x.tmod y) := by
  rw [i_div hx hy, w_of, ← Int32.ofInt_mul, ← Int32.ofInt_sub]
  congr 1
  have h := Int.mul_tdiv_add_tmod x y
  rw [Int.mul_comm] at h
  omega
theorem i_remR {x y : Int} (hx : inR x) (hy : inR y) : inR (x.tmod y) := by
  have h := i_inR (Int32.ofInt x % Int32.ofInt y)
  rw [Int32.toInt_mod, i_toI hx, i_toI hy] at h
  exact h
theorem i_bit (x : Int32) : Int32.ofInt x.toInt = x := Int32.ofInt_toInt x
theorem i_cl {i : Int} (h : inR i) : (Int32.ofInt i).toNatClampNeg = i.toNat := Int32.toNatClampNeg_ofInt_of_le (by have := h.1; omega) (by have := h.2; omega)
theorem i_vp {i : Int} {n : Nat} (h : inR i) (h0 : 0 ≤ i) (h1 : i < (n : Int)) : vp_in (Int32.ofInt i) n := vp_in_iff.mpr (by rw [i_toI h]; exact ⟨h0, h1⟩)
theorem i_b8 (x : Int) : (Int32.ofInt x).toInt8.toInt32 = Int32.ofInt (b8 x) := by
  have hb : inR (b8 x) := by unfold inR b8; omega
  apply Int32.toInt_inj.mp
  rw [i_toI hb, Int32.toInt8_ofInt, Int8.toInt_toInt32, Int8.toInt_ofInt]
  show Int.bmod x 256 = b8 x
  rw [Int.bmod_def]
  unfold b8
  split <;> omega
theorem b8_in (x : Int) : inR (b8 x) := by unfold inR b8; omega
-- cells
def cvo (adr : Nat → Nat) : aV → Option Value
  | .inl x => some (.int (Int32.ofInt x))
  | .inr (some k) => some (.ref (adr k))
  | .inr none => none
def cv (adr : Nat → Nat) : aV → Value
  | .inl x => .int (Int32.ofInt x)
  | .inr (some k) => .ref (adr k)
  | .inr none => .null
def fldOf (adr : Nat → Nat) (refs : List (Option Nat)) (row : Nat → Int) (j : Nat) : Value := match refs[j]? with
  | some (some q) => .ref (adr q)
  | _ => .int (Int32.ofInt (row j))
def cellOf (adr : Nat → Nat) (cA : Nat → ClassId) (kd : aK) (row : Nat → Int) : va_E := match kd with
  | .inl (c, refs) => .inr (c, (List.range refs.length).map (fldOf adr refs row))
  | .inr (t, n) => .inl (cA t, n, .inl (fun j => Int32.ofInt (row j)))
def wsOf (adr : Nat → Nat) (cA : Nat → ClassId) (M : aM) : va_W := (List.range (lay0.length - 1)).map (fun k => (adr (k + 1), cellOf adr cA (lay0.getD (k + 1) (.inr (0, 0))) (M (k + 1))))
section RELW
variable {adr : Nat → Nat} {cA : Nat → ClassId} {M M' : aM}
theorem ws_get {q : Nat} {e : aK} (h : lay0[q + 1]? = some e) : (wsOf adr cA M)[q]? = some (adr (q + 1), cellOf adr cA e (M (q + 1))) := by
  have hl : q + 1 < lay0.length := (List.getElem?_eq_some_iff.mp h).1
  unfold wsOf
  rw [List.getElem?_map, List.getElem?_range (by omega)]
  simp only [Option.map_some, List.getD_eq_getElem?_getD, h, Option.getD_some]
theorem ws_set {q : Nat} {e : aK} (h : lay0[q + 1]? = some e) (hM : ∀ a, a ≠ q + 1 → M' a = M a) : (wsOf adr cA M).set q (adr (q + 1), cellOf adr cA e (M' (q + 1))) = wsOf adr cA M' := by
  have hl : q + 1 < lay0.length := (List.getElem?_eq_some_iff.mp h).1
  apply List.ext_getElem?
  intro k
  by_cases hk : k = q
  · subst hk
    rw [List.getElem?_set_self (by simp [wsOf]; omega), ws_get h]
  · rw [List.getElem?_set_ne (Ne.symm hk)]
    unfold wsOf
    rw [List.getElem?_map, List.getElem?_map]
    by_cases hz : k < lay0.length - 1
    · rw [List.getElem?_range hz]
      simp only [Option.map_some]
      rw [hM (k + 1) (by omega)]
    · rw [List.getElem?_eq_none (by simp; omega)]
      rfl
theorem up_ne {q j : Nat} {x : Int} {a : Nat} (h : a ≠ q) : upM M q j x a = M a := by unfold upM; rw [if_neg h]
theorem up_eq {q j : Nat} {x : Int} : upM M q j x q = fun b => if b = j then x else M q b := by unfold upM; rw [if_pos rfl]
theorem cell_put {c j : Nat} {refs : List (Option Nat)} {row : Nat → Int} {x : Int} (h : refs[j]? = some none) : cellOf adr cA (.inl (c, refs)) (fun b => if b = j then x else row b) = .inr (c, ((List.range refs.length).map (fldOf adr refs row)).set j (.int (Int32.ofInt x))) := by
  have hl : j < refs.length := (List.getElem?_eq_some_iff.mp h).1
  unfold cellOf
  dsimp only
  congr 2
  apply List.ext_getElem?
  intro k
  rw [List.getElem?_map]
  by_cases hk : k = j
  · subst hk
    rw [List.getElem?_set_self (by simpa using hl), List.getElem?_range hl]
    simp [fldOf, h]
  · rw [List.getElem?_set_ne (Ne.symm hk), List.getElem?_map]
    by_cases hz : k < refs.length
    · rw [List.getElem?_range hz]
      simp [fldOf, hk]
    · rw [List.getElem?_eq_none (by simp; omega)]
      rfl
theorem cell_arr {t n j : Nat} {row : Nat → Int} {x : Int} : cellOf adr cA (.inr (t, n)) (fun b => if b = j then x else row b) = .inl (cA t, n, .inl (upd (fun b => Int32.ofInt (row b)) j (Int32.ofInt x))) := by
  unfold cellOf
  dsimp only
  congr 4
  funext b
  unfold upd
  by_cases h : b = j <;> simp [h]
end RELW
-- locals and stack
def lvl (adr : Nat → Nat) (Lo : List aV) : List (Nat × Value) := (List.range Lo.length).filterMap (fun i => (Lo[i]?.bind (cvo adr)).map (fun w => (i, w)))
section RELL
variable {adr : Nat → Nat}
theorem lvl_in {Lo : List aV} {i : Nat} {v : aV} {w : Value} (h : Lo[i]? = some v) (hc : cvo adr v = some w) : (i, w) ∈ lvl adr Lo := by
  refine List.mem_filterMap.mpr ⟨i, List.mem_range.mpr (List.getElem?_eq_some_iff.mp h).1, ?_⟩
  simp [h, hc]
theorem lvl_of {Lo : List aV} {i : Nat} {w : Value} (h : (i, w) ∈ lvl adr Lo) : ∃ v, Lo[i]? = some v ∧ cvo adr v = some w := by
  obtain ⟨j, -, hj⟩ := List.mem_filterMap.mp h
  rw [Option.map_eq_some_iff] at hj
  obtain ⟨z, h1, h2⟩ := hj
  cases h2
  rw [Option.bind_eq_some_iff] at h1
  exact h1
theorem lvh_mono {ls : Array Slot} {n : Nat} {l l' : List (Nat × Value)} (h : lv_has ls n l) (hm : ∀ q ∈ l', q ∈ l) : lv_has ls n l' := ⟨h.1, h.2.1, fun q hq => h.2.2 q (hm q hq)⟩
theorem cvo_cat {v : aV} {w : Value} (h : cvo adr v = some w) : w.category = 1 := by
  rcases v with x | (_ | k)
  · cases h; rfl
  · cases h
  · cases h; rfl
theorem lvl_set {ls : Array Slot} {n i : Nat} {Lo : List aV} {v : aV} {w : Value} (h : lv_has ls n ((i, w) :: (lvl adr Lo).filter (fun q => !(q.1 == i) && !(q.1 + 1 == i && q.2.category == 2)))) (hc : cvo adr v = some w) : lv_has ls n (lvl adr (Lo.set i v)) := by
  refine lvh_mono h fun q hq => ?_
  obtain ⟨j, z⟩ := q
  obtain ⟨u, h1, h2⟩ := lvl_of hq
  by_cases hj : j = i
  · subst hj
    have hl : j < Lo.length := by have := (List.getElem?_eq_some_iff.mp h1).1; simpa using this
    rw [List.getElem?_set_self hl] at h1
    cases h1
    rw [hc] at h2
    cases h2
    exact List.mem_cons_self
  · rw [List.getElem?_set_ne (Ne.symm hj)] at h1
    refine List.mem_cons_of_mem _ (List.mem_filter.mpr ⟨lvl_in h1 h2, ?_⟩)
    have hcat := cvo_cat h2
    simp [hj, hcat]
end RELL
def okV : aV → Prop
  | .inl x => inR x
  | .inr _ => True
def okS : aV → Prop
  | .inl x => inR x
  | .inr (some _) => True
  | .inr none => False
theorem okS_cvo {adr : Nat → Nat} {v : aV} (h : okS v) : cvo adr v = some (cv adr v) := by
  rcases v with x | (_ | k)
  · rfl
  · cases h
  · rfl
theorem okS_V {v : aV} (h : okS v) : okV v := by
  rcases v with x | (_ | k)
  · exact h
  · trivial
  · trivial
theorem cv_cat (adr : Nat → Nat) (v : aV) : (cv adr v).category = 1 := by rcases v with x | (_ | k) <;> rfl
theorem cv_sum (adr : Nat → Nat) (S : List aV) : ((S.map (cv adr)).map fun v => v.category).sum = S.length := by
  induction S with
  | nil => rfl
  | cons a S ih => simp only [List.map_cons, List.sum_cons, List.length_cons, ih, cv_cat]; omega
def soF (adr : Nat → Nat) (nL : Nat) (Lo St : List aV) (ls : Array Slot) : Prop := lv_has ls nL (lvl adr Lo) ∧ Lo.length = nL ∧ (∀ v ∈ Lo, okV v) ∧ ∀ v ∈ St, okS v
section SOF
variable {adr : Nat → Nat} {nL : Nat} {Lo St S' : List aV} {ls ls' : Array Slot} {v w : aV}
theorem soF.push (h : soF adr nL Lo St ls) (hv : okS v) : soF adr nL Lo (v :: St) ls := ⟨h.1, h.2.1, h.2.2.1, fun u hu => (List.mem_cons.mp hu).elim (fun e => e ▸ hv) (h.2.2.2 u)⟩
theorem soF.tail (h : soF adr nL Lo (v :: St) ls) : soF adr nL Lo St ls := ⟨h.1, h.2.1, h.2.2.1, fun u hu => h.2.2.2 u (List.mem_cons_of_mem _ hu)⟩
theorem soF.top (h : soF adr nL Lo (v :: St) ls) : okS v := h.2.2.2 v List.mem_cons_self
theorem soF.get {i : Nat} (h : soF adr nL Lo St ls) (hv : Lo[i]? = some v) : okV v := h.2.2.1 v (List.mem_of_getElem? hv)
theorem soF.read {i : Nat} {z : Value} (h : soF adr nL Lo St ls) (hv : Lo[i]? = some v) (hc : cvo adr v = some z) : ls[i]? = some (.val z) := h.1.2.2 (i, z) (lvl_in hv hc)
theorem soF.put {i : Nat} {z : Value} (h : soF adr nL Lo St ls) (h' : lv_has ls' nL ((i, z) :: (lvl adr Lo).filter (fun q => !(q.1 == i) && !(q.1 + 1 == i && q.2.category == 2)))) (hv : okS v) (hc : cvo adr v = some z) : soF adr nL (Lo.set i v) St ls' :=
  ⟨lvl_set h' hc, by rw [List.length_set]; exact h.2.1, fun u hu => (List.mem_or_eq_of_mem_set hu).elim (h.2.2.1 u) (fun e => e ▸ okS_V hv), h.2.2.2⟩
end SOF
