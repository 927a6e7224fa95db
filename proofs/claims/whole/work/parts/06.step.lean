/-! One step of the small machine is a step of the machine. -/
def soM (M : aM) (L : Nat) (xs : Nat → Int32) : Prop := (∀ q j, inR (M q j)) ∧ M 0 4000 = (L : Int) ∧ L ≤ 3072 ∧ ∀ j, j < L → M 0 j = (xs j).toInt
def soH (D : va_G) (cA : Nat → ClassId) (adr : Nat → Nat) (A : Nat → Prop) (s : State) (M : aM) (H : Heap) (locs : List Loc) : Prop := va_P D vwCl (wsOf adr cA M) H ∧ va_D A (wsOf adr cA M) ∧ va_S A s.heap H locs
def soX (s : State) (A : Nat → Prop) (adr : Nat → Nat) (L : Nat) (xs : Nat → Int32) : Prop := va_X (adr 0) L xs s s.heap ∧ adr 0 < s.heap.size ∧ ¬ A (adr 0) ∧ ∀ q, s.heap.size ≤ q → A q
def tysO (cA : Nat → ClassId) : List (ClassId × FieldType) := [(cA 0, .int), (cA 1, .byte)]
def soK (p : Program) (s : State) (m : MethodId) (args : Array Value) (c : Code) (O : String) (cc : ByteArray) (nL : Nat) (D : va_G) (cA : Nat → ClassId) : Prop := p.tables.exec = Jvm.exec ∧ c.code = cc ∧ c.maxLocals = nL ∧ s.vm.findClass O = some m.cls ∧ (∀ w ∈ gT, w.before args s = true) ∧ nOK s ∧ va_K D vwCl (tysO cA) s
theorem up_M {M : aM} {L : Nat} {xs : Nat → Int32} {q j : Nat} {x : Int} (h : soM M L xs) (hx : inR x) : soM (upM M (q + 1) j x) L xs := by
  refine ⟨fun a b => ?_, ?_, h.2.2.1, fun i hi => ?_⟩
  · by_cases e : a = q + 1
    · subst e
      rw [up_eq]
      dsimp only
      split
      · exact hx
      · exact h.1 _ _
    · rw [up_ne e]; exact h.1 _ _
  · rw [up_ne (by omega)]; exact h.2.1
  · rw [up_ne (by omega)]; exact h.2.2.2 i hi
theorem lay_pos {q : Nat} {e : aK} (h : lay0[q]? = some e) (hn : ∀ n, e ≠ .inr (2, n)) : ∃ k, q = k + 1 := by
  cases q with
  | zero => exact absurd (Option.some.inj (lay_zero.symm.trans h)).symm (hn 0)
  | succ k => exact ⟨k, rfl⟩
theorem fld_at {adr : Nat → Nat} {refs : List (Option Nat)} {row : Nat → Int} {j : Nat} {o : Option Nat} (h : refs[j]? = some o) : ((List.range refs.length).map (fldOf adr refs row))[j]? = some (match o with | some q => .ref (adr q) | none => .int (Int32.ofInt (row j))) := by
  have hl : j < refs.length := (List.getElem?_eq_some_iff.mp h).1
  rw [List.getElem?_map, List.getElem?_range hl]
  cases o <;> simp [fldOf, h]
set_option maxHeartbeats 8000000 in
set_option maxRecDepth 20000 in
theorem so_step {p : Program} {l : Launch} {e : Env} {R : Room} {s : State} {m : MethodId} {args : Array Value} {below : List Frame} {meth : Method} {c : Code} {H : Heap} {locs : List Loc} {cells slots : Nat} {Q : State → Prop}
    {O : String} {cc : ByteArray} {nL on : Nat} {D : va_G} {cA : Nat → ClassId} {adr : Nat → Nat} {A : Nat → Prop} {L : Nat} {xs : Nat → Int32} {own : Nat → Nat} {bz : Bool} {pc n : Nat} {i : Instr} {P : aP} {Lo St : List aV} {M : aM} {ls : Array Slot}
    {pc' : Nat} {Lo' St' : List aV} {M' : aM}
    (K : soK p s m args c O cc nL D cA) (hO : aCls[on]? = some O) (X : soX s A adr L xs) (hR : 2 ≤ R.frames ∧ 60 ≤ R.locals ∧ cells ≤ R.cells ∧ slots ≤ R.slots)
    (hd : decode cc pc = .ok (i, n)) (hl : okLen i n = true) (hp : ∀ k, idxOf i = some k → ∃ (nb : Bool) (z : Nat), chkP on (k, P, nb, z) = true)
    (h : sem own bz pc i P Lo St M = aGo pc' Lo' St' M') (hM : soM M L xs) (hH : soH D cA adr A s M H locs) (hF : soF adr nL Lo St ls)
    (kont : ∀ (H' : Heap) (locs' : List Loc) (ls' : Array Slot), soM M' L xs → soH D cA adr A s M' H' locs' → soF adr nL Lo' St' ls' → W p l e R s m args below meth c H' locs' cells slots Q (F0 m pc' ls' (St'.map (cv adr)))) :
    W p l e R s m args below meth c H locs cells slots Q (F0 m pc ls (St.map (cv adr))) := by
  obtain ⟨hx, hb, hml, hown, hts, hN, hK⟩ := K
  cases i with
  | iconst k =>
    simp only [sem] at h
    split at h
    · next hk =>
      cases h
      simp only [okLen, beq_iff_eq] at hl; subst hl
      exact lv_iconst hx hb hd rfl (kont H locs ls hM hH (hF.push (v := .inl k) ⟨by omega, by omega⟩))
    · cases h
  | bipush k =>
    simp only [sem] at h
    split at h
    · next hk =>
      cases h
      simp only [okLen, beq_iff_eq] at hl; subst hl
      refine lv_bipush hx hb hd ?_ (kont H locs ls hM hH (hF.push (v := .inl k) ⟨by omega, by omega⟩))
      apply Int32.toInt_inj.mp
      rw [Int8.toInt_toInt32, Int8.toInt_ofInt_of_le (by omega) (by omega), i_toI ⟨by omega, by omega⟩]
    · cases h
  | sipush k =>
    simp only [sem] at h
    split at h
    · next hk =>
      cases h
      simp only [okLen, beq_iff_eq] at hl; subst hl
      refine lv_sipush hx hb hd ?_ (kont H locs ls hM hH (hF.push (v := .inl k) ⟨by omega, by omega⟩))
      apply Int32.toInt_inj.mp
      rw [Int16.toInt_toInt32, Int16.toInt_ofInt_of_le (by omega) (by omega), i_toI ⟨by omega, by omega⟩]
    · cases h
  | ldc k =>
    simp only [sem] at h
    split at h
    · next hk =>
      cases h
      simp only [okLen, beq_iff_eq] at hl; subst hl
      obtain ⟨nb, z, hz⟩ := hp k rfl
      simp only [chkP, hO, hk.1] at hz
      exact lv_ldc hx hb hown (hts _ (chkW_in hz)) hd (kont H locs ls hM hH (hF.push (v := .inl P.2.2.2) ⟨hk.2.1, hk.2.2⟩))
    · cases h
  | ldc_w k =>
    simp only [sem] at h
    split at h
    · next hk =>
      cases h
      simp only [okLen, beq_iff_eq] at hl; subst hl
      obtain ⟨nb, z, hz⟩ := hp k rfl
      simp only [chkP, hO, hk.1] at hz
      exact lv_ldcw hx hb hown (hts _ (chkW_in hz)) hd (kont H locs ls hM hH (hF.push (v := .inl P.2.2.2) ⟨hk.2.1, hk.2.2⟩))
    · cases h
  | iload k =>
    simp only [sem] at h
    split at h
    · next x hv =>
      cases h
      simp only [okLen, beq_iff_eq] at hl; subst hl
      exact lv_iload hx hb hd (hF.read hv rfl) (kont H locs ls hM hH (hF.push (v := .inl x) (hF.get hv)))
    · cases h
  | iload_n k =>
    simp only [sem] at h
    split at h
    · next x hv =>
      cases h
      simp only [okLen, beq_iff_eq] at hl; subst hl
      exact lv_iload_n hx hb hd rfl (hF.read hv rfl) (kont H locs ls hM hH (hF.push (v := .inl x) (hF.get hv)))
    · cases h
  | aload k =>
    simp only [sem] at h
    split at h
    · next x hv =>
      cases h
      simp only [okLen, beq_iff_eq] at hl; subst hl
      exact lv_aload hx hb hd (hF.read hv rfl) (kont H locs ls hM hH (hF.push (v := .inr (some x)) trivial))
    · cases h
  | aload_n k =>
    simp only [sem] at h
    split at h
    · next x hv =>
      cases h
      simp only [okLen, beq_iff_eq] at hl; subst hl
      exact lv_aload_n hx hb hd rfl (hF.read hv rfl) (kont H locs ls hM hH (hF.push (v := .inr (some x)) trivial))
    · cases h
  | istore k =>
    simp only [sem] at h
    split at h
    · next x S' =>
      split at h
      · next hk =>
        cases h
        simp only [okLen, beq_iff_eq] at hl; subst hl
        exact lv_istore hx hb hd hF.1 (by rw [← hF.2.1]; exact hk) rfl (fun ls' h' => kont H locs ls' hM hH (hF.tail.put h' hF.top rfl))
      · cases h
    · cases h
  | istore_n k =>
    simp only [sem] at h
    split at h
    · next x S' =>
      split at h
      · next hk =>
        cases h
        simp only [okLen, beq_iff_eq] at hl; subst hl
        exact lv_istore_n hx hb hd rfl hF.1 (by rw [← hF.2.1]; exact hk) rfl (fun ls' h' => kont H locs ls' hM hH (hF.tail.put h' hF.top rfl))
      · cases h
    · cases h
  | astore k =>
    simp only [sem] at h
    split at h
    · next x S' =>
      split at h
      · next hk =>
        cases h
        simp only [okLen, beq_iff_eq] at hl; subst hl
        exact lv_astore hx hb hd hF.1 (by rw [← hF.2.1]; exact hk) rfl (fun ls' h' => kont H locs ls' hM hH (hF.tail.put h' hF.top rfl))
      · cases h
    · cases h
  | astore_n k =>
    simp only [sem] at h
    split at h
    · next x S' =>
      split at h
      · next hk =>
        cases h
        simp only [okLen, beq_iff_eq] at hl; subst hl
        exact lv_astore_n hx hb hd rfl hF.1 (by rw [← hF.2.1]; exact hk) rfl (fun ls' h' => kont H locs ls' hM hH (hF.tail.put h' hF.top rfl))
      · cases h
    · cases h
  | iinc k d =>
    simp only [sem] at h
    split at h
    · next x hv =>
      cases h
      simp only [okLen, beq_iff_eq] at hl; subst hl
      obtain ⟨kk, hkk⟩ := List.getElem?_of_mem (lvl_in (adr := adr) hv rfl)
      exact lv_iinc hx hb hd hF.1 hkk (by rw [← Int32.ofInt_add, ← w_of]) (by rw [← hF.2.1]; exact (List.getElem?_eq_some_iff.mp hv).1) rfl (fun ls' h' => kont H locs ls' hM hH (hF.put (v := .inl (wr (x + d))) h' (w_in _) rfl))
    · cases h
  | iadd =>
    simp only [sem] at h
    split at h
    · next y x S' =>
      cases h
      simp only [okLen, beq_iff_eq] at hl; subst hl
      exact lv_iadd hx hb hd (by rw [i_add]; exact kont H locs ls hM hH (hF.tail.tail.push (v := .inl (wr (x + y))) (w_in _)))
    · cases h
  | isub =>
    simp only [sem] at h
    split at h
    · next y x S' =>
      cases h
      simp only [okLen, beq_iff_eq] at hl; subst hl
      exact lv_isub hx hb hd (by rw [i_sub]; exact kont H locs ls hM hH (hF.tail.tail.push (v := .inl (wr (x - y))) (w_in _)))
    · cases h
  | imul =>
    simp only [sem] at h
    split at h
    · next y x S' =>
      cases h
      simp only [okLen, beq_iff_eq] at hl; subst hl
      exact lv_imul hx hb hd (by rw [i_mul]; exact kont H locs ls hM hH (hF.tail.tail.push (v := .inl (wr (x * y))) (w_in _)))
    · cases h
  | idiv =>
    simp only [sem] at h
    split at h
    · next y x S' =>
      split at h
      · cases h
      · next hy =>
        cases h
        simp only [okLen, beq_iff_eq] at hl; subst hl
        have hy' : ¬ Int32.ofInt y = 0 := fun q => hy ((i_eq hF.top inR_0).mp q)
        exact lv_idiv hx hb hd hy' (by rw [i_div hF.tail.top hF.top]; exact kont H locs ls hM hH (hF.tail.tail.push (v := .inl (wr (x.tdiv y))) (w_in _)))
    · cases h
  | irem =>
    simp only [sem] at h
    split at h
    · next y x S' =>
      split at h
      · cases h
      · next hy =>
        cases h
        simp only [okLen, beq_iff_eq] at hl; subst hl
        have hy' : ¬ Int32.ofInt y = 0 := fun q => hy ((i_eq hF.top inR_0).mp q)
        exact lv_irem hx hb hd hy' (by rw [i_rem hF.tail.top hF.top]; exact kont H locs ls hM hH (hF.tail.tail.push (v := .inl (x.tmod y)) (i_remR hF.tail.top hF.top)))
    · cases h
  | ineg =>
    simp only [sem] at h
    split at h
    · next x S' =>
      cases h
      simp only [okLen, beq_iff_eq] at hl; subst hl
      exact lv_ineg hx hb hd (by rw [i_neg]; exact kont H locs ls hM hH (hF.tail.push (v := .inl (wr (-x))) (w_in _)))
    · cases h
  | iand =>
    simp only [sem] at h
    split at h
    · next y x S' =>
      cases h
      simp only [okLen, beq_iff_eq] at hl; subst hl
      exact lv_iand hx hb hd (by rw [← i_bit (Int32.ofInt x &&& Int32.ofInt y)]; exact kont H locs ls hM hH (hF.tail.tail.push (v := .inl (iAnd x y)) (i_inR _)))
    · cases h
  | ior =>
    simp only [sem] at h
    split at h
    · next y x S' =>
      cases h
      simp only [okLen, beq_iff_eq] at hl; subst hl
      exact lv_ior hx hb hd (by rw [← i_bit (Int32.ofInt x ||| Int32.ofInt y)]; exact kont H locs ls hM hH (hF.tail.tail.push (v := .inl (iOr x y)) (i_inR _)))
    · cases h
  | ixor =>
    simp only [sem] at h
    split at h
    · next y x S' =>
      cases h
      simp only [okLen, beq_iff_eq] at hl; subst hl
      exact lv_ixor hx hb hd (by rw [← i_bit (Int32.ofInt x ^^^ Int32.ofInt y)]; exact kont H locs ls hM hH (hF.tail.tail.push (v := .inl (iXor x y)) (i_inR _)))
    · cases h
  | ishl =>
    simp only [sem] at h
    split at h
    · next y x S' =>
      cases h
      simp only [okLen, beq_iff_eq] at hl; subst hl
      exact lv_ishl hx hb hd (by rw [← i_bit (Int32.ofInt x <<< (Int32.ofInt y &&& 31))]; exact kont H locs ls hM hH (hF.tail.tail.push (v := .inl (iShl x y)) (i_inR _)))
    · cases h
  | ishr =>
    simp only [sem] at h
    split at h
    · next y x S' =>
      cases h
      simp only [okLen, beq_iff_eq] at hl; subst hl
      exact lv_ishr hx hb hd (by rw [← i_bit (Int32.ofInt x >>> (Int32.ofInt y &&& 31))]; exact kont H locs ls hM hH (hF.tail.tail.push (v := .inl (iShr x y)) (i_inR _)))
    · cases h
  | iushr =>
    simp only [sem] at h
    split at h
    · next y x S' =>
      cases h
      simp only [okLen, beq_iff_eq] at hl; subst hl
      exact lv_iushr hx hb hd (i_bit _).symm (kont H locs ls hM hH (hF.tail.tail.push (v := .inl (iUshr x y)) (i_inR _)))
    · cases h
  | i2b =>
    simp only [sem] at h
    split at h
    · next x S' =>
      cases h
      simp only [okLen, beq_iff_eq] at hl; subst hl
      exact lv_i2b hx hb hd (i_b8 x) (kont H locs ls hM hH (hF.tail.push (v := .inl (b8 x)) (b8_in _)))
    · cases h
  | dup =>
    simp only [sem] at h
    split at h
    · next v S' =>
      cases h
      simp only [okLen, beq_iff_eq] at hl; subst hl
      exact lv_dup hx hb hd (cv_cat adr v) (kont H locs ls hM hH (hF.push hF.top))
    · cases h
  | dup2 =>
    simp only [sem] at h
    split at h
    · next v w S' =>
      cases h
      simp only [okLen, beq_iff_eq] at hl; subst hl
      exact lv_dup2_11 hx hb hd (cv_cat adr v) (cv_cat adr w) (kont H locs ls hM hH ((hF.push hF.tail.top).push hF.top))
    · cases h
  | pop =>
    simp only [sem] at h
    split at h
    · next v S' =>
      cases h
      simp only [okLen, beq_iff_eq] at hl; subst hl
      exact lv_pop hx hb hd (cv_cat adr v) (kont H locs ls hM hH hF.tail)
    · cases h
  | goto off =>
    simp only [sem] at h
    split at h
    · next ho =>
      cases h
      simp only [okLen, beq_iff_eq] at hl; subst hl
      exact lv_goto hx hb hd (by unfold tgt; omega) (kont H locs ls hM hH hF)
    · cases h
  | _ => sorry
