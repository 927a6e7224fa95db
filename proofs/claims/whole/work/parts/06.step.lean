/-! One step of the small machine is a step of the machine. -/
def soM (M : aM) (L : Nat) (xs : Nat → Int32) : Prop := (∀ q j, inR (M q j)) ∧ M 0 4000 = (L : Int) ∧ L ≤ 3072 ∧ ∀ j, j < L → M 0 j = (xs j).toInt
def soH (D : va_G) (cA : Nat → ClassId) (adr : Nat → Nat) (A : Nat → Prop) (s : State) (M : aM) (H : Heap) (locs : List Loc) : Prop := va_P D vwCl (wsOf adr cA M) H ∧ va_D A (wsOf adr cA M) ∧ va_S A s.heap H locs
def soX (s : State) (A : Nat → Prop) (adr : Nat → Nat) (L : Nat) (xs : Nat → Int32) : Prop := va_X (adr 0) L xs s s.heap ∧ adr 0 < s.heap.size ∧ ¬ A (adr 0) ∧ ∀ q, s.heap.size ≤ q → A q
def tysO (cA : Nat → ClassId) : List (ClassId × FieldType) := [(cA 0, .int), (cA 1, .byte)]
def soK (p : Program) (s : State) (m : MethodId) (args : Array Value) (c : Code) (O : String) (cc : ByteArray) (nL : Nat) (D : va_G) (cA : Nat → ClassId) : Prop := p.tables.exec = Jvm.exec ∧ c.code = cc ∧ c.maxLocals = nL ∧ s.vm.findClass O = some m.cls ∧ (∀ w ∈ gT, w.before args s = true) ∧ nOK s ∧ va_K D vwCl (tysO cA) s
theorem up_M {M : aM} {L : Nat} {xs : Nat → Int32} {q j : Nat} {x : Int} (h : soM M L xs) (hx : inR x) : soM (upM M (q + 1) j x) L xs := by
  refine ⟨fun a b => ?_, ?_, h.2.2.1, fun i hi => ?_⟩
  · by_cases e : a = q + 1
    · subst e
      rw [up_eq]
      dsimp only
      split
      · exact hx
      · exact h.1 _ _
    · rw [up_ne e]; exact h.1 _ _
  · rw [up_ne (by omega)]; exact h.2.1
  · rw [up_ne (by omega)]; exact h.2.2.2 i hi
theorem lay_pos {q : Nat} {e : aK} (h : lay0[q]? = some e) (hn : ∀ n, e ≠ .inr (2, n)) : ∃ k, q = k + 1 := by
  cases q with
  | zero => exact absurd (Option.some.inj (lay_zero.symm.trans h)).symm (hn 0)
  | succ k => exact ⟨k, rfl⟩
def rfV (adr : Nat → Nat) (x : Int) : Option Nat → Value
  | some q => .ref (adr q)
  | none => .int (Int32.ofInt x)
theorem fld_at {adr : Nat → Nat} {refs : List (Option Nat)} {row : Nat → Int} {j : Nat} {o : Option Nat} (h : refs[j]? = some o) : ((List.range refs.length).map (fldOf adr refs row))[j]? = some (rfV adr (row j) o) := by
  have hl : j < refs.length := (List.getElem?_eq_some_iff.mp h).1
  rw [List.getElem?_map, List.getElem?_range hl]
  cases o <;> simp [fldOf, rfV, h]
set_option maxHeartbeats 8000000 in
set_option maxRecDepth 20000 in
theorem so_step {p : Program} {l : Launch} {e : Env} {R : Room} {s : State} {m : MethodId} {args : Array Value} {below : List Frame} {meth : Method} {c : Code} {H : Heap} {locs : List Loc} {cells slots : Nat} {Q : State → Prop}
    {O : String} {cc : ByteArray} {nL on : Nat} {D : va_G} {cA : Nat → ClassId} {adr : Nat → Nat} {A : Nat → Prop} {L : Nat} {xs : Nat → Int32} {own : Nat → Nat} {bz : Bool} {pc n : Nat} {i : Instr} {P : aP} {Lo St : List aV} {M : aM} {ls : Array Slot}
    {pc' : Nat} {Lo' St' : List aV} {M' : aM}
    (K : soK p s m args c O cc nL D cA) (hO : aCls[on]? = some O) (X : soX s A adr L xs) (hR : 2 ≤ R.frames ∧ 60 ≤ R.locals ∧ cells ≤ R.cells ∧ slots ≤ R.slots)
    (hd : decode cc pc = .ok (i, n)) (hl : okLen i n = true) (hp : ∀ k, idxOf i = some k → ∃ (nb : Bool) (z : Nat), chkP on (k, P, nb, z) = true)
    (h : sem own bz pc i P Lo St M = aGo pc' Lo' St' M') (hM : soM M L xs) (hH : soH D cA adr A s M H locs) (hF : soF adr nL Lo St ls)
    (kont : ∀ (H' : Heap) (locs' : List Loc) (ls' : Array Slot), soM M' L xs → soH D cA adr A s M' H' locs' → soF adr nL Lo' St' ls' → W p l e R s m args below meth c H' locs' cells slots Q (F0 m pc' ls' (St'.map (cv adr)))) :
    W p l e R s m args below meth c H locs cells slots Q (F0 m pc ls (St.map (cv adr))) := by
  obtain ⟨hx, hb, hml, hown, hts, hN, hK⟩ := K
  cases i with
  | iconst k =>
    simp only [sem] at h
    split at h
    · next hk =>
      cases h
      simp only [okLen, beq_iff_eq] at hl; subst hl
      exact lv_iconst hx hb hd rfl (kont H locs ls hM hH (hF.push (v := .inl k) ⟨by omega, by omega⟩))
    · cases h
  | bipush k =>
    simp only [sem] at h
    split at h
    · next hk =>
      cases h
      simp only [okLen, beq_iff_eq] at hl; subst hl
      refine lv_bipush hx hb hd ?_ (kont H locs ls hM hH (hF.push (v := .inl k) ⟨by omega, by omega⟩))
      apply Int32.toInt_inj.mp
      rw [Int8.toInt_toInt32, Int8.toInt_ofInt_of_le (by omega) (by omega), i_toI ⟨by omega, by omega⟩]
    · cases h
  | sipush k =>
    simp only [sem] at h
    split at h
    · next hk =>
      cases h
      simp only [okLen, beq_iff_eq] at hl; subst hl
      refine lv_sipush hx hb hd ?_ (kont H locs ls hM hH (hF.push (v := .inl k) ⟨by omega, by omega⟩))
      apply Int32.toInt_inj.mp
      rw [Int16.toInt_toInt32, Int16.toInt_ofInt_of_le (by omega) (by omega), i_toI ⟨by omega, by omega⟩]
    · cases h
  | ldc k =>
    simp only [sem] at h
    split at h
    · next hk =>
      cases h
      simp only [okLen, beq_iff_eq] at hl; subst hl
      obtain ⟨nb, z, hz⟩ := hp k rfl
      simp only [chkP, hO, hk.1] at hz
      exact lv_ldc hx hb hown (hts _ (chkW_in hz)) hd (kont H locs ls hM hH (hF.push (v := .inl P.2.2.2) ⟨hk.2.1, hk.2.2⟩))
    · cases h
  | ldc_w k =>
    simp only [sem] at h
    split at h
    · next hk =>
      cases h
      simp only [okLen, beq_iff_eq] at hl; subst hl
      obtain ⟨nb, z, hz⟩ := hp k rfl
      simp only [chkP, hO, hk.1] at hz
      exact lv_ldcw hx hb hown (hts _ (chkW_in hz)) hd (kont H locs ls hM hH (hF.push (v := .inl P.2.2.2) ⟨hk.2.1, hk.2.2⟩))
    · cases h
  | iload k =>
    simp only [sem] at h
    split at h
    · next x hv =>
      cases h
      simp only [okLen, beq_iff_eq] at hl; subst hl
      exact lv_iload hx hb hd (hF.read hv rfl) (kont H locs ls hM hH (hF.push (v := .inl x) (hF.get hv)))
    · cases h
  | iload_n k =>
    simp only [sem] at h
    split at h
    · next x hv =>
      cases h
      simp only [okLen, beq_iff_eq] at hl; subst hl
      exact lv_iload_n hx hb hd rfl (hF.read hv rfl) (kont H locs ls hM hH (hF.push (v := .inl x) (hF.get hv)))
    · cases h
  | aload k =>
    simp only [sem] at h
    split at h
    · next x hv =>
      cases h
      simp only [okLen, beq_iff_eq] at hl; subst hl
      exact lv_aload hx hb hd (hF.read hv rfl) (kont H locs ls hM hH (hF.push (v := .inr (some x)) trivial))
    · cases h
  | aload_n k =>
    simp only [sem] at h
    split at h
    · next x hv =>
      cases h
      simp only [okLen, beq_iff_eq] at hl; subst hl
      exact lv_aload_n hx hb hd rfl (hF.read hv rfl) (kont H locs ls hM hH (hF.push (v := .inr (some x)) trivial))
    · cases h
  | istore k =>
    simp only [sem] at h
    split at h
    · next x S' =>
      split at h
      · next hk =>
        cases h
        simp only [okLen, beq_iff_eq] at hl; subst hl
        exact lv_istore hx hb hd hF.1 (by rw [← hF.2.1]; exact hk) rfl (fun ls' h' => kont H locs ls' hM hH (hF.tail.put h' hF.top rfl))
      · cases h
    · cases h
  | istore_n k =>
    simp only [sem] at h
    split at h
    · next x S' =>
      split at h
      · next hk =>
        cases h
        simp only [okLen, beq_iff_eq] at hl; subst hl
        exact lv_istore_n hx hb hd rfl hF.1 (by rw [← hF.2.1]; exact hk) rfl (fun ls' h' => kont H locs ls' hM hH (hF.tail.put h' hF.top rfl))
      · cases h
    · cases h
  | astore k =>
    simp only [sem] at h
    split at h
    · next x S' =>
      split at h
      · next hk =>
        cases h
        simp only [okLen, beq_iff_eq] at hl; subst hl
        exact lv_astore hx hb hd hF.1 (by rw [← hF.2.1]; exact hk) rfl (fun ls' h' => kont H locs ls' hM hH (hF.tail.put h' hF.top rfl))
      · cases h
    · cases h
  | astore_n k =>
    simp only [sem] at h
    split at h
    · next x S' =>
      split at h
      · next hk =>
        cases h
        simp only [okLen, beq_iff_eq] at hl; subst hl
        exact lv_astore_n hx hb hd rfl hF.1 (by rw [← hF.2.1]; exact hk) rfl (fun ls' h' => kont H locs ls' hM hH (hF.tail.put h' hF.top rfl))
      · cases h
    · cases h
  | iinc k d =>
    simp only [sem] at h
    split at h
    · next x hv =>
      cases h
      simp only [okLen, beq_iff_eq] at hl; subst hl
      obtain ⟨kk, hkk⟩ := List.getElem?_of_mem (lvl_in (adr := adr) hv rfl)
      exact lv_iinc hx hb hd hF.1 hkk (by rw [← Int32.ofInt_add, ← w_of]) (by rw [← hF.2.1]; exact (List.getElem?_eq_some_iff.mp hv).1) rfl (fun ls' h' => kont H locs ls' hM hH (hF.put (v := .inl (wr (x + d))) h' (w_in _) rfl))
    · cases h
  | iadd =>
    simp only [sem] at h
    split at h
    · next y x S' =>
      cases h
      simp only [okLen, beq_iff_eq] at hl; subst hl
      exact lv_iadd hx hb hd (by rw [i_add]; exact kont H locs ls hM hH (hF.tail.tail.push (v := .inl (wr (x + y))) (w_in _)))
    · cases h
  | isub =>
    simp only [sem] at h
    split at h
    · next y x S' =>
      cases h
      simp only [okLen, beq_iff_eq] at hl; subst hl
      exact lv_isub hx hb hd (by rw [i_sub]; exact kont H locs ls hM hH (hF.tail.tail.push (v := .inl (wr (x - y))) (w_in _)))
    · cases h
  | imul =>
    simp only [sem] at h
    split at h
    · next y x S' =>
      cases h
      simp only [okLen, beq_iff_eq] at hl; subst hl
      exact lv_imul hx hb hd (by rw [i_mul]; exact kont H locs ls hM hH (hF.tail.tail.push (v := .inl (wr (x * y))) (w_in _)))
    · cases h
  | idiv =>
    simp only [sem] at h
    split at h
    · next y x S' =>
      split at h
      · cases h
      · next hy =>
        cases h
        simp only [okLen, beq_iff_eq] at hl; subst hl
        have hy' : ¬ Int32.ofInt y = 0 := fun q => hy ((i_eq hF.top inR_0).mp q)
        exact lv_idiv hx hb hd hy' (by rw [i_div hF.tail.top hF.top]; exact kont H locs ls hM hH (hF.tail.tail.push (v := .inl (wr (x.tdiv y))) (w_in _)))
    · cases h
  | irem =>
    simp only [sem] at h
    split at h
    · next y x S' =>
      split at h
      · cases h
      · next hy =>
        cases h
        simp only [okLen, beq_iff_eq] at hl; subst hl
        have hy' : ¬ Int32.ofInt y = 0 := fun q => hy ((i_eq hF.top inR_0).mp q)
        exact lv_irem hx hb hd hy' (by rw [i_rem hF.tail.top hF.top]; exact kont H locs ls hM hH (hF.tail.tail.push (v := .inl (x.tmod y)) (i_remR hF.tail.top hF.top)))
    · cases h
  | ineg =>
    simp only [sem] at h
    split at h
    · next x S' =>
      cases h
      simp only [okLen, beq_iff_eq] at hl; subst hl
      exact lv_ineg hx hb hd (by rw [i_neg]; exact kont H locs ls hM hH (hF.tail.push (v := .inl (wr (-x))) (w_in _)))
    · cases h
  | iand =>
    simp only [sem] at h
    split at h
    · next y x S' =>
      cases h
      simp only [okLen, beq_iff_eq] at hl; subst hl
      exact lv_iand hx hb hd (by rw [← i_bit (Int32.ofInt x &&& Int32.ofInt y)]; exact kont H locs ls hM hH (hF.tail.tail.push (v := .inl (iAnd x y)) (i_inR _)))
    · cases h
  | ior =>
    simp only [sem] at h
    split at h
    · next y x S' =>
      cases h
      simp only [okLen, beq_iff_eq] at hl; subst hl
      exact lv_ior hx hb hd (by rw [← i_bit (Int32.ofInt x ||| Int32.ofInt y)]; exact kont H locs ls hM hH (hF.tail.tail.push (v := .inl (iOr x y)) (i_inR _)))
    · cases h
  | ixor =>
    simp only [sem] at h
    split at h
    · next y x S' =>
      cases h
      simp only [okLen, beq_iff_eq] at hl; subst hl
      exact lv_ixor hx hb hd (by rw [← i_bit (Int32.ofInt x ^^^ Int32.ofInt y)]; exact kont H locs ls hM hH (hF.tail.tail.push (v := .inl (iXor x y)) (i_inR _)))
    · cases h
  | ishl =>
    simp only [sem] at h
    split at h
    · next y x S' =>
      cases h
      simp only [okLen, beq_iff_eq] at hl; subst hl
      exact lv_ishl hx hb hd (by rw [← i_bit (Int32.ofInt x <<< (Int32.ofInt y &&& 31))]; exact kont H locs ls hM hH (hF.tail.tail.push (v := .inl (iShl x y)) (i_inR _)))
    · cases h
  | ishr =>
    simp only [sem] at h
    split at h
    · next y x S' =>
      cases h
      simp only [okLen, beq_iff_eq] at hl; subst hl
      exact lv_ishr hx hb hd (by rw [← i_bit (Int32.ofInt x >>> (Int32.ofInt y &&& 31))]; exact kont H locs ls hM hH (hF.tail.tail.push (v := .inl (iShr x y)) (i_inR _)))
    · cases h
  | iushr =>
    simp only [sem] at h
    split at h
    · next y x S' =>
      cases h
      simp only [okLen, beq_iff_eq] at hl; subst hl
      exact lv_iushr hx hb hd (i_bit _).symm (kont H locs ls hM hH (hF.tail.tail.push (v := .inl (iUshr x y)) (i_inR _)))
    · cases h
  | i2b =>
    simp only [sem] at h
    split at h
    · next x S' =>
      cases h
      simp only [okLen, beq_iff_eq] at hl; subst hl
      exact lv_i2b hx hb hd (i_b8 x) (kont H locs ls hM hH (hF.tail.push (v := .inl (b8 x)) (b8_in _)))
    · cases h
  | dup =>
    simp only [sem] at h
    split at h
    · next v S' =>
      cases h
      simp only [okLen, beq_iff_eq] at hl; subst hl
      exact lv_dup hx hb hd (cv_cat adr v) (kont H locs ls hM hH (hF.push hF.top))
    · cases h
  | dup2 =>
    simp only [sem] at h
    split at h
    · next v w S' =>
      cases h
      simp only [okLen, beq_iff_eq] at hl; subst hl
      exact lv_dup2_11 hx hb hd (cv_cat adr v) (cv_cat adr w) (kont H locs ls hM hH ((hF.push hF.tail.top).push hF.top))
    · cases h
  | pop =>
    simp only [sem] at h
    split at h
    · next v S' =>
      cases h
      simp only [okLen, beq_iff_eq] at hl; subst hl
      exact lv_pop hx hb hd (cv_cat adr v) (kont H locs ls hM hH hF.tail)
    · cases h
  | goto off =>
    simp only [sem] at h
    split at h
    · next ho =>
      cases h
      simp only [okLen, beq_iff_eq] at hl; subst hl
      exact lv_goto hx hb hd (by unfold tgt; omega) (kont H locs ls hM hH hF)
    · cases h
  | ifCond cd off =>
    cases cd with
    | eq =>
      simp only [sem] at h
      split at h
      · next x S' =>
        unfold aBr at h
        split at h
        · next ho =>
          cases h
          simp only [okLen, beq_iff_eq] at hl; subst hl
          have hq := i_eq hF.top inR_0
          refine lv_if_eq hx hb hd (tgt := tgt pc off) (by unfold tgt; omega) (fun q => ?_) (fun q => ?_)
          · rw [if_pos (hq.mp q)] at kont; exact kont H locs ls hM hH hF.tail
          · rw [if_neg (fun z => q (hq.mpr z))] at kont; exact kont H locs ls hM hH hF.tail
        · cases h
      · cases h
    | ne =>
      simp only [sem] at h
      split at h
      · next x S' =>
        unfold aBr at h
        split at h
        · next ho =>
          cases h
          simp only [okLen, beq_iff_eq] at hl; subst hl
          have hq := i_eq hF.top inR_0
          refine lv_if_ne hx hb hd (tgt := tgt pc off) (by unfold tgt; omega) (fun q => ?_) (fun q => ?_)
          · rw [if_pos (fun z => q (hq.mpr z))] at kont; exact kont H locs ls hM hH hF.tail
          · rw [if_neg (fun z => z (hq.mp q))] at kont; exact kont H locs ls hM hH hF.tail
        · cases h
      · cases h
    | lt =>
      simp only [sem] at h
      split at h
      · next x S' =>
        unfold aBr at h
        split at h
        · next ho =>
          cases h
          simp only [okLen, beq_iff_eq] at hl; subst hl
          have hq := i_lt hF.top inR_0
          refine lv_if_lt hx hb hd (tgt := tgt pc off) (by unfold tgt; omega) (fun q => ?_) (fun q => ?_)
          · rw [if_pos (hq.mp q)] at kont; exact kont H locs ls hM hH hF.tail
          · rw [if_neg (fun z => q (hq.mpr z))] at kont; exact kont H locs ls hM hH hF.tail
        · cases h
      · cases h
    | ge =>
      simp only [sem] at h
      split at h
      · next x S' =>
        unfold aBr at h
        split at h
        · next ho =>
          cases h
          simp only [okLen, beq_iff_eq] at hl; subst hl
          have hq := i_le inR_0 hF.top
          refine lv_if_ge hx hb hd (tgt := tgt pc off) (by unfold tgt; omega) (fun q => ?_) (fun q => ?_)
          · rw [if_pos (hq.mp q)] at kont; exact kont H locs ls hM hH hF.tail
          · rw [if_neg (fun z => q (hq.mpr z))] at kont; exact kont H locs ls hM hH hF.tail
        · cases h
      · cases h
    | gt =>
      simp only [sem] at h
      split at h
      · next x S' =>
        unfold aBr at h
        split at h
        · next ho =>
          cases h
          simp only [okLen, beq_iff_eq] at hl; subst hl
          have hq := i_lt inR_0 hF.top
          refine lv_if_gt hx hb hd (tgt := tgt pc off) (by unfold tgt; omega) (fun q => ?_) (fun q => ?_)
          · rw [if_pos (hq.mp q)] at kont; exact kont H locs ls hM hH hF.tail
          · rw [if_neg (fun z => q (hq.mpr z))] at kont; exact kont H locs ls hM hH hF.tail
        · cases h
      · cases h
    | le =>
      simp only [sem] at h
      split at h
      · next x S' =>
        unfold aBr at h
        split at h
        · next ho =>
          cases h
          simp only [okLen, beq_iff_eq] at hl; subst hl
          have hq := i_le hF.top inR_0
          refine lv_if_le hx hb hd (tgt := tgt pc off) (by unfold tgt; omega) (fun q => ?_) (fun q => ?_)
          · rw [if_pos (hq.mp q)] at kont; exact kont H locs ls hM hH hF.tail
          · rw [if_neg (fun z => q (hq.mpr z))] at kont; exact kont H locs ls hM hH hF.tail
        · cases h
      · cases h
  | if_icmp cd off =>
    cases cd with
    | eq =>
      simp only [sem] at h
      split at h
      · next y x S' =>
        unfold aBr at h
        split at h
        · next ho =>
          cases h
          simp only [okLen, beq_iff_eq] at hl; subst hl
          have hq := i_eq hF.tail.top hF.top
          refine lv_icmp_eq hx hb hd (tgt := tgt pc off) (by unfold tgt; omega) (fun q => ?_) (fun q => ?_)
          · rw [if_pos (hq.mp q)] at kont; exact kont H locs ls hM hH hF.tail.tail
          · rw [if_neg (fun z => q (hq.mpr z))] at kont; exact kont H locs ls hM hH hF.tail.tail
        · cases h
      · cases h
    | ne =>
      simp only [sem] at h
      split at h
      · next y x S' =>
        unfold aBr at h
        split at h
        · next ho =>
          cases h
          simp only [okLen, beq_iff_eq] at hl; subst hl
          have hq := i_eq hF.tail.top hF.top
          refine lv_icmp_ne hx hb hd (tgt := tgt pc off) (by unfold tgt; omega) (fun q => ?_) (fun q => ?_)
          · rw [if_pos (fun z => q (hq.mpr z))] at kont; exact kont H locs ls hM hH hF.tail.tail
          · rw [if_neg (fun z => z (hq.mp q))] at kont; exact kont H locs ls hM hH hF.tail.tail
        · cases h
      · cases h
    | lt =>
      simp only [sem] at h
      split at h
      · next y x S' =>
        unfold aBr at h
        split at h
        · next ho =>
          cases h
          simp only [okLen, beq_iff_eq] at hl; subst hl
          have hq := i_lt hF.tail.top hF.top
          refine lv_icmp_lt hx hb hd (tgt := tgt pc off) (by unfold tgt; omega) (fun q => ?_) (fun q => ?_)
          · rw [if_pos (hq.mp q)] at kont; exact kont H locs ls hM hH hF.tail.tail
          · rw [if_neg (fun z => q (hq.mpr z))] at kont; exact kont H locs ls hM hH hF.tail.tail
        · cases h
      · cases h
    | ge =>
      simp only [sem] at h
      split at h
      · next y x S' =>
        unfold aBr at h
        split at h
        · next ho =>
          cases h
          simp only [okLen, beq_iff_eq] at hl; subst hl
          have hq := i_le hF.top hF.tail.top
          refine lv_icmp_ge hx hb hd (tgt := tgt pc off) (by unfold tgt; omega) (fun q => ?_) (fun q => ?_)
          · rw [if_pos (hq.mp q)] at kont; exact kont H locs ls hM hH hF.tail.tail
          · rw [if_neg (fun z => q (hq.mpr z))] at kont; exact kont H locs ls hM hH hF.tail.tail
        · cases h
      · cases h
    | gt =>
      simp only [sem] at h
      split at h
      · next y x S' =>
        unfold aBr at h
        split at h
        · next ho =>
          cases h
          simp only [okLen, beq_iff_eq] at hl; subst hl
          have hq := i_lt hF.top hF.tail.top
          refine lv_icmp_gt hx hb hd (tgt := tgt pc off) (by unfold tgt; omega) (fun q => ?_) (fun q => ?_)
          · rw [if_pos (hq.mp q)] at kont; exact kont H locs ls hM hH hF.tail.tail
          · rw [if_neg (fun z => q (hq.mpr z))] at kont; exact kont H locs ls hM hH hF.tail.tail
        · cases h
      · cases h
    | le =>
      simp only [sem] at h
      split at h
      · next y x S' =>
        unfold aBr at h
        split at h
        · next ho =>
          cases h
          simp only [okLen, beq_iff_eq] at hl; subst hl
          have hq := i_le hF.tail.top hF.top
          refine lv_icmp_le hx hb hd (tgt := tgt pc off) (by unfold tgt; omega) (fun q => ?_) (fun q => ?_)
          · rw [if_pos (hq.mp q)] at kont; exact kont H locs ls hM hH hF.tail.tail
          · rw [if_neg (fun z => q (hq.mpr z))] at kont; exact kont H locs ls hM hH hF.tail.tail
        · cases h
      · cases h
  | tableswitch d lo hi offs =>
    simp only [sem] at h
    split at h
    · next x S' =>
      have e := i_toI hF.top
      split at h
      · next ho =>
        split at h
        · next hz =>
          cases h
          exact lv_tableOut hx hb hd (by rw [e]; exact ho) (by unfold tgt; omega) (kont H locs ls hM hH hF.tail)
        · cases h
      · next ho =>
        split at h
        · next off hoff =>
          split at h
          · next hz =>
            cases h
            exact lv_tableIn hx hb hd (by rw [e]; omega) (by rw [e]; omega) (by rw [e]; exact hoff) (by unfold tgt; omega) (kont H locs ls hM hH hF.tail)
          · cases h
        · cases h
    · cases h
  | lookupswitch d ps =>
    simp only [sem] at h
    split at h
    · next x S' =>
      have e := i_toI hF.top
      split at h
      · next ho =>
        cases h
        exact lv_lookup hx hb hd ho.1 (by rw [e]) (by have := ho.2; unfold tgt; omega) (kont H locs ls hM hH hF.tail)
      · cases h
    · cases h
  | getfield k =>
    simp only [sem] at h
    split at h
    · next q S' =>
      split at h
      · next c0 refs hq =>
        split at h
        · next hc =>
          subst hc
          obtain ⟨q', rfl⟩ := lay_pos hq (by intro n e; cases e)
          obtain ⟨z, hz, hzn⟩ := lay_obj _ _ _ hq
          obtain ⟨C, T, N⟩ := z
          obtain ⟨cw, cty, cnm, caC⟩ := cl_ok _ _ hz
          dsimp only at cw cty cnm caC hzn
          subst hzn
          simp only [okLen, beq_iff_eq] at hl; subst hl
          obtain ⟨nb, zz, hpk⟩ := hp k rfl
          have hws := ws_get (adr := adr) (cA := cA) (M := M) hq
          have go : ∀ (o : Option Nat), refs[P.2.1]? = some o → P.2.2.1 ≤ 2 → W p l e R s m args below meth c H locs cells slots Q (F0 m (pc + 3) ls (rfV adr (M (q' + 1) P.2.1) o :: S'.map (cv adr))) → W p l e R s m args below meth c H locs cells slots Q (F0 m pc ls (.ref (adr (q' + 1)) :: S'.map (cv adr))) := by
            intro o ho hk2 kk
            have hk3 : P.2.2.1 = 0 ∨ P.2.2.1 = 1 ∨ P.2.2.1 = 2 := by omega
            have hlt : P.2.1 < refs.length := (List.getElem?_eq_some_iff.mp ho).1
            have hch : (if nb = true then chkN zz (.fieldLinkNest O k C (T P.2.1).2.1 (T P.2.1).2.2.1 hostN) else chkW zz (.fieldLink O k C (T P.2.1).2.1 (T P.2.1).2.2.1)) = true ∧ (T P.2.1).1 = C := by
              rcases hk3 with h3 | h3 | h3 <;> (simp only [chkP, hO, h3, hz, Bool.and_eq_true, beq_iff_eq] at hpk; exact ⟨hpk.1.1.2, hpk.1.2⟩)
            obtain ⟨h5, h6⟩ := hch
            cases nb with
            | true =>
              simp only [if_true] at h5
              exact va_getN hx hb hts cw hown hK hH.1 q' hws hz P.2.1 hlt (va_Nw.use rfl (hN _ (chkN_in h5))) (fun x hx => by rw [h6] at hx; exact hx) (fld_at ho) hd kk
            | false =>
              simp only [Bool.false_eq_true, if_false] at h5
              exact va_get hx hb hts cw hown hK hH.1 q' hws hz P.2.1 hlt (hts _ (chkW_in h5)) (fun x hx => by rw [h6] at hx; exact hx) (fld_at ho) hd kk
          split at h
          · next q2 ho =>
            split at h
            · next hk2 =>
              cases h
              exact go _ ho (by omega) (kont H locs ls hM hH (hF.tail.push (v := .inr (some q2)) trivial))
            · cases h
          · next ho =>
            split at h
            · next hk2 =>
              cases h
              exact go _ ho (by omega) (kont H locs ls hM hH (hF.tail.push (v := .inl (M (q' + 1) P.2.1)) (hM.1 _ _)))
            · cases h
          · cases h
        · cases h
      · cases h
    · cases h
  | putfield k =>
    simp only [sem] at h
    split at h
    · next x q S' =>
      split at h
      · next c0 refs hq =>
        split at h
        · next hc =>
          obtain ⟨hc, ho, hk2⟩ := hc
          subst hc
          cases h
          obtain ⟨q', rfl⟩ := lay_pos hq (by intro n e; cases e)
          obtain ⟨z, hz, hzn⟩ := lay_obj _ _ _ hq
          obtain ⟨C, T, N⟩ := z
          obtain ⟨cw, cty, cnm, caC⟩ := cl_ok _ _ hz
          dsimp only at cw cty cnm caC hzn
          subst hzn
          simp only [okLen, beq_iff_eq] at hl; subst hl
          obtain ⟨nb, zz, hpk⟩ := hp k rfl
          have hws := ws_get (adr := adr) (cA := cA) (M := M) hq
          have hlt : P.2.1 < refs.length := (List.getElem?_eq_some_iff.mp ho).1
          have hch : (if nb = true then chkN zz (.fieldLinkNest O k C (T P.2.1).2.1 (T P.2.1).2.2.1 hostN) else chkW zz (.fieldLink O k C (T P.2.1).2.1 (T P.2.1).2.2.1)) = true ∧ (T P.2.1).1 = C ∧ (T P.2.1).2.2.2 = false ∧ narrow (clTy P.1 P.2.1) (.int (Int32.ofInt x)) = .int (Int32.ofInt x) ∧ fits (clTy P.1 P.2.1) (.int (Int32.ofInt x)) = true := by
            rcases hk2 with h3 | ⟨h3, hx01⟩
            · simp only [chkP, hO, h3, hz, Bool.and_eq_true, beq_iff_eq, if_true, Bool.not_eq_true'] at hpk
              exact ⟨hpk.1.1.2, hpk.1.2, hpk.2.2, by rw [hpk.2.1]; rfl, by rw [hpk.2.1]; rfl⟩
            · simp only [chkP, hO, h3, hz, Bool.and_eq_true, beq_iff_eq, if_true, Nat.one_ne_zero, if_false, Bool.not_eq_true'] at hpk
              refine ⟨hpk.1.1.2, hpk.1.2, hpk.2.2, ?_, ?_⟩ <;> rw [hpk.2.1] <;> rcases hx01 with rfl | rfl <;> decide
          obtain ⟨h5, h6, h7, h8, h9⟩ := hch
          have e0 : (wsOf adr cA M).set q' (adr (q' + 1), .inr (P.1, ((List.range refs.length).map (fldOf adr refs (M (q' + 1)))).set P.2.1 (.int (Int32.ofInt x)))) = wsOf adr cA (upM M (q' + 1) P.2.1 x) := by
            rw [← cell_put (cA := cA) ho]
            have := ws_set (adr := adr) (cA := cA) (M := M) (M' := upM M (q' + 1) P.2.1 x) hq (fun a ha => up_ne ha)
            rw [up_eq] at this
            exact this
          have e1 : (wsOf adr cA M).set q' (adr (q' + 1), .inr (P.1, ((List.range refs.length).map (fldOf adr refs (M (q' + 1)))).set P.2.1 (cv adr (.inl x)))) = wsOf adr cA (upM M (q' + 1) P.2.1 x) := e0
          cases nb with
          | true =>
            simp only [if_true] at h5
            refine va_putN hx hb hts cw (clTy P.1) cty cnm hown hK hH.1 hH.2.1 hH.2.2 q' hws hz P.2.1 hlt (va_Nw.use rfl (hN _ (chkN_in h5))) (fun x hx => by rw [h6] at hx; exact hx) h7 (cty _ hlt) h8 h9 (by simpa using hlt) hd (fun H1 locs1 a1 a2 a3 => ?_)
            rw [e1] at a1 a2
            exact kont H1 locs1 ls (up_M hM hF.top) ⟨a1, a2, a3⟩ hF.tail.tail
          | false =>
            simp only [Bool.false_eq_true, if_false] at h5
            refine va_put hx hb hts cw (clTy P.1) cty cnm hown hK hH.1 hH.2.1 hH.2.2 q' hws hz P.2.1 hlt (hts _ (chkW_in h5)) (fun x hx => by rw [h6] at hx; exact hx) h7 (cty _ hlt) h8 h9 (by simpa using hlt) hd (fun H1 locs1 a1 a2 a3 => ?_)
            rw [e1] at a1 a2
            exact kont H1 locs1 ls (up_M hM hF.top) ⟨a1, a2, a3⟩ hF.tail.tail
        · cases h
      · cases h
    · cases h
  | iaload =>
    simp only [sem] at h
    split at h
    · next j q S' =>
      have hj : inR j := hF.top
      split at h
      · next t n0 hq =>
        simp only [okLen, beq_iff_eq] at hl; subst hl
        split at h
        · next ht =>
          subst ht
          split at h
          · next hr =>
            cases h
            obtain ⟨q', rfl⟩ := lay_pos hq (by intro n e; cases e)
            have hws := ws_get (adr := adr) (cA := cA) (M := M) hq
            refine va_iald hx hb hK hH.1 q' 0 hws rfl (i_vp hj hr.1 hr.2) hd ?_
            rw [i_cl hj]
            exact kont H locs ls hM hH (hF.tail.tail.push (v := .inl (M (q' + 1) j.toNat)) (hM.1 _ _))
          · cases h
        · split at h
          · next ht =>
            obtain ⟨rfl, rfl⟩ := ht
            split at h
            · next hr =>
              cases h
              rw [hM.2.1] at hr
              refine va_sld hx hb X.1 X.2.1 X.2.2.1 hH.2.2 (i_vp hj hr.1 hr.2) hd ?_
              rw [i_cl hj, ← i_bit (xs j.toNat), ← hM.2.2.2 j.toNat (by omega)]
              exact kont H locs ls hM hH (hF.tail.tail.push (v := .inl (M 0 j.toNat)) (hM.1 _ _))
            · cases h
          · cases h
      · cases h
    · cases h
  | baload =>
    simp only [sem] at h
    split at h
    · next j q S' =>
      have hj : inR j := hF.top
      split at h
      · next t n0 hq =>
        simp only [okLen, beq_iff_eq] at hl; subst hl
        split at h
        · next ht =>
          subst ht
          split at h
          · next hr =>
            cases h
            obtain ⟨q', rfl⟩ := lay_pos hq (by intro n e; cases e)
            have hws := ws_get (adr := adr) (cA := cA) (M := M) hq
            refine va_bald hx hb hK hH.1 q' 1 hws rfl (i_vp hj hr.1 hr.2) hd ?_
            rw [i_cl hj]
            exact kont H locs ls hM hH (hF.tail.tail.push (v := .inl (M (q' + 1) j.toNat)) (hM.1 _ _))
          · cases h
        · cases h
      · cases h
    · cases h
  | iastore =>
    simp only [sem] at h
    split at h
    · next x j q S' =>
      have hj : inR j := hF.tail.top
      split at h
      · next t n0 hq =>
        simp only [okLen, beq_iff_eq] at hl; subst hl
        split at h
        · next ht =>
          subst ht
          split at h
          · next hr =>
            cases h
            obtain ⟨q', rfl⟩ := lay_pos hq (by intro n e; cases e)
            have hws := ws_get (adr := adr) (cA := cA) (M := M) hq
            refine va_iast hx hb hK hH.1 hH.2.1 hH.2.2 q' 0 hws rfl (i_vp hj hr.1 hr.2) hd (fun H1 locs1 a1 a2 a3 => ?_)
            rw [i_cl hj] at a1 a2
            have e1 : (wsOf adr cA M).set q' (adr (q' + 1), .inl (cA 0, n0, .inl (upd (fun b => Int32.ofInt (M (q' + 1) b)) j.toNat (Int32.ofInt x)))) = wsOf adr cA (upM M (q' + 1) j.toNat x) := by
              rw [← cell_arr (adr := adr)]
              have := ws_set (adr := adr) (cA := cA) (M := M) (M' := upM M (q' + 1) j.toNat x) hq (fun a ha => up_ne ha)
              rw [up_eq] at this
              exact this
            rw [e1] at a1 a2
            exact kont H1 locs1 ls (up_M hM hF.top) ⟨a1, a2, a3⟩ hF.tail.tail.tail
          · cases h
        · cases h
      · cases h
    · cases h
  | bastore =>
    simp only [sem] at h
    split at h
    · next x j q S' =>
      have hj : inR j := hF.tail.top
      split at h
      · next t n0 hq =>
        simp only [okLen, beq_iff_eq] at hl; subst hl
        split at h
        · next ht =>
          subst ht
          split at h
          · next hr =>
            cases h
            obtain ⟨q', rfl⟩ := lay_pos hq (by intro n e; cases e)
            have hws := ws_get (adr := adr) (cA := cA) (M := M) hq
            refine va_bast hx hb hK hH.1 hH.2.1 hH.2.2 q' 1 hws rfl (i_vp hj hr.1 hr.2) hd (fun H1 locs1 a1 a2 a3 => ?_)
            rw [i_cl hj, vp_nar_byte, i_b8] at a1 a2
            have e1 : (wsOf adr cA M).set q' (adr (q' + 1), .inl (cA 1, n0, .inl (upd (fun b => Int32.ofInt (M (q' + 1) b)) j.toNat (Int32.ofInt (b8 x))))) = wsOf adr cA (upM M (q' + 1) j.toNat (b8 x)) := by
              rw [← cell_arr (adr := adr)]
              have := ws_set (adr := adr) (cA := cA) (M := M) (M' := upM M (q' + 1) j.toNat (b8 x)) hq (fun a ha => up_ne ha)
              rw [up_eq] at this
              exact this
            rw [e1] at a1 a2
            exact kont H1 locs1 ls (up_M hM (b8_in x)) ⟨a1, a2, a3⟩ hF.tail.tail.tail
          · cases h
        · cases h
      · cases h
    · cases h
  | arraylength =>
    simp only [sem] at h
    split at h
    · next S' =>
      cases h
      simp only [okLen, beq_iff_eq] at hl; subst hl
      refine va_slen hx hb X.1 X.2.1 X.2.2.1 hH.2.2 hd ?_
      have e1 : (Int32.ofNat L) = Int32.ofInt (M 0 4000) := by rw [hM.2.1, Int32.ofInt_eq_ofNat]
      rw [e1]
      exact kont H locs ls hM hH (hF.tail.push (v := .inl (M 0 4000)) (hM.1 _ _))
    · cases h
  | invokestatic k =>
    simp only [sem] at h
    simp only [okLen, beq_iff_eq] at hl; subst hl
    obtain ⟨nb, zz, hpk⟩ := hp k rfl
    have hsz : c.maxLocals = ls.size := by rw [hml]; exact hF.1.1.symm
    split at h
    · next hk =>
      simp only [chkP, hO, hk] at hpk
      split at h
      · next n2 dp q1 sp q0 S' =>
        split at h
        · next n0 n1 hq0 hq1 =>
          split at h
          · next hr =>
            cases h
            obtain ⟨⟨r1, r2, r3, r4, r5⟩, r6⟩ := hr
            have i1 : inR n2 := hF.top
            have i2 : inR dp := hF.tail.top
            have i3 : inR sp := hF.tail.tail.tail.top
            obtain ⟨a0, rfl⟩ := lay_pos hq0 (by intro n e; cases e)
            obtain ⟨a1, rfl⟩ := lay_pos hq1 (by intro n e; cases e)
            have hw0 := ws_get (adr := adr) (cA := cA) (M := M) hq0
            have hw1 := ws_get (adr := adr) (cA := cA) (M := M) hq1
            refine va_copyi hx hb hsz hown (hts _ (chkW_in hpk)) (hts _ acp_words.1) (hts _ acp_words.2.1) (hts _ acp_words.2.2) hK hH.1 hH.2.1 hH.2.2 a0 a1 0 0 hw0 hw1 rfl rfl rfl
              (fun q => absurd ((i_lt i3 inR_0).mp q) (by omega)) (fun q => absurd ((i_lt i2 inR_0).mp q) (by omega)) (fun q => absurd ((i_lt i1 inR_0).mp q) (by omega)) (by rw [i_cl i3, i_cl i1]; omega) (by rw [i_cl i2, i_cl i1]; omega) (fun _ _ => rfl) (by omega)
              (by rw [cv_sum]; have : nativeFrameWords "java/lang/System" "arraycopy" 5 ≤ 41 := by decide +kernel
                  omega) hd (fun H1 locs1 b1 b2 b3 => ?_)
            rw [i_cl i1, i_cl i2, i_cl i3] at b1 b2
            have e1 : (wsOf adr cA M).set a1 (adr (a1 + 1), .inl (cA 0, n1, .inl (va_cpy (fun j => Int32.ofInt (M (a0 + 1) j)) (fun j => Int32.ofInt (M (a1 + 1) j)) sp.toNat dp.toNat n2.toNat))) = wsOf adr cA (cpM M (a0 + 1) (a1 + 1) sp.toNat dp.toNat n2.toNat) := by
              have := ws_set (adr := adr) (cA := cA) (M := M) (M' := cpM M (a0 + 1) (a1 + 1) sp.toNat dp.toNat n2.toNat) hq1 (fun a ha => by unfold cpM; rw [if_neg ha])
              rw [← this]
              congr 2
              unfold cellOf cpM
              rw [if_pos rfl]
              dsimp only
              congr 4
              funext b
              unfold va_cpy
              by_cases hb : dp.toNat ≤ b ∧ b < dp.toNat + n2.toNat
              · rw [if_pos hb, if_pos hb]
              · rw [if_neg hb, if_neg hb]
            rw [e1] at b1 b2
            refine kont H1 locs1 ls ⟨fun a b => ?_, ?_, hM.2.2.1, fun i hi => ?_⟩ ⟨b1, b2, b3⟩ hF.tail.tail.tail.tail.tail
            · unfold cpM
              split
              · dsimp only
                split <;> exact hM.1 _ _
              · exact hM.1 _ _
            · unfold cpM; rw [if_neg (by omega)]; exact hM.2.1
            · unfold cpM; rw [if_neg (by omega)]; exact hM.2.2.2 i hi
          · cases h
        · cases h
      · cases h
    · split at h
      · next hk =>
        simp only [chkP, hO, hk] at hpk
        split at h
        · next y x S' =>
          split at h
          · next hr =>
            cases h
            refine va_mmax hx hb hsz hown (hts _ (chkW_in hpk)) (hts _ math_words.1.1) (hts _ math_words.1.2.2) (hts _ math_words.2.1) (by omega) (by rw [cv_sum]; omega) hR.2.2.1 hR.2.2.2 hd ?_
            have e1 : (if Int32.ofInt x < Int32.ofInt y then Int32.ofInt y else Int32.ofInt x) = Int32.ofInt (max x y) := by
              by_cases hc : x < y
              · rw [if_pos ((i_lt hF.tail.top hF.top).mpr hc), Int.max_eq_right (by omega)]
              · rw [if_neg (fun q => hc ((i_lt hF.tail.top hF.top).mp q)), Int.max_eq_left (by omega)]
            have e2 : (if Int32.ofInt x < Int32.ofInt y then (Value.int (Int32.ofInt y)) else (Value.int (Int32.ofInt x))) = Value.int (Int32.ofInt (max x y)) := by rw [← e1]; split <;> rfl
            have hm : inR (max x y) := by
              have h1 : inR x := hF.tail.top
              have h2 : inR y := hF.top
              rcases Int.le_total x y with q | q
              · rw [Int.max_eq_right q]; exact h2
              · rw [Int.max_eq_left q]; exact h1
            rw [e1]
            exact kont H locs ls hM hH (hF.tail.tail.push (v := .inl (max x y)) hm)
          · cases h
        · cases h
      · split at h
        · next hk =>
          simp only [chkP, hO, hk] at hpk
          split at h
          · next y x S' =>
            split at h
            · next hr =>
              cases h
              refine va_mmin hx hb hsz hown (hts _ (chkW_in hpk)) (hts _ math_words.1.2.1) (hts _ math_words.1.2.2) (hts _ math_words.2.2) (by omega) (by rw [cv_sum]; omega) hR.2.2.1 hR.2.2.2 hd ?_
              have e1 : (if Int32.ofInt y < Int32.ofInt x then Int32.ofInt y else Int32.ofInt x) = Int32.ofInt (min x y) := by
                by_cases hc : y < x
                · rw [if_pos ((i_lt hF.top hF.tail.top).mpr hc), Int.min_eq_right (by omega)]
                · rw [if_neg (fun q => hc ((i_lt hF.top hF.tail.top).mp q)), Int.min_eq_left (by omega)]
              have hm : inR (min x y) := by
                have h1 : inR x := hF.tail.top
                have h2 : inR y := hF.top
                rcases Int.le_total x y with q | q
                · rw [Int.min_eq_left q]; exact h1
                · rw [Int.min_eq_right q]; exact h2
              rw [e1]
              exact kont H locs ls hM hH (hF.tail.tail.push (v := .inl (min x y)) hm)
            · cases h
          · cases h
        · split at h <;> cases h
  | invokevirtual k =>
    simp only [sem] at h
    repeat' split at h
    all_goals cases h
  | ireturn =>
    simp only [sem] at h
    repeat' split at h
    all_goals cases h
  | return_ =>
    simp only [sem] at h
    repeat' split at h
    all_goals cases h
  | _ => simp only [sem] at h; cases h
