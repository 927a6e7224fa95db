/-! What the small machine answers the machine answers. -/
theorem mRt_ok : ∀ (c : Nat) (z : ByteArray × MethodName × Nat × Nat × Nat × Option FieldType × Bool), mTab[c]? = some z → z.2.2.2.2.2.1 = none ∨ z.2.2.2.2.2.1 = some .int ∨ z.2.2.2.2.2.1 = some .boolean := by
  intro c z h
  have hall : mTab.all (fun z => z.2.2.2.2.2.1 == none || (z.2.2.2.2.2.1 == some .int || z.2.2.2.2.2.1 == some .boolean)) = true := by decide +kernel
  have h1 := List.all_eq_true.mp hall _ (List.mem_of_getElem? h)
  simpa using h1
set_option maxHeartbeats 4000000 in
theorem sem_call {own : Nat → Nat} {bz : Bool} {pc : Nat} {i : Instr} {P : aP} {Lo St : List aV} {M : aM} {d pc' : Nat} {a S' : List aV} (h : sem own bz pc i P Lo St M = .inr (.inl (d, a, pc', S'))) :
    (d = P.1 ∧ a = (St.take P.2.1).reverse ∧ pc' = pc + 3 ∧ S' = St.drop P.2.1 ∧ P.2.1 ≤ St.length ∧ St.length ≤ P.2.1 + 8) ∧
    ((∃ k, i = .invokestatic k ∧ P.2.2.1 = 10) ∨ ∃ k q rest c refs, i = .invokevirtual k ∧ P.2.2.1 = 11 ∧ a = .inr (some q) :: rest ∧ lay0[q]? = some (.inl (c, refs)) ∧ c = own P.1) := by
  cases i with
  | invokestatic k =>
    simp only [sem] at h
    split at h
    · repeat' split at h
      all_goals cases h
    · split at h
      · repeat' split at h
        all_goals cases h
      · split at h
        · repeat' split at h
          all_goals cases h
        · split at h
          · next hk =>
            cases h
            exact ⟨⟨rfl, rfl, rfl, rfl, hk.2.1, hk.2.2⟩, Or.inl ⟨k, rfl, hk.1⟩⟩
          · cases h
  | invokevirtual k =>
    simp only [sem] at h
    split at h
    · next hk =>
      split at h
      · next q rest hr =>
        split at h
        · next c refs hq =>
          split at h
          · next hc =>
            cases h
            exact ⟨⟨rfl, rfl, rfl, rfl, hk.2.1, hk.2.2⟩, Or.inr ⟨k, q, rest, c, refs, rfl, hk.1, hr, hq, hc⟩⟩
          · cases h
        · cases h
      · cases h
    · cases h
  | ifCond cd off =>
    cases cd <;> simp only [sem, aBr] at h <;> (repeat' split at h) <;> cases h
  | if_icmp cd off =>
    cases cd <;> simp only [sem, aBr] at h <;> (repeat' split at h) <;> cases h
  | _ =>
    simp only [sem] at h
    repeat' split at h
    all_goals cases h
set_option maxHeartbeats 4000000 in
theorem sem_ret {own : Nat → Nat} {bz : Bool} {pc : Nat} {i : Instr} {P : aP} {Lo St : List aV} {M : aM} {v : Option aV} (h : sem own bz pc i P Lo St M = .inr (.inr v)) :
    (i = .ireturn ∧ ∃ x, St = [.inl x] ∧ v = some (.inl x) ∧ (bz = true → x = 0 ∨ x = 1)) ∨ (i = .return_ ∧ St = [] ∧ v = none) := by
  cases i with
  | ireturn =>
    simp only [sem] at h
    split at h
    · next x =>
      split at h
      · next hb =>
        cases h
        exact Or.inl ⟨rfl, x, rfl, rfl, hb⟩
      · cases h
    · cases h
  | return_ =>
    simp only [sem] at h
    split at h
    · cases h
      exact Or.inr ⟨rfl, rfl, rfl⟩
    · cases h
  | ifCond cd off =>
    cases cd <;> simp only [sem, aBr] at h <;> (repeat' split at h) <;> cases h
  | if_icmp cd off =>
    cases cd <;> simp only [sem, aBr] at h <;> (repeat' split at h) <;> cases h
  | _ =>
    simp only [sem] at h
    repeat' split at h
    all_goals cases h
def retI : Option aV → Instr
  | none => .return_
  | some _ => .ireturn
def retOK (cm : Nat) : Option aV → Prop
  | none => True
  | some (.inl x) => inR x ∧ (mBz cm = true → x = 0 ∨ x = 1)
  | some (.inr _) => False
def soW (n : Nat) : Prop := ∀ (p : Program) (l : Launch) (e : Env) (R : Room) (s : State) (m : MethodId) (args : Array Value) (below : List Frame) (meth : Method) (c : Code) (Q : State → Prop) (cells slots : Nat) (D : va_G) (cA : Nat → ClassId) (adr : Nat → Nat) (A : Nat → Prop) (L : Nat) (xs : Nat → Int32) (r cm : Nat)
    (z : ByteArray × MethodName × Nat × Nat × Nat × Option FieldType × Bool) (O : String) (v : Option aV) (M' : aM),
  mTab[cm]? = some z → aCls[z.2.2.1]? = some O → soK p s m args c O z.1 z.2.2.2.1 D cA → soX s A adr L xs → (r + 2 ≤ R.frames ∧ 60 * (r + 1) ≤ R.locals ∧ cells ≤ R.cells ∧ slots ≤ R.slots) →
  (∀ (pcR : Nat) (lsR : Array Slot) (H' : Heap) (locs' : List Loc), decode z.1 pcR = .ok (retI v, 1) → retOK cm v → soM M' L xs → soH D cA adr A s M' H' locs' → W p l e R s m args below meth c H' locs' cells slots Q (F0 m pcR lsR (v.toList.map (cv adr)))) →
  ∀ (pc : Nat) (Lo St : List aV) (M : aM) (H : Heap) (locs : List Loc) (ls : Array Slot), ex n r cm pc Lo St M = some (v, M') → soM M L xs → soH D cA adr A s M H locs → soF adr z.2.2.2.1 Lo St ls → W p l e R s m args below meth c H locs cells slots Q (F0 m pc ls (St.map (cv adr)))
def soRm (r : Nat) : Room := { frames := r + 2, cells := 0, slots := 0, locals := 60 * (r + 1) }
def soB (D : va_G) (cA : Nat → ClassId) (adr : Nat → Nat) (M' : aM) (A : Nat → Prop) (t : State) : Prop := va_P D vwCl (wsOf adr cA M') t.heap ∧ va_K D vwCl (tysO cA) t ∧ va_D A (wsOf adr cA M')
def soPc (D : va_G) (cA : Nat → ClassId) (adr : Nat → Nat) (L : Nat) (xs : Nat → Int32) (M : aM) (a : List aV) (sz : Nat) : Array Value → State → Prop := va_Pc (a.map (cv adr)) (fun U => U.heap.size = sz ∧ va_P D vwCl (wsOf adr cA M) U.heap ∧ va_K D vwCl (tysO cA) U ∧ va_D (fun _ => True) (wsOf adr cA M) ∧ nOK U ∧ va_X (adr 0) L xs U U.heap ∧ adr 0 < sz ∧ ∀ (k : Nat) (q : Nat × va_E), (wsOf adr cA M)[k]? = some q → q.1 ≠ adr 0)
def soQ (D : va_G) (cA : Nat → ClassId) (adr : Nat → Nat) (L : Nat) (xs : Nat → Int32) (M' : aM) (A : Nat → Prop) : Option aV → Array Value → State → Outcome → State → Prop
  | none => va_Qv (fun _ : Unit => soM M' L xs) (fun _ t => soB D cA adr M' A t) A
  | some w => va_Qi (fun x (_ : Unit) => Value.int x = cv adr w ∧ okS w ∧ soM M' L xs) (fun _ t => soB D cA adr M' A t) A
theorem soPc_blind {D : va_G} {cA : Nat → ClassId} {adr : Nat → Nat} {L : Nat} {xs : Nat → Int32} {M : aM} {a : List aV} {sz : Nat} : FrameBlind (soPc D cA adr L xs M a sz) := by
  intro b U g mk q
  obtain ⟨q0, q1, q2, q3, q4, q5, q6, q7, q8⟩ := q
  exact ⟨q0, q1, q2, va_K.moved (u := U) (U := U.calling g mk b) (Vm.Alike.refl U.vm) q3, q4, nOK.same (s := U) (U := U.calling g mk b) rfl q5, va_X.moved (u := U) (U := U.calling g mk b) (Vm.Alike.refl U.vm) q6, q7, q8⟩
theorem args_in : ∀ (vs : List Value) (k : Nat), (∀ v ∈ vs, v.category = 1) → ∀ (i : Nat) (w : Value), vs[i]? = some w → (k + i, w) ∈ lv_args k vs := by
  intro vs
  induction vs with
  | nil => intro k _ i w h; simp at h
  | cons v vs ih =>
    intro k hc i w h
    have hv : v.category = 1 := hc v List.mem_cons_self
    simp only [lv_args, hv, show ¬ (1 = 2) by decide, if_false]
    cases i with
    | zero => simp at h; subst h; exact List.mem_cons_self
    | succ i =>
      rw [List.getElem?_cons_succ] at h
      have := ih (k + 1) (fun u hu => hc u (List.mem_cons_of_mem _ hu)) i w h
      rw [show k + (i + 1) = k + 1 + i by omega]
      exact List.mem_cons_of_mem _ this
theorem sl_len : ∀ (vs : List Value), (∀ v ∈ vs, v.category = 1) → (lg_sl vs).length = vs.length := by
  intro vs
  induction vs with
  | nil => intro _; rfl
  | cons v vs ih =>
    intro hc
    have hv : v.category = 1 := hc v List.mem_cons_self
    have := ih (fun u hu => hc u (List.mem_cons_of_mem _ hu))
    simp only [lg_sl, List.flatMap_cons, List.length_append, List.length_cons] at this ⊢
    rw [this, if_neg (by rw [hv]; decide)]
    simp
    omega
set_option maxHeartbeats 4000000 in
theorem so_met {n : Nat} (hW : soW n) (l : Launch) {d : Nat} {a : List aV} {M M' : aM} {v : Option aV} {L sz : Nat} {xs : Nat → Int32} (D : va_G) (cA : Nat → ClassId) (adr : Nat → Nat)
    {b : ByteArray} {y : MethodName} {o ml na : Nat} {rt : Option FieldType} {st : Bool} (ht : mTab[d]? = some (b, y, o, ml, na, rt, st)) (hpl : plainName y.cls = true) (hO : aCls[o]? = some y.cls)
    (hex : ex n (rkF d a) d 0 (padF d a) [] M = some (v, M')) (hM : soM M L xs) (ha : a.length ≤ ml) (hS : ∀ v ∈ a, okS v) (hsh : mVd d = true ∧ v = none ∨ mVd d = false ∧ ∃ x, v = some (.inl x)) :
    Met l y (Jvm.Cond.code y b ml rt :: gT) (soRm (rkF d a)) (soPc D cA adr L xs M a sz) (soQ D cA adr L xs M' (va_A (wsOf adr cA M) sz) v) 0 0 (va_A (wsOf adr cA M) sz) := by
  refine Met.ofW (cc := b) (maxL := ml) (ret := rt) hpl rfl ?_
  intro p e s m args below meth c s₁ B hml hv
  obtain ⟨rfl, hsz, hP, hK, hD0, hN, hX, hb0, hne⟩ := hv
  have hx := B.exec
  have hb := B.bytes
  have hr := B.returns
  have hts := atoms_spec (ws := Jvm.Cond.code y b ml rt :: gT) B.pre
  have hown : s.vm.findClass y.cls = some m.cls := findClass_of_methodNamed B.named
  have hlocks := B.notSynchronized
  subst hsz
  have hD := hD0.self (sz := s.heap.size)
  have hcat : ∀ u ∈ a.map (cv adr), u.category = 1 := fun u hu => by
    obtain ⟨w, -, rfl⟩ := List.mem_map.mp hu
    exact cv_cat adr w
  have hslen : (lg_sl (a.map (cv adr))).length ≤ ml := by rw [sl_len _ hcat, List.length_map]; exact ha
  have hl := lv_entry (a.map (cv adr)) (n := ml) hslen
  rw [lg_entry_eq]
  generalize (lg_sl (a.map (cv adr)) ++ List.replicate (ml - (lg_sl (a.map (cv adr))).length) Slot.unset).toArray = ls at hl ⊢
  have hmx : mMx d = ml := by simp [mMx, ht]
  have hpad : (padF d a).length = ml := by simp [padF, hmx]; omega
  have hF : soF adr ml (padF d a) [] ls := by
    refine ⟨lvh_mono hl fun q hq => ?_, hpad, fun u hu => ?_, fun u hu => absurd hu List.not_mem_nil⟩
    · obtain ⟨i, w⟩ := q
      obtain ⟨u, h1, h2⟩ := lvl_of hq
      unfold padF at h1
      by_cases hi : i < a.length
      · rw [List.getElem?_append_left hi] at h1
        have h3 := args_in (a.map (cv adr)) 0 hcat i w (by
          rw [List.getElem?_map, h1]
          have := okS_cvo (adr := adr) (hS u (List.mem_of_getElem? h1))
          rw [h2] at this
          simpa using this.symm)
        simpa using h3
      · rw [List.getElem?_append_right (by omega)] at h1
        have := List.eq_of_mem_replicate (List.mem_of_getElem? h1)
        subst this
        cases h2
    · unfold padF at hu
      rcases List.mem_append.mp hu with h | h
      · exact okS_V (hS u h)
      · rw [List.eq_of_mem_replicate h]; trivial
  have hA0 : ¬ va_A (wsOf adr cA M) s.heap.size (adr 0) := by
    rintro (⟨k, e', hk⟩ | h)
    · exact hne k _ hk rfl
    · omega
  refine hW p l e (soRm (rkF d a)) s m _ below meth c _ 0 0 D cA adr (va_A (wsOf adr cA M) s.heap.size) L xs (rkF d a) d _ y.cls v M' ht hO ⟨hx, hb, hml, hown, fun w h => hts w (List.mem_cons_of_mem _ h), hN, hK⟩ ⟨hX, hb0, hA0, fun q h => Or.inr h⟩ ⟨Nat.le_refl _, Nat.le_refl _, Nat.le_refl _, Nat.le_refl _⟩ ?_ 0 (padF d a) [] M s.heap [] ls hex hM ⟨hP, hD, va_S.rf⟩ hF
  intro pcR lsR H' locs' hdec hok hM' hH'
  rcases hsh with ⟨hv, rfl⟩ | ⟨hv, x, rfl⟩
  · have hrt : rt = none := by simpa [mVd, ht] using hv
    subst hrt
    exact W.vret hx hb hr (fun t ht hW => ⟨⟨(), rfl, hM', by rw [ht]; exact hH'.1, va_K.moved hW.alike hK, hH'.2.1⟩, hH'.2.2.F ht⟩) hH'.2.2.2.2 hdec
  · have hrt : ∃ ty, rt = some ty ∧ narrow ty (.int (Int32.ofInt x)) = .int (Int32.ofInt x) := by
      rcases mRt_ok _ _ ht with h | h | h
      · dsimp only at h; subst h; simp [mVd, ht] at hv
      · dsimp only at h; subst h; exact ⟨.int, rfl, rfl⟩
      · dsimp only at h; subst h
        refine ⟨.boolean, rfl, ?_⟩
        have hbz : mBz d = true := by simp [mBz, ht]
        rcases hok.2 hbz with rfl | rfl <;> decide
    obtain ⟨ty, rfl, hn⟩ := hrt
    exact W.zret hx hb hr hn (fun t ht hW => ⟨⟨Int32.ofInt x, (), rfl, ⟨rfl, hok.1, hM'⟩, by rw [ht]; exact hH'.1, va_K.moved hW.alike hK, hH'.2.1⟩, hH'.2.2.F ht⟩) hH'.2.2.2.2 hdec
theorem mem_called {c : Nat} (h : mCalled.contains c = true) : mOK c := mok_all c (by simpa using h)
set_option maxHeartbeats 8000000 in
theorem so_all : ∀ n, soW n := by
  intro n
  induction n with
  | zero =>
    intro p l e R s m args below meth c Q cells slots D cA adr A L xs r cm z O v M' hz hO K X hR hret pc Lo St M H locs ls hex hM hH hF
    cases hex
  | succ n ih =>
    intro p l e R s m args below meth c Q cells slots D cA adr A L xs r cm z O v M' hz hO K X hR hret pc Lo St M H locs ls hex hM hH hF
    rw [ex] at hex
    cases hst : stp cm pc Lo St M with
    | inl o =>
      rw [hst] at hex
      cases o with
      | none => cases hex
      | some q =>
        obtain ⟨pc', L', S', M1⟩ := q
        dsimp only at hex
        unfold stp at hst
        split at hst
        · next i P hi =>
          obtain ⟨z', n', hz', hdec, hlen, hpool⟩ := rfI_ok hi
          cases hz.symm.trans hz'
          exact so_step K hO X ⟨by omega, by omega, hR.2.2.1, hR.2.2.2⟩ hdec hlen hpool hst hM hH hF (fun H' locs' ls' hM' hH' hF' => ih p l e R s m args below meth c Q cells slots D cA adr A L xs r cm z O v M' hz hO K X hR hret pc' L' S' M1 H' locs' ls' hex hM' hH' hF')
        · cases hst
    | inr o =>
      rw [hst] at hex
      cases o with
      | inr w =>
        dsimp only at hex
        cases hex
        unfold stp at hst
        split at hst
        · next i P hi =>
          obtain ⟨z', n', hz', hdec, hlen, hpool⟩ := rfI_ok hi
          cases hz.symm.trans hz'
          rcases sem_ret hst with ⟨rfl, x, rfl, rfl, hb⟩ | ⟨rfl, rfl, rfl⟩
          · simp only [okLen, beq_iff_eq] at hlen; subst hlen
            exact hret pc ls H locs hdec ⟨hF.top, hb⟩ hM hH
          · simp only [okLen, beq_iff_eq] at hlen; subst hlen
            exact hret pc ls H locs hdec trivial hM hH
        · cases hst
      | inl q =>
        obtain ⟨d, a, pc', S'⟩ := q
        dsimp only at hex
        split at hex
        · next hrk =>
          rw [Option.bind_eq_some_iff] at hex
          obtain ⟨⟨w, M1⟩, hq, hc⟩ := hex
          unfold stp at hst
          split at hst
          · next i P hi =>
            obtain ⟨z', n', hz', hdec, hlen, hpool⟩ := rfI_ok hi
            cases hz.symm.trans hz'
            obtain ⟨⟨rfl, rfl, rfl, rfl, hna, hnb⟩, hkind⟩ := sem_call hst
            have hK := K
            obtain ⟨hx, hb, hml, hown, hts, hN, hKK⟩ := hK
            have hSt : St = (St.take P.2.1).reverse.reverse ++ St.drop P.2.1 := by rw [List.reverse_reverse, List.take_append_drop]
            have halen : (St.take P.2.1).reverse.length = P.2.1 := by rw [List.length_reverse, List.length_take]; omega
            have haS : ∀ u ∈ (St.take P.2.1).reverse, okS u := fun u hu => hF.2.2.2 u (List.mem_of_mem_take (List.mem_reverse.mp hu))
            have hdS : ∀ u ∈ St.drop P.2.1, okS u := fun u hu => hF.2.2.2 u (List.mem_of_mem_drop hu)
            have hFd : soF adr z.2.2.2.1 Lo (St.drop P.2.1) ls := ⟨hF.1, hF.2.1, hF.2.2.1, hdS⟩
            have hroom : ((List.map (cv adr) (St.drop P.2.1)).map fun v => v.category).sum ≤ 8 := by rw [cv_sum, List.length_drop]; omega
            have hsh : mVd P.1 = true ∧ w = none ∨ mVd P.1 = false ∧ ∃ x, w = some (.inl x) := by
              unfold cnt at hc
              split at hc
              · next h1 h2 => exact Or.inl ⟨h1, h2⟩
              · next x h1 h2 => exact Or.inr ⟨h1, x, h2⟩
              · cases hc
            -- the cells of the one that is called are all of them
            have hPc : ∀ U : State, U.heap = H → s.WarmedH U.vm → soPc D cA adr L xs M (St.take P.2.1).reverse H.size ((St.take P.2.1).reverse.map (cv adr)).toArray U := by
              intro U hU hW
              refine ⟨rfl, by rw [hU], by rw [hU]; exact hH.1, va_K.moved hW.alike hKK, hH.2.1.weaken (fun _ _ _ _ => trivial), nOK.warm hW hN, ?_, Nat.lt_of_lt_of_le X.2.1 hH.2.2.1, ?_⟩
              · rw [hU]
                exact va_X.moved hW.alike (X.1.kept (hH.2.2.2.1 _ X.2.1 X.2.2.1))
              · intro k q hk e0
                exact X.2.2.1 (e0 ▸ hH.2.1.2 k q hk)
            have hfree : ∀ q, va_A (wsOf adr cA M) H.size q → A q := by
              rintro q (⟨k, e', hk⟩ | h)
              · exact hH.2.1.2 k _ hk
              · exact X.2.2.2 q (Nat.le_trans hH.2.2.1 h)
            -- behind the call
            have hgo : ∀ (u : List aV) (t : State) (H1 : Heap) (locs1 : List Loc), cnt (mVd P.1) (w, M1) (fun v M' => ex n r cm (pc + 3) Lo (v ++ St.drop P.2.1) M') = some (v, M') → w.toList = u → (∀ q ∈ u, okS q) → soM M1 L xs → t.heap = H1 → s.vm.Alike t.vm → soB D cA adr M1 (va_A (wsOf adr cA M) H.size) t → va_S A s.heap H1 locs1 →
                W p l e R s m args below meth c H1 locs1 cells slots Q (F0 m (pc + 3) ls ((u ++ St.drop P.2.1).map (cv adr))) := by
              intro u t H1 locs1 hc' hu huS hM1 ht hvm hB hS1
              have hc2 : ex n r cm (pc + 3) Lo (u ++ St.drop P.2.1) M1 = some (v, M') := by
                rcases hsh with ⟨h1, rfl⟩ | ⟨h1, x, rfl⟩
                · rw [h1] at hc'; subst hu; exact hc'
                · rw [h1] at hc'; subst hu; exact hc'
              obtain ⟨b1, b2, b3⟩ := hB
              rw [ht] at b1
              exact ih p l e R s m args below meth c Q cells slots D cA adr A L xs r cm z O v M' hz hO K X hR hret (pc + 3) Lo _ M1 H1 locs1 ls hc2 hM1 ⟨b1, b3.weaken (fun k q _ h => hfree _ h), hS1⟩ ⟨hFd.1, hFd.2.1, hFd.2.2.1, fun q hq => (List.mem_append.mp hq).elim (huS q) (hdS q)⟩
            obtain ⟨hcell, hcells⟩ : cells + 0 ≤ R.cells ∧ slots + 0 ≤ R.slots := ⟨hR.2.2.1, hR.2.2.2⟩
            have hA1 : ∀ q, q < H.size → va_A (wsOf adr cA M) H.size q → A q := fun q _ h => hfree q h
            -- the call's run, by the contract, gives what is behind it
            have hend : va_Run p l e R s m args below meth c H locs cells slots 0 0 (F0 m pc ls (St.map (cv adr))) ((St.drop P.2.1).map (cv adr)) (soQ D cA adr L xs M1 (va_A (wsOf adr cA M) H.size) w ((St.take P.2.1).reverse.map (cv adr)).toArray) (va_A (wsOf adr cA M) H.size) → W p l e R s m args below meth c H locs cells slots Q (F0 m pc ls (St.map (cv adr))) := by
              intro hrun
              rcases hsh with ⟨h1, rfl⟩ | ⟨h1, x, rfl⟩
              · exact va_callv (a := (List.map (cv adr) (St.take P.2.1).reverse).toArray) (A1 := va_A (wsOf adr cA M) H.size) hrun hH.2.2 hA1 hfree (fun u t H1 locs1 ht hvm hp hB _ _ hS1 => hgo [] t H1 locs1 hc rfl (fun q h => absurd h List.not_mem_nil) hp ht hvm hB hS1)
              · exact va_calli (a := (List.map (cv adr) (St.take P.2.1).reverse).toArray) (A1 := va_A (wsOf adr cA M) H.size) hrun hH.2.2 hA1 hfree (fun x2 u t H1 locs1 ht hvm hp hB _ _ hS1 => by
                  obtain ⟨e1, e2, e3⟩ := hp
                  rw [e1]
                  exact hgo [.inl x] t H1 locs1 hc rfl (fun q h => by rw [List.mem_singleton.mp h]; exact e2) e3 ht hvm hB hS1)
            have hrm : (soRm (rkF P.1 (St.take P.2.1).reverse)).frames + 1 ≤ R.frames := by show rkF P.1 _ + 2 + 1 ≤ _; omega
            rcases hkind with ⟨k, rfl, hk⟩ | ⟨k, q, rest, c0, refs, rfl, hk, hrq, hlq, hc0⟩
            · simp only [okLen, beq_iff_eq] at hlen; subst hlen
              obtain ⟨nb, zz, hpk⟩ := hpool k rfl
              simp only [chkP, hO, hk] at hpk
              split at hpk
              · next z2 hz2 =>
                simp only [Bool.and_eq_true] at hpk
                obtain ⟨⟨⟨hp1, hp2⟩, hp3⟩, hp4⟩ := hpk
                obtain ⟨b, y, o, ml, na, rt, st, hmt, hcode, hini, hpl, hOy, hdesc, hml2, hml20, hinst, hstat⟩ := mem_called hp1
                cases hz2.symm.trans hmt
                dsimp only at hp2 hp3 hp4
                simp only [beq_iff_eq] at hp2
                subst hp3
                have hMet := so_met ih l (sz := H.size) D cA adr hmt hpl hOy hq hM (by rw [halen]; omega) haS hsh
                have hloc : 8 + (ml + 11) + (soRm (rkF P.1 (St.take P.2.1).reverse)).locals ≤ R.locals := by show 8 + (ml + 11) + 60 * (rkF P.1 _ + 1) ≤ _; omega
                have hg : GoodIn gT (Jvm.Cond.code y b ml rt :: gT) := fun w' h' => by
                  rcases List.mem_cons.mp h' with rfl | h'
                  · exact gT_good _ hcode
                  · exact gT_good _ h'
                have hpre : PreS s H (soPc D cA adr L xs M (St.take P.2.1).reverse H.size) ((St.take P.2.1).reverse.map (cv adr)) := ⟨soPc_blind, hPc⟩
                have hstk : (St.map (cv adr)) = ((St.take P.2.1).reverse.map (cv adr)).reverse ++ (St.drop P.2.1).map (cv adr) := by
                  rw [← List.map_reverse, ← List.map_append, ← hSt]
                refine hend ?_
                cases nb with
                | true =>
                  simp only [if_true] at hp4
                  exact va_runSN (n := na) ⟨hx, hb, hml, hown, hts⟩ hMet ⟨va_cnB (bytes := b) (ret := rt) na hts hg rfl rfl rfl (hN _ (chkN_in hp4)) (hts _ hini) ⟨hdesc.1, hdesc.2.1, by rw [hdesc.2.2]; rfl⟩ ⟨hrm, hloc⟩, hts _ (hstat rfl), trivial⟩ hpre rfl (by rw [List.length_map, halen, hp2]) hF.1.1 hstk (lv_room hroom) hdec ⟨hcell, hcells⟩
                | false =>
                  simp only [Bool.false_eq_true, if_false] at hp4
                  exact va_runS (n := na) ⟨hx, hb, hml, hown, hts⟩ hMet ⟨callB_of na hts hg rfl rfl rfl (hts _ hini) (hts _ (chkW_in hp4)) ⟨hdesc.1, hdesc.2.1, by rw [hdesc.2.2]; rfl⟩ ⟨hrm, hloc⟩, hts _ (hstat rfl)⟩ hpre rfl (by rw [List.length_map, halen, hp2]) hF.1.1 hstk (lv_room hroom) hdec ⟨hcell, hcells⟩
              · cases hpk
            · simp only [okLen, beq_iff_eq] at hlen; subst hlen
              obtain ⟨nb, zz, hpk⟩ := hpool k rfl
              simp only [chkP, hO, hk] at hpk
              split at hpk
              · next z2 hz2 =>
                simp only [Bool.and_eq_true] at hpk
                obtain ⟨⟨⟨hp1, hp2⟩, hp3⟩, hp4⟩ := hpk
                obtain ⟨b, y, o, ml, na, rt, st, hmt, hcode, hini, hpl, hOy, hdesc, hml2, hml20, hinst, hstat⟩ := mem_called hp1
                cases hz2.symm.trans hmt
                dsimp only at hp2 hp3 hp4
                simp only [beq_iff_eq, Bool.not_eq_true'] at hp2 hp3
                subst hp3
                obtain ⟨hna1, hi1, hi2⟩ := hinst rfl
                have hMet := so_met ih l (sz := H.size) D cA adr hmt hpl hOy hq hM (by rw [halen]; omega) haS hsh
                have hloc : 8 + (ml + 11) + (soRm (rkF P.1 (St.take P.2.1).reverse)).locals ≤ R.locals := by show 8 + (ml + 11) + 60 * (rkF P.1 _ + 1) ≤ _; omega
                have hg : GoodIn gT (Jvm.Cond.code y b ml rt :: gT) := fun w' h' => by
                  rcases List.mem_cons.mp h' with rfl | h'
                  · exact gT_good _ hcode
                  · exact gT_good _ h'
                obtain ⟨q', rfl⟩ := lay_pos hlq (by intro n e; cases e)
                obtain ⟨z3, hz3, hzn⟩ := lay_obj _ _ _ hlq
                obtain ⟨C, T, N⟩ := z3
                obtain ⟨cw, cty, cnm, caC⟩ := cl_ok _ _ hz3
                dsimp only at caC
                have hCy : C = y.cls := by
                  have h1 : mOwn P.1 = o := by simp [mOwn, hmt]
                  rw [hc0, h1, hOy] at caC
                  exact (Option.some.inj caC).symm
                have hws := ws_get (adr := adr) (cA := cA) (M := M) hlq
                rw [hrq] at hPc hSt halen hMet hloc hrm
                have hpre : PreV s H y.cls (adr (q' + 1)) (soPc D cA adr L xs M (.inr (some (q' + 1)) :: rest) H.size) (rest.map (cv adr)) := by
                  refine ⟨soPc_blind, ?_, hPc⟩
                  have := va_recv hKK hH.1 hz3 hws
                  dsimp only at this
                  rw [hCy] at this
                  exact this
                have hstk : (St.map (cv adr)) = (rest.map (cv adr)).reverse ++ .ref (adr (q' + 1)) :: (St.drop P.2.1).map (cv adr) := by
                  conv => lhs; rw [hSt]
                  simp [cv]
                rw [hrq] at hend
                refine hend ?_
                cases nb with
                | _ => exact va_runV (n := na - 1) ⟨hx, hb, hml, hown, hts⟩ hMet ⟨callB_of (na - 1) hts hg rfl rfl rfl (hts _ hini) (hts _ (chkW_in hp4)) ⟨hdesc.1, hdesc.2.1, by rw [hdesc.2.2]; rfl⟩ ⟨hrm, hloc⟩, hts _ hi1, hts _ hi2⟩ hpre rfl (by rw [List.length_map]; simp only [List.length_cons] at halen; omega) hF.1.1 hstk (lv_room hroom) hdec ⟨hcell, hcells⟩
              · cases hpk
          · cases hst
        · cases hex
