/-! The small machine's runs, an instruction a row. -/
section ST
variable {r c pc : Nat} {L S : List aV} {M : aM} {P : aP}
theorem stp_of {i : Instr} (f : rfI c pc = some (i, P)) : stp c pc L S M = sem mOwn (mBz c) pc i P L S M := by unfold stp; rw [f]
def okc (a b n : Int) : Bool := decide (a ≤ n) && decide (n < b)
theorem okc_p {a b n : Int} (h : okc a b n = true) : a ≤ n ∧ n < b := by simpa [okc] using h
theorem st_iconst {n : Int} (f : rfI c pc = some (.iconst n, P)) (h : okc (-128) 128 n = true) : run r c pc L S M = run r c (pc + 1) L (.inl n :: S) M := run_go (by rw [stp_of f]; simp only [sem]; rw [if_pos (okc_p h)])
theorem st_bipush {n : Int} (f : rfI c pc = some (.bipush n, P)) (h : okc (-128) 128 n = true) : run r c pc L S M = run r c (pc + 2) L (.inl n :: S) M := run_go (by rw [stp_of f]; simp only [sem]; rw [if_pos (okc_p h)])
theorem st_sipush {n : Int} (f : rfI c pc = some (.sipush n, P)) (h : okc (-32768) 32768 n = true) : run r c pc L S M = run r c (pc + 3) L (.inl n :: S) M := run_go (by rw [stp_of f]; simp only [sem]; rw [if_pos (okc_p h)])
theorem st_ldc {k : Nat} {n : Int} (f : rfI c pc = some (.ldc k, (4, 4, 4, n))) (h : okc (-2147483648) 2147483648 n = true) : run r c pc L S M = run r c (pc + 2) L (.inl n :: S) M := run_go (by rw [stp_of f]; simp only [sem]; rw [if_pos ⟨trivial, okc_p h⟩])
theorem st_ldc_w {k : Nat} {n : Int} (f : rfI c pc = some (.ldc_w k, (4, 4, 4, n))) (h : okc (-2147483648) 2147483648 n = true) : run r c pc L S M = run r c (pc + 3) L (.inl n :: S) M := run_go (by rw [stp_of f]; simp only [sem]; rw [if_pos ⟨trivial, okc_p h⟩])
theorem st_iload {n : Nat} {x : Int} (f : rfI c pc = some (.iload n, P)) (h : L[n]? = some (.inl x)) : run r c pc L S M = run r c (pc + 2) L (.inl x :: S) M := run_go (by rw [stp_of f]; simp only [sem, h])
theorem st_iload_n {n : Fin 4} {x : Int} (f : rfI c pc = some (.iload_n n, P)) (h : L[(n : Nat)]? = some (.inl x)) : run r c pc L S M = run r c (pc + 1) L (.inl x :: S) M := run_go (by rw [stp_of f]; simp only [sem, h])
theorem st_aload {n x : Nat} (f : rfI c pc = some (.aload n, P)) (h : L[n]? = some (.inr (some x))) : run r c pc L S M = run r c (pc + 2) L (.inr (some x) :: S) M := run_go (by rw [stp_of f]; simp only [sem, h])
theorem st_aload_n {n : Fin 4} {x : Nat} (f : rfI c pc = some (.aload_n n, P)) (h : L[(n : Nat)]? = some (.inr (some x))) : run r c pc L S M = run r c (pc + 1) L (.inr (some x) :: S) M := run_go (by rw [stp_of f]; simp only [sem, h])
theorem st_istore {n : Nat} {x : Int} {L' : List aV} (f : rfI c pc = some (.istore n, P)) (hl : Nat.blt n L.length = true) (h : L.set n (.inl x) = L') : run r c pc L (.inl x :: S) M = run r c (pc + 2) L' S M := run_go (by rw [stp_of f]; simp only [sem]; rw [if_pos (Nat.blt_eq.mp hl), h])
theorem st_istore_n {n : Fin 4} {x : Int} {L' : List aV} (f : rfI c pc = some (.istore_n n, P)) (hl : Nat.blt n L.length = true) (h : L.set n (.inl x) = L') : run r c pc L (.inl x :: S) M = run r c (pc + 1) L' S M := run_go (by rw [stp_of f]; simp only [sem]; rw [if_pos (Nat.blt_eq.mp hl), h])
theorem st_iinc {n : Nat} {d x : Int} {L' : List aV} (f : rfI c pc = some (.iinc n d, P)) (hx : L[n]? = some (.inl x)) (h : L.set n (.inl (wr (x + d))) = L') : run r c pc L S M = run r c (pc + 3) L' S M := run_go (by rw [stp_of f]; simp only [sem, hx]; rw [h])
theorem st_iadd {x y : Int} (f : rfI c pc = some (.iadd, P)) : run r c pc L (.inl y :: .inl x :: S) M = run r c (pc + 1) L (.inl (wr (x + y)) :: S) M := run_go (by rw [stp_of f]; rfl)
theorem st_isub {x y : Int} (f : rfI c pc = some (.isub, P)) : run r c pc L (.inl y :: .inl x :: S) M = run r c (pc + 1) L (.inl (wr (x - y)) :: S) M := run_go (by rw [stp_of f]; rfl)
theorem st_imul {x y : Int} (f : rfI c pc = some (.imul, P)) : run r c pc L (.inl y :: .inl x :: S) M = run r c (pc + 1) L (.inl (wr (x * y)) :: S) M := run_go (by rw [stp_of f]; rfl)
theorem st_idiv {x y : Int} (f : rfI c pc = some (.idiv, P)) : run r c pc L (.inl y :: .inl x :: S) M = if y = 0 then none else run r c (pc + 1) L (.inl (wr (x.tdiv y)) :: S) M := by
  by_cases h : y = 0
  · rw [if_pos h]; exact run_no (by rw [stp_of f]; simp only [sem]; rw [if_pos h])
  · rw [if_neg h]; exact run_go (by rw [stp_of f]; simp only [sem]; rw [if_neg h])
theorem st_irem {x y : Int} (f : rfI c pc = some (.irem, P)) : run r c pc L (.inl y :: .inl x :: S) M = if y = 0 then none else run r c (pc + 1) L (.inl (x.tmod y) :: S) M := by
  by_cases h : y = 0
  · rw [if_pos h]; exact run_no (by rw [stp_of f]; simp only [sem]; rw [if_pos h])
  · rw [if_neg h]; exact run_go (by rw [stp_of f]; simp only [sem]; rw [if_neg h])
theorem st_idivL {x y : Int} (f : rfI c pc = some (.idiv, P)) (h : decide (y = 0) = false) : run r c pc L (.inl y :: .inl x :: S) M = run r c (pc + 1) L (.inl (wr (x.tdiv y)) :: S) M := by rw [st_idiv f, if_neg (by simpa using h)]
theorem st_iremL {x y : Int} (f : rfI c pc = some (.irem, P)) (h : decide (y = 0) = false) : run r c pc L (.inl y :: .inl x :: S) M = run r c (pc + 1) L (.inl (x.tmod y) :: S) M := by rw [st_irem f, if_neg (by simpa using h)]
theorem st_ineg {x : Int} (f : rfI c pc = some (.ineg, P)) : run r c pc L (.inl x :: S) M = run r c (pc + 1) L (.inl (wr (-x)) :: S) M := run_go (by rw [stp_of f]; rfl)
theorem st_iand {x y : Int} (f : rfI c pc = some (.iand, P)) : run r c pc L (.inl y :: .inl x :: S) M = run r c (pc + 1) L (.inl (iAnd x y) :: S) M := run_go (by rw [stp_of f]; rfl)
theorem st_ior {x y : Int} (f : rfI c pc = some (.ior, P)) : run r c pc L (.inl y :: .inl x :: S) M = run r c (pc + 1) L (.inl (iOr x y) :: S) M := run_go (by rw [stp_of f]; rfl)
theorem st_ixor {x y : Int} (f : rfI c pc = some (.ixor, P)) : run r c pc L (.inl y :: .inl x :: S) M = run r c (pc + 1) L (.inl (iXor x y) :: S) M := run_go (by rw [stp_of f]; rfl)
theorem st_ishl {x y : Int} (f : rfI c pc = some (.ishl, P)) : run r c pc L (.inl y :: .inl x :: S) M = run r c (pc + 1) L (.inl (iShl x y) :: S) M := run_go (by rw [stp_of f]; rfl)
theorem st_ishr {x y : Int} (f : rfI c pc = some (.ishr, P)) : run r c pc L (.inl y :: .inl x :: S) M = run r c (pc + 1) L (.inl (iShr x y) :: S) M := run_go (by rw [stp_of f]; rfl)
theorem st_iushr {x y : Int} (f : rfI c pc = some (.iushr, P)) : run r c pc L (.inl y :: .inl x :: S) M = run r c (pc + 1) L (.inl (iUshr x y) :: S) M := run_go (by rw [stp_of f]; rfl)
theorem st_i2b {x : Int} (f : rfI c pc = some (.i2b, P)) : run r c pc L (.inl x :: S) M = run r c (pc + 1) L (.inl (b8 x) :: S) M := run_go (by rw [stp_of f]; rfl)
theorem st_dup {v : aV} (f : rfI c pc = some (.dup, P)) : run r c pc L (v :: S) M = run r c (pc + 1) L (v :: v :: S) M := run_go (by rw [stp_of f]; rfl)
theorem st_dup2 {v w : aV} (f : rfI c pc = some (.dup2, P)) : run r c pc L (v :: w :: S) M = run r c (pc + 1) L (v :: w :: v :: w :: S) M := run_go (by rw [stp_of f]; rfl)
theorem st_pop {v : aV} (f : rfI c pc = some (.pop, P)) : run r c pc L (v :: S) M = run r c (pc + 1) L S M := run_go (by rw [stp_of f]; rfl)
theorem st_goto {off : Int} {t : Nat} (f : rfI c pc = some (.goto off, P)) (h : (pc : Int) + off = (t : Int)) : run r c pc L S M = run r c t L S M := run_go (by rw [stp_of f]; simp only [sem, tgt, h]; rw [if_pos (by omega)]; rfl)
theorem aBr_go {off : Int} {t : Nat} {q : Prop} [Decidable q] (h : (pc : Int) + off = (t : Int)) : aBr pc off q L S M = aGo (if q then t else pc + 3) L S M := by
  unfold aBr tgt
  rw [if_pos (by omega), h]
  rfl
theorem run_ite {q : Prop} [Decidable q] {a b : Nat} : run r c (if q then a else b) L S M = if q then run r c a L S M else run r c b L S M := by split <;> rfl
theorem st_if_eq {x off : Int} {t : Nat} (f : rfI c pc = some (.ifCond .eq off, P)) (h : (pc : Int) + off = (t : Int)) : run r c pc L (.inl x :: S) M = if x = 0 then run r c t L S M else run r c (pc + 3) L S M := (run_go (by rw [stp_of f]; exact aBr_go h)).trans run_ite
theorem st_if_ne {x off : Int} {t : Nat} (f : rfI c pc = some (.ifCond .ne off, P)) (h : (pc : Int) + off = (t : Int)) : run r c pc L (.inl x :: S) M = if x = 0 then run r c (pc + 3) L S M else run r c t L S M := by
  rw [run_go (by rw [stp_of f]; exact aBr_go h), run_ite]
  by_cases q : x = 0
  · rw [if_neg (fun z => z q), if_pos q]
  · rw [if_pos q, if_neg q]
theorem st_if_lt {x off : Int} {t : Nat} (f : rfI c pc = some (.ifCond .lt off, P)) (h : (pc : Int) + off = (t : Int)) : run r c pc L (.inl x :: S) M = if x < 0 then run r c t L S M else run r c (pc + 3) L S M := (run_go (by rw [stp_of f]; exact aBr_go h)).trans run_ite
theorem st_if_ge {x off : Int} {t : Nat} (f : rfI c pc = some (.ifCond .ge off, P)) (h : (pc : Int) + off = (t : Int)) : run r c pc L (.inl x :: S) M = if 0 ≤ x then run r c t L S M else run r c (pc + 3) L S M := (run_go (by rw [stp_of f]; exact aBr_go h)).trans run_ite
theorem st_if_gt {x off : Int} {t : Nat} (f : rfI c pc = some (.ifCond .gt off, P)) (h : (pc : Int) + off = (t : Int)) : run r c pc L (.inl x :: S) M = if 0 < x then run r c t L S M else run r c (pc + 3) L S M := (run_go (by rw [stp_of f]; exact aBr_go h)).trans run_ite
theorem st_if_le {x off : Int} {t : Nat} (f : rfI c pc = some (.ifCond .le off, P)) (h : (pc : Int) + off = (t : Int)) : run r c pc L (.inl x :: S) M = if x ≤ 0 then run r c t L S M else run r c (pc + 3) L S M := (run_go (by rw [stp_of f]; exact aBr_go h)).trans run_ite
theorem st_icmp_eq {x y off : Int} {t : Nat} (f : rfI c pc = some (.if_icmp .eq off, P)) (h : (pc : Int) + off = (t : Int)) : run r c pc L (.inl y :: .inl x :: S) M = if x = y then run r c t L S M else run r c (pc + 3) L S M := (run_go (by rw [stp_of f]; exact aBr_go h)).trans run_ite
theorem st_icmp_ne {x y off : Int} {t : Nat} (f : rfI c pc = some (.if_icmp .ne off, P)) (h : (pc : Int) + off = (t : Int)) : run r c pc L (.inl y :: .inl x :: S) M = if x = y then run r c (pc + 3) L S M else run r c t L S M := by
  rw [run_go (by rw [stp_of f]; exact aBr_go h), run_ite]
  by_cases q : x = y
  · rw [if_neg (fun z => z q), if_pos q]
  · rw [if_pos q, if_neg q]
theorem st_icmp_lt {x y off : Int} {t : Nat} (f : rfI c pc = some (.if_icmp .lt off, P)) (h : (pc : Int) + off = (t : Int)) : run r c pc L (.inl y :: .inl x :: S) M = if x < y then run r c t L S M else run r c (pc + 3) L S M := (run_go (by rw [stp_of f]; exact aBr_go h)).trans run_ite
theorem st_icmp_ge {x y off : Int} {t : Nat} (f : rfI c pc = some (.if_icmp .ge off, P)) (h : (pc : Int) + off = (t : Int)) : run r c pc L (.inl y :: .inl x :: S) M = if y ≤ x then run r c t L S M else run r c (pc + 3) L S M := (run_go (by rw [stp_of f]; exact aBr_go h)).trans run_ite
theorem st_icmp_gt {x y off : Int} {t : Nat} (f : rfI c pc = some (.if_icmp .gt off, P)) (h : (pc : Int) + off = (t : Int)) : run r c pc L (.inl y :: .inl x :: S) M = if y < x then run r c t L S M else run r c (pc + 3) L S M := (run_go (by rw [stp_of f]; exact aBr_go h)).trans run_ite
theorem st_icmp_le {x y off : Int} {t : Nat} (f : rfI c pc = some (.if_icmp .le off, P)) (h : (pc : Int) + off = (t : Int)) : run r c pc L (.inl y :: .inl x :: S) M = if x ≤ y then run r c t L S M else run r c (pc + 3) L S M := (run_go (by rw [stp_of f]; exact aBr_go h)).trans run_ite
/-- a table: one place after another -/
def swT (pc : Nat) (x : Int) (d : Int) : Int → List Int → Nat
  | _, [] => tgt pc d
  | k, o :: os => if x = k then tgt pc o else swT pc x d (k + 1) os
theorem swT_out {x d : Int} : ∀ (os : List Int) (k : Int), (x < k ∨ k + os.length ≤ x) → swT pc x d k os = tgt pc d := by
  intro os
  induction os with
  | nil => intro k _; rfl
  | cons o os ih =>
    intro k h
    simp only [List.length_cons] at h
    unfold swT
    rw [if_neg (by omega)]
    exact ih (k + 1) (by omega)
theorem swT_in {x d : Int} : ∀ (os : List Int) (k : Int) (o : Int), k ≤ x → os[(x - k).toNat]? = some o → swT pc x d k os = tgt pc o := by
  intro os
  induction os with
  | nil => intro k o _ h; simp at h
  | cons o1 os ih =>
    intro k o hk h
    unfold swT
    by_cases e : x = k
    · subst e
      rw [if_pos rfl]
      simp at h
      rw [h]
    · rw [if_neg e]
      refine ih (k + 1) o (by omega) ?_
      rw [show (x - k).toNat = (x - (k + 1)).toNat + 1 by omega, List.getElem?_cons_succ] at h
      exact h
theorem st_table {x d lo hi : Int} {offs : Array Int} (f : rfI c pc = some (.tableswitch d lo hi offs, P)) (hn : lo + offs.toList.length = hi + 1) (hz : (d :: offs.toList).all (fun o => decide (0 ≤ (pc : Int) + o)) = true) : run r c pc L (.inl x :: S) M = run r c (swT pc x d lo offs.toList) L S M := by
  have hz1 : ∀ o ∈ (d :: offs.toList), 0 ≤ (pc : Int) + o := fun o ho => by simpa using List.all_eq_true.mp hz o ho
  refine run_go ?_
  rw [stp_of f]
  simp only [sem]
  by_cases h : x < lo ∨ hi < x
  · rw [if_pos h, if_pos (hz1 d List.mem_cons_self), swT_out _ _ (by omega)]
  · rw [if_neg h]
    have hl : (x - lo).toNat < offs.toList.length := by omega
    have h1 : offs.toList[(x - lo).toNat]? = some offs.toList[(x - lo).toNat] := List.getElem?_eq_getElem hl
    rw [swT_in _ _ _ (by omega) h1, ← Array.getElem?_toList, h1]
    dsimp only
    rw [if_pos (hz1 _ (List.mem_cons_of_mem _ (List.getElem_mem hl)))]
theorem st_lookup {x d : Int} {ps : Array (Int × Int)} (f : rfI c pc = some (.lookupswitch d ps, P)) (hs : (ps.toList.zip (ps.toList.drop 1)).all (fun (a, next) => a.1 < next.1) = true) (hz : 0 ≤ (pc : Int) + Op.lookupswitch.offset ps.toList d x) : run r c pc L (.inl x :: S) M = run r c (tgt pc (Op.lookupswitch.offset ps.toList d x)) L S M := run_go (by rw [stp_of f]; simp only [sem]; rw [if_pos ⟨hs, hz⟩])
theorem st_getI {k q a j n : Nat} {refs : List (Option Nat)} (f : rfI c pc = some (.getfield k, (a, j, n, 0))) (hn : Nat.ble n 1 = true) (hq : lay0[q]? = some (.inl (a, refs))) (hr : refs[j]? = some none) : run r c pc L (.inr (some q) :: S) M = run r c (pc + 3) L (.inl (M q j) :: S) M := run_go (by rw [stp_of f]; simp only [sem, hq, hr, if_true]; rw [if_pos (Nat.le_of_ble_eq_true hn)])
theorem st_getR {k q q' a j : Nat} {refs : List (Option Nat)} (f : rfI c pc = some (.getfield k, (a, j, 2, 0))) (hq : lay0[q]? = some (.inl (a, refs))) (hr : refs[j]? = some (some q')) : run r c pc L (.inr (some q) :: S) M = run r c (pc + 3) L (.inr (some q') :: S) M := run_go (by rw [stp_of f]; simp only [sem, hq, hr, if_true])
theorem st_putI {k q a j : Nat} {x : Int} {refs : List (Option Nat)} (f : rfI c pc = some (.putfield k, (a, j, 0, 0))) (hq : lay0[q]? = some (.inl (a, refs))) (hr : refs[j]? = some none) : run r c pc L (.inl x :: .inr (some q) :: S) M = run r c (pc + 3) L S (upM M q j x) := run_go (by rw [stp_of f]; simp only [sem, hq]; rw [if_pos ⟨trivial, hr, Or.inl trivial⟩])
theorem st_putZ {k q a j : Nat} {x : Int} {refs : List (Option Nat)} (f : rfI c pc = some (.putfield k, (a, j, 1, 0))) (hq : lay0[q]? = some (.inl (a, refs))) (hr : refs[j]? = some none) (hx : (decide (x = 0) || decide (x = 1)) = true) : run r c pc L (.inl x :: .inr (some q) :: S) M = run r c (pc + 3) L S (upM M q j x) := run_go (by rw [stp_of f]; simp only [sem, hq]; rw [if_pos ⟨trivial, hr, Or.inr ⟨trivial, by simpa using hx⟩⟩])
theorem st_iald {q n : Nat} {j : Int} (f : rfI c pc = some (.iaload, P)) (hq : lay0[q]? = some (.inr (0, n))) : run r c pc L (.inl j :: .inr (some q) :: S) M = if 0 ≤ j ∧ j < (n : Int) then run r c (pc + 1) L (.inl (M q j.toNat) :: S) M else none := by
  by_cases h : 0 ≤ j ∧ j < (n : Int)
  · rw [if_pos h]; exact run_go (by rw [stp_of f]; simp only [sem, hq, if_true]; rw [if_pos h])
  · rw [if_neg h]; exact run_no (by rw [stp_of f]; simp only [sem, hq, if_true]; rw [if_neg h])
theorem st_sld {j : Int} (f : rfI c pc = some (.iaload, P)) : run r c pc L (.inl j :: .inr (some 0) :: S) M = if 0 ≤ j ∧ j < M 0 4000 then run r c (pc + 1) L (.inl (M 0 j.toNat) :: S) M else none := by
  by_cases h : 0 ≤ j ∧ j < M 0 4000
  · rw [if_pos h]; exact run_go (by rw [stp_of f]; simp only [sem, lay_zero]; rw [if_neg (by decide), if_pos ⟨trivial, trivial⟩, if_pos h])
  · rw [if_neg h]; exact run_no (by rw [stp_of f]; simp only [sem, lay_zero]; rw [if_neg (by decide), if_pos ⟨trivial, trivial⟩, if_neg h])
theorem st_slen (f : rfI c pc = some (.arraylength, P)) : run r c pc L (.inr (some 0) :: S) M = run r c (pc + 1) L (.inl (M 0 4000) :: S) M := run_go (by rw [stp_of f]; rfl)
theorem st_bald {q n : Nat} {j : Int} (f : rfI c pc = some (.baload, P)) (hq : lay0[q]? = some (.inr (1, n))) : run r c pc L (.inl j :: .inr (some q) :: S) M = if 0 ≤ j ∧ j < (n : Int) then run r c (pc + 1) L (.inl (M q j.toNat) :: S) M else none := by
  by_cases h : 0 ≤ j ∧ j < (n : Int)
  · rw [if_pos h]; exact run_go (by rw [stp_of f]; simp only [sem, hq, if_true]; rw [if_pos h])
  · rw [if_neg h]; exact run_no (by rw [stp_of f]; simp only [sem, hq, if_true]; rw [if_neg h])
theorem st_iast {q n : Nat} {j x : Int} (f : rfI c pc = some (.iastore, P)) (hq : lay0[q]? = some (.inr (0, n))) : run r c pc L (.inl x :: .inl j :: .inr (some q) :: S) M = if 0 ≤ j ∧ j < (n : Int) then run r c (pc + 1) L S (upM M q j.toNat x) else none := by
  by_cases h : 0 ≤ j ∧ j < (n : Int)
  · rw [if_pos h]; exact run_go (by rw [stp_of f]; simp only [sem, hq, if_true]; rw [if_pos h])
  · rw [if_neg h]; exact run_no (by rw [stp_of f]; simp only [sem, hq, if_true]; rw [if_neg h])
theorem st_bast {q n : Nat} {j x : Int} (f : rfI c pc = some (.bastore, P)) (hq : lay0[q]? = some (.inr (1, n))) : run r c pc L (.inl x :: .inl j :: .inr (some q) :: S) M = if 0 ≤ j ∧ j < (n : Int) then run r c (pc + 1) L S (upM M q j.toNat (b8 x)) else none := by
  by_cases h : 0 ≤ j ∧ j < (n : Int)
  · rw [if_pos h]; exact run_go (by rw [stp_of f]; simp only [sem, hq, if_true]; rw [if_pos h])
  · rw [if_neg h]; exact run_no (by rw [stp_of f]; simp only [sem, hq, if_true]; rw [if_neg h])
/-- an index that is a written number -/
theorem st_ialdL {q n : Nat} {j : Int} (f : rfI c pc = some (.iaload, P)) (hq : lay0[q]? = some (.inr (0, n))) (h : okc 0 n j = true) : run r c pc L (.inl j :: .inr (some q) :: S) M = run r c (pc + 1) L (.inl (M q j.toNat) :: S) M := by rw [st_iald f hq, if_pos (okc_p h)]
theorem st_iastL {q n : Nat} {j x : Int} (f : rfI c pc = some (.iastore, P)) (hq : lay0[q]? = some (.inr (0, n))) (h : okc 0 n j = true) : run r c pc L (.inl x :: .inl j :: .inr (some q) :: S) M = run r c (pc + 1) L S (upM M q j.toNat x) := by rw [st_iast f hq, if_pos (okc_p h)]
theorem st_acp {k q0 q1 n0 n1 z : Nat} {sp dp n : Int} (f : rfI c pc = some (.invokestatic k, (z, 5, 12, 0))) (h0 : lay0[q0]? = some (.inr (0, n0))) (h1 : lay0[q1]? = some (.inr (0, n1))) (h : (okc 0 (n0 + 1) sp && okc 0 (n1 + 1) dp && okc 0 (n0 + 1) n && decide (sp + n ≤ (n0 : Int)) && decide (dp + n ≤ (n1 : Int)) && Nat.ble S.length 8) = true) : run r c pc L (.inl n :: .inl dp :: .inr (some q1) :: .inl sp :: .inr (some q0) :: S) M = run r c (pc + 3) L S (cpM M q0 q1 sp.toNat dp.toNat n.toNat) := run_go (by
  rw [stp_of f]
  simp only [Bool.and_eq_true, okc, decide_eq_true_eq] at h
  simp only [sem, h0, h1, if_true]
  rw [if_pos ⟨⟨by omega, by omega, by omega, by omega, by omega⟩, Nat.le_of_ble_eq_true h.2⟩])
theorem st_max {k z : Nat} {x y : Int} (f : rfI c pc = some (.invokestatic k, (z, 2, 13, 0))) (h : Nat.ble S.length 8 = true) : run r c pc L (.inl y :: .inl x :: S) M = run r c (pc + 3) L (.inl (max x y) :: S) M := run_go (by
  rw [stp_of f]
  simp only [sem, show ¬ (13 = 12) by decide, if_false, if_true]
  rw [if_pos (Nat.le_of_ble_eq_true h)])
theorem st_min {k z : Nat} {x y : Int} (f : rfI c pc = some (.invokestatic k, (z, 2, 14, 0))) (h : Nat.ble S.length 8 = true) : run r c pc L (.inl y :: .inl x :: S) M = run r c (pc + 3) L (.inl (min x y) :: S) M := run_go (by
  rw [stp_of f]
  simp only [sem, show ¬ (14 = 12) by decide, show ¬ (14 = 13) by decide, if_false, if_true]
  rw [if_pos (Nat.le_of_ble_eq_true h)])
theorem st_S {k d na : Nat} (f : rfI c pc = some (.invokestatic k, (d, na, 10, 0))) (h : (Nat.ble na S.length && Nat.ble S.length (na + 8)) = true) {a rest : List aV} (ha : (S.take na).reverse = a) (hs : S.drop na = rest) : run r c pc L S M = if rkF d a < r then (fnA d a M).bind (fun q => cnt (mVd d) q (fun v M' => run r c (pc + 3) L (v ++ rest) M')) else none := by
  subst ha; subst hs
  simp only [Bool.and_eq_true] at h
  refine run_call ?_
  rw [stp_of f]
  simp only [sem, show ¬ (10 = 12) by decide, show ¬ (10 = 13) by decide, show ¬ (10 = 14) by decide, if_false]
  rw [if_pos ⟨trivial, Nat.le_of_ble_eq_true h.1, Nat.le_of_ble_eq_true h.2⟩]
theorem st_V {k d na q a0 : Nat} {refs : List (Option Nat)} (f : rfI c pc = some (.invokevirtual k, (d, na, 11, 0))) (h : (Nat.ble na S.length && Nat.ble S.length (na + 8)) = true) {a rest : List aV} (ha : (S.take na).reverse = .inr (some q) :: a) (hs : S.drop na = rest) (hq : lay0[q]? = some (.inl (a0, refs))) (ho : mOwn d = a0) : run r c pc L S M = if rkF d (.inr (some q) :: a) < r then (fnA d (.inr (some q) :: a) M).bind (fun q => cnt (mVd d) q (fun v M' => run r c (pc + 3) L (v ++ rest) M')) else none := by
  subst hs; subst ho
  simp only [Bool.and_eq_true] at h
  refine run_call ?_
  rw [stp_of f]
  simp only [sem]
  rw [if_pos ⟨trivial, Nat.le_of_ble_eq_true h.1, Nat.le_of_ble_eq_true h.2⟩, ha]
  dsimp only
  rw [hq]
  dsimp only
  rw [if_pos rfl]
theorem sw_c {x d k o : Int} {os : List Int} {p0 : Nat} : run r c (swT p0 x d k (o :: os)) L S M = if x = k then run r c (tgt p0 o) L S M else run r c (swT p0 x d (k + 1) os) L S M := run_ite
def swL (pc : Nat) (x : Int) (d : Int) : List (Int × Int) → Nat
  | [] => tgt pc d
  | q :: os => if x = q.1 then tgt pc q.2 else swL pc x d os
theorem swL_eq {x d : Int} : ∀ (ps : List (Int × Int)), tgt pc (Op.lookupswitch.offset ps d x) = swL pc x d ps := by
  intro ps
  induction ps with
  | nil => rfl
  | cons q ps ih =>
    obtain ⟨a, o⟩ := q
    rw [Op.lookupswitch.offset_cons]
    unfold swL
    by_cases h : a = x
    · rw [if_pos h, if_pos h.symm]
    · rw [if_neg h, if_neg (fun z => h z.symm)]; exact ih
theorem off_in {x d : Int} : ∀ (ps : List (Int × Int)), (∀ o ∈ d :: ps.map (fun q => q.2), 0 ≤ (pc : Int) + o) → 0 ≤ (pc : Int) + Op.lookupswitch.offset ps d x := by
  intro ps
  induction ps with
  | nil => intro h; exact h d List.mem_cons_self
  | cons q ps ih =>
    intro h
    obtain ⟨a, o⟩ := q
    rw [Op.lookupswitch.offset_cons]
    by_cases e : a = x
    · rw [if_pos e]; exact h o (by simp)
    · rw [if_neg e]
      refine ih fun z hz => h z ?_
      rcases List.mem_cons.mp hz with hz | hz
      · simp [hz]
      · simp only [List.map_cons, List.mem_cons]; exact Or.inr (Or.inr hz)
theorem st_lk {x d : Int} {ps : Array (Int × Int)} (f : rfI c pc = some (.lookupswitch d ps, P)) (hs : (ps.toList.zip (ps.toList.drop 1)).all (fun (a, next) => a.1 < next.1) = true) (hz : (d :: ps.toList.map (fun q => q.2)).all (fun o => decide (0 ≤ (pc : Int) + o)) = true) : run r c pc L (.inl x :: S) M = run r c (swL pc x d ps.toList) L S M := by
  rw [st_lookup f hs (off_in _ (fun o ho => by simpa using List.all_eq_true.mp hz o ho)), swL_eq]
theorem sl_c {x d : Int} {q : Int × Int} {os : List (Int × Int)} {p0 : Nat} : run r c (swL p0 x d (q :: os)) L S M = if x = q.1 then run r c (tgt p0 q.2) L S M else run r c (swL p0 x d os) L S M := run_ite
/-- a call whose rank is below: of an int, of nothing -/
theorem rkF_n {d n : Nat} {a : List aV} (h : mRec.contains d = false) (h2 : mRk.getD d 0 = n) : rkF d a = n := by unfold rkF; rw [h, h2]; rfl
theorem ca_I {d n : Nat} {a rest : List aV} {X : aX} (h : X = if rkF d a < r then (fnA d a M).bind (fun q => cnt (mVd d) q (fun v M' => run r c pc L (v ++ rest) M')) else none) (hk : rkF d a = n) (hr : n < r) (hv : mVd d = false) : X = bI (fnA d a M) (fun v M' => run r c pc L (.inl v :: rest) M') := by
  rw [h, if_pos (by rw [hk]; exact hr), hv, bind_bI]; rfl
theorem ca_V {d n : Nat} {a rest : List aV} {X : aX} (h : X = if rkF d a < r then (fnA d a M).bind (fun q => cnt (mVd d) q (fun v M' => run r c pc L (v ++ rest) M')) else none) (hk : rkF d a = n) (hr : n < r) (hv : mVd d = true) : X = bV (fnA d a M) (fun M' => run r c pc L rest M') := by
  rw [h, if_pos (by rw [hk]; exact hr), hv, bind_bV]; rfl
theorem cr_I {d : Nat} {a rest : List aV} {X : aX} (h : X = if rkF d a < r then (fnA d a M).bind (fun q => cnt (mVd d) q (fun v M' => run r c pc L (v ++ rest) M')) else none) (hv : mVd d = false) : X = if rkF d a < r then bI (fnA d a M) (fun v M' => run r c pc L (.inl v :: rest) M') else none := by
  rw [h, hv, bind_bI]; rfl
theorem st_ret {x : Int} (f : rfI c pc = some (.ireturn, P)) (hb : mBz c = false) : run r c pc L [.inl x] M = some (some (.inl x), M) := run_ret (by rw [stp_of f, hb]; rfl)
theorem st_retL {x : Int} (f : rfI c pc = some (.ireturn, P)) (hx : (decide (x = 0) || decide (x = 1)) = true) : run r c pc L [.inl x] M = some (some (.inl x), M) := run_ret (by rw [stp_of f]; simp only [sem]; rw [if_pos (fun _ => by simpa using hx)])
theorem st_retZ {x : Int} (f : rfI c pc = some (.ireturn, P)) (hb : mBz c = true) : run r c pc L [.inl x] M = if x = 0 ∨ x = 1 then some (some (.inl x), M) else none := by
  by_cases h : x = 0 ∨ x = 1
  · rw [if_pos h]; exact run_ret (by rw [stp_of f]; simp only [sem]; rw [if_pos (fun _ => h)])
  · rw [if_neg h]; exact run_no (by rw [stp_of f, hb]; simp only [sem]; rw [if_neg (fun q => h (q trivial))])
theorem st_rv (f : rfI c pc = some (.return_, P)) : run r c pc L [] M = some (none, M) := run_ret (by rw [stp_of f]; rfl)
end ST
theorem teI {q : Prop} [Decidable q] {a b a' b' : aX} (h1 : a = a') (h2 : b = b') : (if q then a else b) = if q then a' else b' := by rw [h1, h2]
theorem teB {X : aX} {f g : Int → aM → aX} (h : ∀ v M, f v M = g v M) : bI X f = bI X g := by rw [show f = g from funext fun v => funext fun M => h v M]
theorem teV {X : aX} {f g : aM → aX} (h : ∀ M, f M = g M) : bV X f = bV X g := by rw [show f = g from funext fun M => h M]

def isT (k : Nat) : Prop := k = 4 ∨ k = 8 ∨ k = 12
def isW (k : Nat) : Prop := k = 18 ∨ k = 47
theorem lay_T {k : Nat} (h : isT k) : lay0[k]? = some (.inl (10, [some (k + 1), some (k + 2), some (k + 3), none, none, none, none, none])) := by rcases h with rfl | rfl | rfl <;> rfl
theorem lay_T1 {k : Nat} (h : isT k) : lay0[k + 1]? = some (.inr (0, 8)) := by rcases h with rfl | rfl | rfl <;> rfl
theorem lay_T2 {k : Nat} (h : isT k) : lay0[k + 2]? = some (.inr (0, 64)) := by rcases h with rfl | rfl | rfl <;> rfl
theorem lay_T3 {k : Nat} (h : isT k) : lay0[k + 3]? = some (.inr (0, 64)) := by rcases h with rfl | rfl | rfl <;> rfl
theorem lay_W {k : Nat} (h : isW k) : lay0[k]? = some (.inl (3, [some (k + 1), some (k + 2), some (k + 3), some (k + 4), some (k + 5), none, none])) := by rcases h with rfl | rfl <;> rfl
theorem lay_W1 {k : Nat} (h : isW k) : lay0[k + 1]? = some (.inr (0, 16)) := by rcases h with rfl | rfl <;> rfl
theorem lay_W2 {k : Nat} (h : isW k) : lay0[k + 2]? = some (.inr (0, 16)) := by rcases h with rfl | rfl <;> rfl
theorem lay_W3 {k : Nat} (h : isW k) : lay0[k + 3]? = some (.inr (0, 16)) := by rcases h with rfl | rfl <;> rfl
theorem lay_W4 {k : Nat} (h : isW k) : lay0[k + 4]? = some (.inr (0, 16)) := by rcases h with rfl | rfl <;> rfl
theorem lay_W5 {k : Nat} (h : isW k) : lay0[k + 5]? = some (.inr (0, 480)) := by rcases h with rfl | rfl <;> rfl
