/-! THE SMALL MACHINE: the same bytecode over a plain memory (cells by their numbers in lay0, ints as Int, no heap, no threads): its steps, its runs to the end, its runs as a function. Part 04 shows that what it answers the machine answers. -/
def wr (z : Int) : Int := (z + 2147483648) % 4294967296 - 2147483648
def inR (z : Int) : Prop := -2147483648 ≤ z ∧ z < 2147483648
def iAnd (x y : Int) : Int := (Int32.ofInt x &&& Int32.ofInt y).toInt
def iOr (x y : Int) : Int := (Int32.ofInt x ||| Int32.ofInt y).toInt
def iXor (x y : Int) : Int := (Int32.ofInt x ^^^ Int32.ofInt y).toInt
def iShl (x y : Int) : Int := (Int32.ofInt x <<< (Int32.ofInt y &&& 31)).toInt
def iShr (x y : Int) : Int := (Int32.ofInt x >>> (Int32.ofInt y &&& 31)).toInt
def iUshr (x y : Int) : Int := (((Int32.ofInt x).toUInt32 >>> ((Int32.ofInt y).toUInt32 &&& Int32.toUInt32 31)).toInt32).toInt
def b8 (z : Int) : Int := (z + 128) % 256 - 128
def upM (M : aM) (q j : Nat) (x : Int) : aM := fun a => if a = q then (fun b => if b = j then x else M q b) else M a
def cpM (M : aM) (q0 q1 sp dp n : Nat) : aM := fun a => if a = q1 then (fun k => if dp ≤ k ∧ k < dp + n then M q0 (sp + (k - dp)) else M q1 k) else M a
abbrev aS : Type := Option (Nat × List aV × List aV × aM) ⊕ ((Nat × List aV × Nat × List aV) ⊕ Option aV)
abbrev aX : Type := Option (Option aV × aM)
def aNo : aS := .inl none
def aGo (pc : Nat) (L S : List aV) (M : aM) : aS := .inl (some (pc, L, S, M))
def tgt (pc : Nat) (off : Int) : Nat := ((pc : Int) + off).toNat
/-- a jump: where it goes has to be a place -/
def aBr (pc : Nat) (off : Int) (c : Prop) [Decidable c] (L S : List aV) (M : aM) : aS := if 0 ≤ (pc : Int) + off then aGo (if c then tgt pc off else pc + 3) L S M else aNo
/-- one instruction (bz: the method's answer is a boolean; own: whose a method is) -/
def sem (own : Nat → Nat) (bz : Bool) (pc : Nat) (i : Instr) (P : aP) (L S : List aV) (M : aM) : aS :=
  match i with
  | .iconst n => if -128 ≤ n ∧ n < 128 then aGo (pc + 1) L (.inl n :: S) M else aNo
  | .bipush n => if -128 ≤ n ∧ n < 128 then aGo (pc + 2) L (.inl n :: S) M else aNo
  | .sipush n => if -32768 ≤ n ∧ n < 32768 then aGo (pc + 3) L (.inl n :: S) M else aNo
  | .ldc _ => if P.2.2.1 = 4 ∧ -2147483648 ≤ P.2.2.2 ∧ P.2.2.2 < 2147483648 then aGo (pc + 2) L (.inl P.2.2.2 :: S) M else aNo
  | .ldc_w _ => if P.2.2.1 = 4 ∧ -2147483648 ≤ P.2.2.2 ∧ P.2.2.2 < 2147483648 then aGo (pc + 3) L (.inl P.2.2.2 :: S) M else aNo
  | .iload n => match L[n]? with | some (.inl x) => aGo (pc + 2) L (.inl x :: S) M | _ => aNo
  | .iload_n n => match L[(n : Nat)]? with | some (.inl x) => aGo (pc + 1) L (.inl x :: S) M | _ => aNo
  | .aload n => match L[n]? with | some (.inr (some x)) => aGo (pc + 2) L (.inr (some x) :: S) M | _ => aNo
  | .aload_n n => match L[(n : Nat)]? with | some (.inr (some x)) => aGo (pc + 1) L (.inr (some x) :: S) M | _ => aNo
  | .istore n => match S with | .inl x :: S' => if n < L.length then aGo (pc + 2) (L.set n (.inl x)) S' M else aNo | _ => aNo
  | .istore_n n => match S with | .inl x :: S' => if (n : Nat) < L.length then aGo (pc + 1) (L.set n (.inl x)) S' M else aNo | _ => aNo
  | .astore n => match S with | .inr (some x) :: S' => if n < L.length then aGo (pc + 2) (L.set n (.inr (some x))) S' M else aNo | _ => aNo
  | .astore_n n => match S with | .inr (some x) :: S' => if (n : Nat) < L.length then aGo (pc + 1) (L.set n (.inr (some x))) S' M else aNo | _ => aNo
  | .iinc n c => match L[n]? with | some (.inl x) => aGo (pc + 3) (L.set n (.inl (wr (x + c)))) S M | _ => aNo
  | .iadd => match S with | .inl y :: .inl x :: S' => aGo (pc + 1) L (.inl (wr (x + y)) :: S') M | _ => aNo
  | .isub => match S with | .inl y :: .inl x :: S' => aGo (pc + 1) L (.inl (wr (x - y)) :: S') M | _ => aNo
  | .imul => match S with | .inl y :: .inl x :: S' => aGo (pc + 1) L (.inl (wr (x * y)) :: S') M | _ => aNo
  | .idiv => match S with | .inl y :: .inl x :: S' => if y = 0 then aNo else aGo (pc + 1) L (.inl (wr (x.tdiv y)) :: S') M | _ => aNo
  | .irem => match S with | .inl y :: .inl x :: S' => if y = 0 then aNo else aGo (pc + 1) L (.inl (x.tmod y) :: S') M | _ => aNo
  | .ineg => match S with | .inl x :: S' => aGo (pc + 1) L (.inl (wr (-x)) :: S') M | _ => aNo
  | .iand => match S with | .inl y :: .inl x :: S' => aGo (pc + 1) L (.inl (iAnd x y) :: S') M | _ => aNo
  | .ior => match S with | .inl y :: .inl x :: S' => aGo (pc + 1) L (.inl (iOr x y) :: S') M | _ => aNo
  | .ixor => match S with | .inl y :: .inl x :: S' => aGo (pc + 1) L (.inl (iXor x y) :: S') M | _ => aNo
  | .ishl => match S with | .inl y :: .inl x :: S' => aGo (pc + 1) L (.inl (iShl x y) :: S') M | _ => aNo
  | .ishr => match S with | .inl y :: .inl x :: S' => aGo (pc + 1) L (.inl (iShr x y) :: S') M | _ => aNo
  | .iushr => match S with | .inl y :: .inl x :: S' => aGo (pc + 1) L (.inl (iUshr x y) :: S') M | _ => aNo
  | .i2b => match S with | .inl x :: S' => aGo (pc + 1) L (.inl (b8 x) :: S') M | _ => aNo
  | .dup => match S with | v :: S' => aGo (pc + 1) L (v :: v :: S') M | _ => aNo
  | .dup2 => match S with | v :: w :: S' => aGo (pc + 1) L (v :: w :: v :: w :: S') M | _ => aNo
  | .pop => match S with | _ :: S' => aGo (pc + 1) L S' M | _ => aNo
  | .goto off => if 0 ≤ (pc : Int) + off then aGo (tgt pc off) L S M else aNo
  | .ifCond .eq off => match S with | .inl x :: S' => aBr pc off (x = 0) L S' M | _ => aNo
  | .ifCond .ne off => match S with | .inl x :: S' => aBr pc off (¬ x = 0) L S' M | _ => aNo
  | .ifCond .lt off => match S with | .inl x :: S' => aBr pc off (x < 0) L S' M | _ => aNo
  | .ifCond .ge off => match S with | .inl x :: S' => aBr pc off (0 ≤ x) L S' M | _ => aNo
  | .ifCond .gt off => match S with | .inl x :: S' => aBr pc off (0 < x) L S' M | _ => aNo
  | .ifCond .le off => match S with | .inl x :: S' => aBr pc off (x ≤ 0) L S' M | _ => aNo
  | .if_icmp .eq off => match S with | .inl y :: .inl x :: S' => aBr pc off (x = y) L S' M | _ => aNo
  | .if_icmp .ne off => match S with | .inl y :: .inl x :: S' => aBr pc off (¬ x = y) L S' M | _ => aNo
  | .if_icmp .lt off => match S with | .inl y :: .inl x :: S' => aBr pc off (x < y) L S' M | _ => aNo
  | .if_icmp .ge off => match S with | .inl y :: .inl x :: S' => aBr pc off (y ≤ x) L S' M | _ => aNo
  | .if_icmp .gt off => match S with | .inl y :: .inl x :: S' => aBr pc off (y < x) L S' M | _ => aNo
  | .if_icmp .le off => match S with | .inl y :: .inl x :: S' => aBr pc off (x ≤ y) L S' M | _ => aNo
  | .tableswitch d lo hi offs => match S with
    | .inl x :: S' => if x < lo ∨ hi < x then (if 0 ≤ (pc : Int) + d then aGo (tgt pc d) L S' M else aNo) else (match offs[(x - lo).toNat]? with | some off => if 0 ≤ (pc : Int) + off then aGo (tgt pc off) L S' M else aNo | none => aNo)
    | _ => aNo
  | .lookupswitch d ps => match S with
    | .inl x :: S' => if (ps.toList.zip (ps.toList.drop 1)).all (fun (a, next) => a.1 < next.1) = true ∧ 0 ≤ (pc : Int) + Op.lookupswitch.offset ps.toList d x then aGo (tgt pc (Op.lookupswitch.offset ps.toList d x)) L S' M else aNo
    | _ => aNo
  | .getfield _ => match S with
    | .inr (some q) :: S' => match lay0[q]? with
      | some (.inl (c, refs)) => if c = P.1 then (match refs[P.2.1]? with
        | some (some q') => if P.2.2.1 = 2 then aGo (pc + 3) L (.inr (some q') :: S') M else aNo
        | some none => if P.2.2.1 ≤ 1 then aGo (pc + 3) L (.inl (M q P.2.1) :: S') M else aNo
        | none => aNo) else aNo
      | _ => aNo
    | _ => aNo
  | .putfield _ => match S with
    | .inl x :: .inr (some q) :: S' => match lay0[q]? with
      | some (.inl (c, refs)) => if c = P.1 ∧ refs[P.2.1]? = some none ∧ (P.2.2.1 = 0 ∨ P.2.2.1 = 1 ∧ (x = 0 ∨ x = 1)) then aGo (pc + 3) L S' (upM M q P.2.1 x) else aNo
      | _ => aNo
    | _ => aNo
  | .iaload => match S with
    | .inl j :: .inr (some q) :: S' => match lay0[q]? with
      | some (.inr (t, n)) => if t = 0 then (if 0 ≤ j ∧ j < (n : Int) then aGo (pc + 1) L (.inl (M q j.toNat) :: S') M else aNo) else if t = 2 ∧ q = 0 then (if 0 ≤ j ∧ j < M 0 4000 then aGo (pc + 1) L (.inl (M 0 j.toNat) :: S') M else aNo) else aNo
      | _ => aNo
    | _ => aNo
  | .baload => match S with
    | .inl j :: .inr (some q) :: S' => match lay0[q]? with
      | some (.inr (t, n)) => if t = 1 then (if 0 ≤ j ∧ j < (n : Int) then aGo (pc + 1) L (.inl (M q j.toNat) :: S') M else aNo) else aNo
      | _ => aNo
    | _ => aNo
  | .iastore => match S with
    | .inl x :: .inl j :: .inr (some q) :: S' => match lay0[q]? with
      | some (.inr (t, n)) => if t = 0 then (if 0 ≤ j ∧ j < (n : Int) then aGo (pc + 1) L S' (upM M q j.toNat x) else aNo) else aNo
      | _ => aNo
    | _ => aNo
  | .bastore => match S with
    | .inl x :: .inl j :: .inr (some q) :: S' => match lay0[q]? with
      | some (.inr (t, n)) => if t = 1 then (if 0 ≤ j ∧ j < (n : Int) then aGo (pc + 1) L S' (upM M q j.toNat (b8 x)) else aNo) else aNo
      | _ => aNo
    | _ => aNo
  | .arraylength => match S with
    | .inr (some 0) :: S' => aGo (pc + 1) L (.inl (M 0 4000) :: S') M
    | _ => aNo
  | .invokestatic _ => if P.2.2.1 = 12 then (match S with
      | .inl n :: .inl dp :: .inr (some q1) :: .inl sp :: .inr (some q0) :: S' => match lay0[q0]?, lay0[q1]? with
        | some (.inr (0, n0)), some (.inr (0, n1)) => if (0 ≤ sp ∧ 0 ≤ dp ∧ 0 ≤ n ∧ sp + n ≤ (n0 : Int) ∧ dp + n ≤ (n1 : Int)) ∧ S'.length ≤ 8 then aGo (pc + 3) L S' (cpM M q0 q1 sp.toNat dp.toNat n.toNat) else aNo
        | _, _ => aNo
      | _ => aNo)
    else if P.2.2.1 = 13 then (match S with | .inl y :: .inl x :: S' => if S'.length ≤ 8 then aGo (pc + 3) L (.inl (max x y) :: S') M else aNo | _ => aNo)
    else if P.2.2.1 = 14 then (match S with | .inl y :: .inl x :: S' => if S'.length ≤ 8 then aGo (pc + 3) L (.inl (min x y) :: S') M else aNo | _ => aNo)
    else if P.2.2.1 = 10 ∧ P.2.1 ≤ S.length ∧ S.length ≤ P.2.1 + 8 then .inr (.inl (P.1, (S.take P.2.1).reverse, pc + 3, S.drop P.2.1)) else aNo
  | .invokevirtual _ => if P.2.2.1 = 11 ∧ P.2.1 ≤ S.length ∧ S.length ≤ P.2.1 + 8 then (match (S.take P.2.1).reverse with
      | .inr (some q) :: _ => match lay0[q]? with
        | some (.inl (c, _)) => if c = own P.1 then .inr (.inl (P.1, (S.take P.2.1).reverse, pc + 3, S.drop P.2.1)) else aNo
        | _ => aNo
      | _ => aNo) else aNo
  | .ireturn => match S with
    | [.inl x] => if bz = true → (x = 0 ∨ x = 1) then .inr (.inr (some (.inl x))) else aNo
    | _ => aNo
  | .return_ => match S with | [] => .inr (.inr none) | _ => aNo
  | _ => aNo
/-- which place of the constant pool an instruction names -/
def idxOf (i : Instr) : Option Nat := match i with
  | .getfield k => some k
  | .putfield k => some k
  | .invokestatic k => some k
  | .invokevirtual k => some k
  | .ldc k => some k
  | .ldc_w k => some k
  | _ => none
def okLen (i : Instr) (n : Nat) : Bool := match i with
  | .bipush _ => n == 2 | .ldc _ => n == 2 | .iload _ => n == 2 | .aload _ => n == 2 | .istore _ => n == 2 | .astore _ => n == 2
  | .sipush _ => n == 3 | .ldc_w _ => n == 3 | .iinc _ _ => n == 3 | .goto _ => n == 3 | .ifCond _ _ => n == 3 | .if_icmp _ _ => n == 3
  | .getfield _ => n == 3 | .putfield _ => n == 3 | .invokestatic _ => n == 3 | .invokevirtual _ => n == 3
  | .tableswitch .. => true | .lookupswitch .. => true
  | _ => n == 1
def mOwn (c : Nat) : Nat := match mTab[c]? with | some e => e.2.2.1 | none => 999
def mBz (c : Nat) : Bool := match mTab[c]? with | some e => e.2.2.2.2.2.1 == some .boolean | none => false
def mVd (c : Nat) : Bool := match mTab[c]? with | some e => e.2.2.2.2.2.1 == none | none => false
def mMx (c : Nat) : Nat := match mTab[c]? with | some e => e.2.2.2.1 | none => 0
/-- the instruction at a place of a method, with what its pool place holds -/
def rfI (c pc : Nat) : Option (Instr × aP) := match mTab[c]? with
  | some e => match decode e.1 pc with
    | .ok (i, n) => if okLen i n = true then (match idxOf i with
      | none => some (i, (0, 0, 0, 0))
      | some k => match aPl[e.2.2.1]? with
        | some l => (l.lookup k).map (fun z => (i, z.1))
        | none => none) else none
    | .error _ => none
  | none => none
def stp (c pc : Nat) (L S : List aV) (M : aM) : aS := match rfI c pc with
  | some (i, P) => sem mOwn (mBz c) pc i P L S M
  | none => aNo
def rkF (c : Nat) (a : List aV) : Nat := mRk.getD c 0 + (if mRec.contains c then 8 * (7 - (match a.getLast? with | some (.inl o) => o.toNat | _ => 7)) else 0)
def padF (c : Nat) (a : List aV) : List aV := a ++ List.replicate (mMx c - a.length) (.inr none)
/-- what goes on behind a call -/
def cnt (vd : Bool) (q : Option aV × aM) (f : List aV → aM → aX) : aX := match vd, q.1 with
  | true, none => f [] q.2
  | false, some (.inl v) => f [.inl v] q.2
  | _, _ => none
def ex : Nat → Nat → Nat → Nat → List aV → List aV → aM → aX
  | 0, _, _, _, _, _, _ => none
  | n + 1, r, c, pc, L, S, M => match stp c pc L S M with
    | .inl none => none
    | .inl (some (pc', L', S', M')) => ex n r c pc' L' S' M'
    | .inr (.inl (d, a, pc', S')) => if rkF d a < r then (ex n (rkF d a) d 0 (padF d a) [] M).bind (fun q => cnt (mVd d) q (fun v M' => ex n r c pc' L (v ++ S') M')) else none
    | .inr (.inr v) => some (v, M)
theorem cnt_mono {vd : Bool} {q : Option aV × aM} {f g : List aV → aM → aX} {x : Option aV × aM} (h : ∀ v M y, f v M = some y → g v M = some y) (hc : cnt vd q f = some x) : cnt vd q g = some x := by
  unfold cnt at hc ⊢
  split at hc
  · exact h _ _ _ hc
  · exact h _ _ _ hc
  · cases hc
theorem ex_mono : ∀ (n r c pc : Nat) (L S : List aV) (M : aM) (x : Option aV × aM), ex n r c pc L S M = some x → ex (n + 1) r c pc L S M = some x := by
  intro n
  induction n with
  | zero => intro r c pc L S M x h; cases h
  | succ n ih =>
    intro r c pc L S M x h
    rw [ex] at h ⊢
    split at h
    · cases h
    · exact ih _ _ _ _ _ _ _ h
    · split at h
      · next hr =>
        rw [if_pos hr]
        rw [Option.bind_eq_some_iff] at h ⊢
        obtain ⟨q, h1, h2⟩ := h
        exact ⟨q, ih _ _ _ _ _ _ _ h1, cnt_mono (fun v M y hy => ih _ _ _ _ _ _ _ hy) h2⟩
      · cases h
    · exact h
theorem ex_le {n m r c pc : Nat} {L S : List aV} {M : aM} {x : Option aV × aM} (h : n ≤ m) (hx : ex n r c pc L S M = some x) : ex m r c pc L S M = some x := by
  induction h with
  | refl => exact hx
  | step _ ih => exact ex_mono _ _ _ _ _ _ _ _ ih
theorem ex_det {n m r c pc : Nat} {L S : List aV} {M : aM} {x y : Option aV × aM} (hx : ex n r c pc L S M = some x) (hy : ex m r c pc L S M = some y) : x = y := by
  have h1 := ex_le (Nat.le_max_left n m) hx
  have h2 := ex_le (Nat.le_max_right n m) hy
  rw [h1] at h2
  exact Option.some.inj h2
/-- the whole run as a function -/
noncomputable def run (r c pc : Nat) (L S : List aV) (M : aM) : aX :=
  @dite _ (∃ (x : Option aV × aM) (n : Nat), ex n r c pc L S M = some x) (Classical.propDecidable _) (fun h => some (Classical.choose h)) (fun _ => none)
theorem run_iff {r c pc : Nat} {L S : List aV} {M : aM} {x : Option aV × aM} : run r c pc L S M = some x ↔ ∃ n, ex n r c pc L S M = some x := by
  unfold run
  by_cases h : ∃ (x : Option aV × aM) (n : Nat), ex n r c pc L S M = some x
  · rw [dif_pos h]
    obtain ⟨n, hn⟩ := Classical.choose_spec h
    constructor
    · intro e; exact ⟨n, by rw [hn, ← Option.some.inj e]⟩
    · rintro ⟨m, hm⟩; rw [ex_det hn hm]
  · rw [dif_neg h]
    constructor
    · intro e; cases e
    · rintro ⟨m, hm⟩; exact absurd ⟨x, m, hm⟩ h
theorem run_ext {a b : aX} (h : ∀ x, a = some x ↔ b = some x) : a = b := by
  cases a with
  | none => cases b with
    | none => rfl
    | some y => exact ((h y).mpr rfl)
  | some x => exact ((h x).mp rfl).symm
noncomputable def fnA (c : Nat) (a : List aV) (M : aM) : aX := run (rkF c a) c 0 (padF c a) [] M
def bI (X : aX) (f : Int → aM → aX) : aX := match X with | some (some (.inl v), M) => f v M | _ => none
def bV (X : aX) (f : aM → aX) : aX := match X with | some (none, M) => f M | _ => none
theorem bI_s {v : Int} {M : aM} {f : Int → aM → aX} : bI (some (some (.inl v), M)) f = f v M := rfl
theorem bV_s {M : aM} {f : aM → aX} : bV (some (none, M)) f = f M := rfl
theorem run_go {r c pc pc' : Nat} {L S L' S' : List aV} {M M' : aM} (h : stp c pc L S M = aGo pc' L' S' M') : run r c pc L S M = run r c pc' L' S' M' := by
  refine run_ext fun x => ?_
  rw [run_iff, run_iff]
  constructor
  · rintro ⟨n, hn⟩
    cases n with
    | zero => cases hn
    | succ n => rw [ex, h] at hn; exact ⟨n, hn⟩
  · rintro ⟨n, hn⟩
    exact ⟨n + 1, by rw [ex, h]; exact hn⟩
theorem run_no {r c pc : Nat} {L S : List aV} {M : aM} (h : stp c pc L S M = aNo) : run r c pc L S M = none := by
  refine run_ext fun x => ?_
  rw [run_iff]
  constructor
  · rintro ⟨n, hn⟩
    cases n with
    | zero => cases hn
    | succ n => rw [ex, h] at hn; cases hn
  · intro h; cases h
theorem run_ret {r c pc : Nat} {L S : List aV} {M : aM} {v : Option aV} (h : stp c pc L S M = .inr (.inr v)) : run r c pc L S M = some (v, M) := run_iff.mpr ⟨1, by rw [ex, h]⟩
theorem run_call {r c pc d pc' : Nat} {L S a S' : List aV} {M : aM} (h : stp c pc L S M = .inr (.inl (d, a, pc', S'))) : run r c pc L S M = if rkF d a < r then (fnA d a M).bind (fun q => cnt (mVd d) q (fun v M' => run r c pc' L (v ++ S') M')) else none := by
  refine run_ext fun x => ?_
  rw [run_iff]
  by_cases hr : rkF d a < r
  · rw [if_pos hr, Option.bind_eq_some_iff]
    constructor
    · rintro ⟨n, hn⟩
      cases n with
      | zero => cases hn
      | succ n =>
        rw [ex, h] at hn
        dsimp only at hn
        rw [if_pos hr, Option.bind_eq_some_iff] at hn
        obtain ⟨q, h1, h2⟩ := hn
        exact ⟨q, run_iff.mpr ⟨n, h1⟩, cnt_mono (fun v M y hy => run_iff.mpr ⟨n, hy⟩) h2⟩
    · rintro ⟨q, h1, h2⟩
      obtain ⟨n, hn⟩ := run_iff.mp h1
      have hm : ∃ m, cnt (mVd d) q (fun v M' => ex m r c pc' L (v ++ S') M') = some x := by
        unfold cnt at h2 ⊢
        split at h2
        · exact run_iff.mp h2
        · exact run_iff.mp h2
        · cases h2
      obtain ⟨m, hm⟩ := hm
      refine ⟨max n m + 1, ?_⟩
      rw [ex, h]
      dsimp only
      rw [if_pos hr, Option.bind_eq_some_iff]
      exact ⟨q, ex_le (Nat.le_max_left n m) hn, cnt_mono (fun v M y hy => ex_le (Nat.le_max_right n m) hy) hm⟩
  · rw [if_neg hr]
    constructor
    · rintro ⟨n, hn⟩
      cases n with
      | zero => cases hn
      | succ n => rw [ex, h] at hn; dsimp only at hn; rw [if_neg hr] at hn; cases hn
    · intro h; cases h
theorem bind_bI {X : aX} {f : List aV → aM → aX} : X.bind (fun q => cnt false q f) = bI X (fun v M => f [.inl v] M) := by
  unfold bI cnt
  cases X with
  | none => rfl
  | some q =>
    obtain ⟨v, M⟩ := q
    rcases v with _ | (v | v) <;> rfl
theorem bind_bV {X : aX} {f : List aV → aM → aX} : X.bind (fun q => cnt true q f) = bV X (fun M => f [] M) := by
  unfold bV cnt
  cases X with
  | none => rfl
  | some q =>
    obtain ⟨v, M⟩ := q
    rcases v with _ | v <;> rfl
