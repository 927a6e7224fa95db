/-! What the tables say of the numbers of part 02: each word by its place. -/
def gT : List Jvm.Cond := lw_tbl.filter goodWord
def isNw : Jvm.Cond → Bool
  | .fieldLinkNest .. => true
  | .methodLinkNest .. => true
  | _ => false
def nT : List Jvm.Cond := lw_tbl.filter isNw
def nOK (U : State) : Prop := ∀ w ∈ nT, va_Nw w U
theorem nOK.warm {s U : State} (hW : s.WarmedH U.vm) (h : nOK s) : nOK U := by
  intro w hw
  have h1 := h w hw
  have h2 := (List.mem_filter.mp hw).2
  cases w <;> first | (exact va_Nw.warmF hW h1) | (exact va_Nw.warmM hW h1) | (exact absurd h2 (by simp [isNw]))
theorem nOK.same {s U : State} (e : s.vm = U.vm) (h : nOK s) : nOK U := by
  intro w hw
  have h1 := h w hw
  have h2 := (List.mem_filter.mp hw).2
  cases w <;> first | (exact va_Nw.same rfl e h1) | (exact absurd h2 (by simp [isNw]))
theorem gT_good : GoodIn gT gT := fun w h => ⟨h, good_of_word (List.mem_filter.mp h).2⟩
def chkW (p : Nat) (w : Jvm.Cond) : Bool := decide (lw_tbl[p]? = some w) && goodWord w
def chkN (p : Nat) (w : Jvm.Cond) : Bool := decide (lw_tbl[p]? = some w) && isNw w
theorem chkW_in {p : Nat} {w : Jvm.Cond} (h : chkW p w = true) : w ∈ gT := by
  simp only [chkW, Bool.and_eq_true, decide_eq_true_eq] at h
  exact List.mem_filter.mpr ⟨List.mem_of_getElem? h.1, h.2⟩
theorem chkN_in {p : Nat} {w : Jvm.Cond} (h : chkN p w = true) : w ∈ nT := by
  simp only [chkN, Bool.and_eq_true, decide_eq_true_eq] at h
  exact List.mem_filter.mpr ⟨List.mem_of_getElem? h.1, h.2⟩
def hostN : String := "ToadBank"
def clTy (c : Nat) : Nat → FieldType := match c with
  | 0 => tyX0
  | 1 => tyX1
  | 2 => tyX2
  | 3 => tyX3
  | 4 => tyX4
  | 5 => tyX5
  | 6 => tyX6
  | 7 => tyX7
  | 8 => tyX8
  | 9 => tyX9
  | 10 => tyX10
  | 11 => tyX11
  | 12 => tyX12
  | _ => fun _ => .int
theorem hosts : aCls.length = 17 := by decide +kernel
theorem clw_0 : (List.range 6).all (fun q => chkW (([270, 272, 274, 276, 278, 280] : List Nat).getD q 0) (u_lay RX0 TX0 q)) = true := by decide +kernel
theorem clg_0 : ∀ w ∈ u_ws RX0 TX0 6, w ∈ gT := by
  intro w hw
  obtain ⟨k, hk, rfl⟩ := List.mem_map.mp hw
  exact chkW_in (List.all_eq_true.mp clw_0 k hk)
theorem clw_1 : (List.range 7).all (fun q => chkW (([312, 314, 316, 318, 320, 322, 324] : List Nat).getD q 0) (u_lay RX1 TX1 q)) = true := by decide +kernel
theorem clg_1 : ∀ w ∈ u_ws RX1 TX1 7, w ∈ gT := by
  intro w hw
  obtain ⟨k, hk, rfl⟩ := List.mem_map.mp hw
  exact chkW_in (List.all_eq_true.mp clw_1 k hk)
theorem clw_2 : (List.range 6).all (fun q => chkW (([369, 371, 373, 375, 377, 379] : List Nat).getD q 0) (u_lay RX2 TX2 q)) = true := by decide +kernel
theorem clg_2 : ∀ w ∈ u_ws RX2 TX2 6, w ∈ gT := by
  intro w hw
  obtain ⟨k, hk, rfl⟩ := List.mem_map.mp hw
  exact chkW_in (List.all_eq_true.mp clw_2 k hk)
theorem clw_3 : (List.range 7).all (fun q => chkW (([238, 240, 242, 244, 246, 248, 250] : List Nat).getD q 0) (u_lay RX3 TX3 q)) = true := by decide +kernel
theorem clg_3 : ∀ w ∈ u_ws RX3 TX3 7, w ∈ gT := by
  intro w hw
  obtain ⟨k, hk, rfl⟩ := List.mem_map.mp hw
  exact chkW_in (List.all_eq_true.mp clw_3 k hk)
theorem clw_4 : (List.range 1).all (fun q => chkW (([255] : List Nat).getD q 0) (u_lay RX4 TX4 q)) = true := by decide +kernel
theorem clg_4 : ∀ w ∈ u_ws RX4 TX4 1, w ∈ gT := by
  intro w hw
  obtain ⟨k, hk, rfl⟩ := List.mem_map.mp hw
  exact chkW_in (List.all_eq_true.mp clw_4 k hk)
theorem clw_5 : (List.range 1).all (fun q => chkW (([208] : List Nat).getD q 0) (u_lay RX5 TX5 q)) = true := by decide +kernel
theorem clg_5 : ∀ w ∈ u_ws RX5 TX5 1, w ∈ gT := by
  intro w hw
  obtain ⟨k, hk, rfl⟩ := List.mem_map.mp hw
  exact chkW_in (List.all_eq_true.mp clw_5 k hk)
theorem clw_6 : (List.range 2).all (fun q => chkW (([293, 295] : List Nat).getD q 0) (u_lay RX6 TX6 q)) = true := by decide +kernel
theorem clg_6 : ∀ w ∈ u_ws RX6 TX6 2, w ∈ gT := by
  intro w hw
  obtain ⟨k, hk, rfl⟩ := List.mem_map.mp hw
  exact chkW_in (List.all_eq_true.mp clw_6 k hk)
theorem clw_7 : (List.range 4).all (fun q => chkW (([348, 350, 352, 354] : List Nat).getD q 0) (u_lay RX7 TX7 q)) = true := by decide +kernel
theorem clg_7 : ∀ w ∈ u_ws RX7 TX7 4, w ∈ gT := by
  intro w hw
  obtain ⟨k, hk, rfl⟩ := List.mem_map.mp hw
  exact chkW_in (List.all_eq_true.mp clw_7 k hk)
theorem clw_8 : (List.range 1).all (fun q => chkW (([334] : List Nat).getD q 0) (u_lay RX8 TX8 q)) = true := by decide +kernel
theorem clg_8 : ∀ w ∈ u_ws RX8 TX8 1, w ∈ gT := by
  intro w hw
  obtain ⟨k, hk, rfl⟩ := List.mem_map.mp hw
  exact chkW_in (List.all_eq_true.mp clw_8 k hk)
theorem clw_9 : (List.range 6).all (fun q => chkW (([148, 150, 152, 154, 156, 158] : List Nat).getD q 0) (u_lay RX9 TX9 q)) = true := by decide +kernel
theorem clg_9 : ∀ w ∈ u_ws RX9 TX9 6, w ∈ gT := by
  intro w hw
  obtain ⟨k, hk, rfl⟩ := List.mem_map.mp hw
  exact chkW_in (List.all_eq_true.mp clw_9 k hk)
theorem clw_10 : (List.range 8).all (fun q => chkW (([184, 186, 188, 190, 192, 194, 196, 198] : List Nat).getD q 0) (u_lay RX10 TX10 q)) = true := by decide +kernel
theorem clg_10 : ∀ w ∈ u_ws RX10 TX10 8, w ∈ gT := by
  intro w hw
  obtain ⟨k, hk, rfl⟩ := List.mem_map.mp hw
  exact chkW_in (List.all_eq_true.mp clw_10 k hk)
theorem clw_11 : (List.range 14).all (fun q => chkW (([398, 400, 402, 404, 406, 408, 410, 412, 414, 416, 418, 420, 422, 424] : List Nat).getD q 0) (u_lay RX11 TX11 q)) = true := by decide +kernel
theorem clg_11 : ∀ w ∈ u_ws RX11 TX11 14, w ∈ gT := by
  intro w hw
  obtain ⟨k, hk, rfl⟩ := List.mem_map.mp hw
  exact chkW_in (List.all_eq_true.mp clw_11 k hk)
theorem clw_12 : (List.range 50).all (fun q => chkW (([1232, 1234, 1236, 1238, 1240, 1242, 1244, 1246, 1248, 1250, 1252, 1254, 1256, 1258, 1260, 1262, 1264, 1266, 1268, 1270, 1272, 1274, 1276, 1278, 1280, 1282, 1284, 1286, 1288, 1290, 1292, 1294, 1296, 1298, 1300, 1302, 1304, 1306, 1308, 1310, 1312, 1314, 1316, 1318, 1320, 1322, 1324, 1326, 1328, 1330] : List Nat).getD q 0) (u_lay RX12 TX12 q)) = true := by decide +kernel
theorem clg_12 : ∀ w ∈ u_ws RX12 TX12 50, w ∈ gT := by
  intro w hw
  obtain ⟨k, hk, rfl⟩ := List.mem_map.mp hw
  exact chkW_in (List.all_eq_true.mp clw_12 k hk)
/-- what is known of the kind c -/
def clOK (c : Nat) (C : String) (T : u_T) (N : Nat) : Prop := (∀ w ∈ u_ws C T N, w ∈ gT) ∧ (∀ k, k < N → parseFieldDescriptor (T k).2.2.1 = some (clTy c k)) ∧ (∀ a, a < N → ∀ b, b < N → a ≠ b → (T a).2.1 ≠ (T b).2.1) ∧ aCls[c]? = some C
theorem cl_ok : ∀ (c : Nat) (q : vw_C), vwCl[c]? = some q → clOK c q.1 q.2.1 q.2.2
  | 0, q, h => by cases h; exact ⟨clg_0, tyX0_ok, nmX0, rfl⟩
  | 1, q, h => by cases h; exact ⟨clg_1, tyX1_ok, nmX1, rfl⟩
  | 2, q, h => by cases h; exact ⟨clg_2, tyX2_ok, nmX2, rfl⟩
  | 3, q, h => by cases h; exact ⟨clg_3, tyX3_ok, nmX3, rfl⟩
  | 4, q, h => by cases h; exact ⟨clg_4, tyX4_ok, nmX4, rfl⟩
  | 5, q, h => by cases h; exact ⟨clg_5, tyX5_ok, nmX5, rfl⟩
  | 6, q, h => by cases h; exact ⟨clg_6, tyX6_ok, nmX6, rfl⟩
  | 7, q, h => by cases h; exact ⟨clg_7, tyX7_ok, nmX7, rfl⟩
  | 8, q, h => by cases h; exact ⟨clg_8, tyX8_ok, nmX8, rfl⟩
  | 9, q, h => by cases h; exact ⟨clg_9, tyX9_ok, nmX9, rfl⟩
  | 10, q, h => by cases h; exact ⟨clg_10, tyX10_ok, nmX10, rfl⟩
  | 11, q, h => by cases h; exact ⟨clg_11, tyX11_ok, nmX11, rfl⟩
  | 12, q, h => by cases h; exact ⟨clg_12, tyX12_ok, nmX12, rfl⟩
  | _ + 13, q, h => by simp [vwCl] at h
theorem lay_obj : ∀ (q c : Nat) (refs : List (Option Nat)), lay0[q]? = some (.inl (c, refs)) → ∃ z : vw_C, vwCl[c]? = some z ∧ z.2.2 = refs.length := by
  intro q c refs h
  have hm := List.mem_of_getElem? h
  have hall : lay0.all (fun (e : aK) => match e with | .inl (c, refs) => (vwCl[c]?).map (fun z => z.2.2) == some refs.length | .inr (t, _) => t ≤ 2) = true := by decide +kernel
  have h1 := List.all_eq_true.mp hall _ hm
  simp only [beq_iff_eq, Option.map_eq_some_iff] at h1
  exact h1
theorem lay_zero : lay0[0]? = some (.inr (2, 0)) := rfl
/-- what is known of a method that is called: its words -/
def mOK (c : Nat) : Prop := ∃ (b : ByteArray) (y : MethodName) (o ml na : Nat) (rt : Option FieldType) (st : Bool), mTab[c]? = some (b, y, o, ml, na, rt, st) ∧ Jvm.Cond.code y b ml rt ∈ gT ∧ Jvm.Cond.initialized y.cls ∈ gT ∧ plainName y.cls = true ∧ aCls[o]? = some y.cls ∧ (y.cls ≠ "java/lang/invoke/MethodHandle" ∧ y.cls ≠ "java/lang/invoke/VarHandle" ∧ (parseMethodDescriptor y.desc).map (fun d => d.parameters.length) = some (if st = true then na else na - 1)) ∧ na ≤ ml ∧ ml ≤ 20 ∧ (st = false → 1 ≤ na ∧ Jvm.Cond.instanceMethod y ∈ gT ∧ Jvm.Cond.selects y.cls y y ∈ gT) ∧ (st = true → Jvm.Cond.static y ∈ gT)
theorem in_t1 : ∀ w ∈ tables_1_1, w ∈ lw_tbl := fun _ h => List.mem_append_right _ (List.mem_append_left _ h)
theorem in_t2 : ∀ w ∈ tables_1_2, w ∈ lw_tbl := fun _ h => List.mem_append_right _ (List.mem_append_right _ (List.mem_append_left _ h))
theorem in_t3 : ∀ w ∈ tables_1_3, w ∈ lw_tbl := fun _ h => List.mem_append_right _ (List.mem_append_right _ (List.mem_append_right _ (List.mem_append_left _ h)))
theorem in_t4 : ∀ w ∈ tables_1_4, w ∈ lw_tbl := fun _ h => List.mem_append_right _ (List.mem_append_right _ (List.mem_append_right _ (List.mem_append_right _ (List.mem_append_left _ h))))
theorem in_t5 : ∀ w ∈ tables_1_5, w ∈ lw_tbl := fun _ h => List.mem_append_right _ (List.mem_append_right _ (List.mem_append_right _ (List.mem_append_right _ (List.mem_append_right _ (List.mem_append_left _ h)))))
theorem in_t6 : ∀ w ∈ tables_1_6, w ∈ lw_tbl := fun _ h => List.mem_append_right _ (List.mem_append_right _ (List.mem_append_right _ (List.mem_append_right _ (List.mem_append_right _ (List.mem_append_right _ (List.mem_append_left _ h))))))
theorem in_t7 : ∀ w ∈ tables_1_7, w ∈ lw_tbl := fun _ h => List.mem_append_right _ (List.mem_append_right _ (List.mem_append_right _ (List.mem_append_right _ (List.mem_append_right _ (List.mem_append_right _ (List.mem_append_right _ h))))))
def chkM (y : MethodName) (pi ps px : Nat) (C : String) (na ml : Nat) (st : Bool) : Bool := chkW pi (.initialized y.cls) && (if st = true then chkW ps (.static y) else (chkW ps (.instanceMethod y) && chkW px (.selects y.cls y y) && decide (1 ≤ na))) && plainName y.cls && decide (C = y.cls) && decide (y.cls ≠ "java/lang/invoke/MethodHandle" ∧ y.cls ≠ "java/lang/invoke/VarHandle" ∧ (parseMethodDescriptor y.desc).map (fun d => d.parameters.length) = some (if st = true then na else na - 1)) && decide (na ≤ ml ∧ ml ≤ 20)
theorem mOK_of {c : Nat} {b : ByteArray} {y : MethodName} {o ml na : Nat} {rt : Option FieldType} {st : Bool} {pi ps px : Nat} {C : String} (h : mTab[c]? = some (b, y, o, ml, na, rt, st)) (hc : Jvm.Cond.code y b ml rt ∈ lw_tbl) (ho : aCls[o]? = some C) (k : chkM y pi ps px C na ml st = true) : mOK c := by
  simp only [chkM, Bool.and_eq_true, decide_eq_true_eq] at k
  obtain ⟨⟨⟨⟨⟨k1, k2⟩, k3⟩, k4⟩, k5⟩, k6⟩ := k
  refine ⟨b, y, o, ml, na, rt, st, h, List.mem_filter.mpr ⟨hc, rfl⟩, chkW_in k1, k3, by rw [ho, k4], k5, k6.1, k6.2, fun e => ?_, fun e => ?_⟩
  · subst e
    simp only [Bool.false_eq_true, if_false, Bool.and_eq_true, decide_eq_true_eq] at k2
    exact ⟨k2.2, chkW_in k2.1.1, chkW_in k2.1.2⟩
  · subst e
    simp only [if_true] at k2
    exact chkW_in k2
theorem mok_1 : mOK 1 := mOK_of (pi := 112) (ps := 679) (px := 680) (C := RX0) rfl (in_t3 _ (List.mem_of_getElem? (i := 96) rfl)) rfl (by decide +kernel)
theorem mok_2 : mOK 2 := mOK_of (pi := 112) (ps := 683) (px := 684) (C := RX0) rfl (in_t3 _ (List.mem_of_getElem? (i := 100) rfl)) rfl (by decide +kernel)
theorem mok_3 : mOK 3 := mOK_of (pi := 112) (ps := 687) (px := 688) (C := RX0) rfl (in_t3 _ (List.mem_of_getElem? (i := 104) rfl)) rfl (by decide +kernel)
theorem mok_4 : mOK 4 := mOK_of (pi := 112) (ps := 767) (px := 768) (C := RX0) rfl (in_t3 _ (List.mem_of_getElem? (i := 184) rfl)) rfl (by decide +kernel)
theorem mok_5 : mOK 5 := mOK_of (pi := 112) (ps := 692) (px := 16) (C := RX0) rfl (in_t3 _ (List.mem_of_getElem? (i := 108) rfl)) rfl (by decide +kernel)
theorem mok_6 : mOK 6 := mOK_of (pi := 112) (ps := 700) (px := 17) (C := RX0) rfl (in_t3 _ (List.mem_of_getElem? (i := 116) rfl)) rfl (by decide +kernel)
theorem mok_7 : mOK 7 := mOK_of (pi := 112) (ps := 704) (px := 18) (C := RX0) rfl (in_t3 _ (List.mem_of_getElem? (i := 120) rfl)) rfl (by decide +kernel)
theorem mok_8 : mOK 8 := mOK_of (pi := 112) (ps := 708) (px := 19) (C := RX0) rfl (in_t3 _ (List.mem_of_getElem? (i := 124) rfl)) rfl (by decide +kernel)
theorem mok_9 : mOK 9 := mOK_of (pi := 112) (ps := 712) (px := 20) (C := RX0) rfl (in_t3 _ (List.mem_of_getElem? (i := 128) rfl)) rfl (by decide +kernel)
theorem mok_10 : mOK 10 := mOK_of (pi := 112) (ps := 725) (px := 21) (C := RX0) rfl (in_t3 _ (List.mem_of_getElem? (i := 141) rfl)) rfl (by decide +kernel)
theorem mok_11 : mOK 11 := mOK_of (pi := 112) (ps := 729) (px := 22) (C := RX0) rfl (in_t3 _ (List.mem_of_getElem? (i := 145) rfl)) rfl (by decide +kernel)
theorem mok_13 : mOK 13 := mOK_of (pi := 114) (ps := 830) (px := 831) (C := RX1) rfl (in_t4 _ (List.mem_of_getElem? (i := 7) rfl)) rfl (by decide +kernel)
theorem mok_14 : mOK 14 := mOK_of (pi := 114) (ps := 880) (px := 881) (C := RX1) rfl (in_t4 _ (List.mem_of_getElem? (i := 57) rfl)) rfl (by decide +kernel)
theorem mok_15 : mOK 15 := mOK_of (pi := 114) (ps := 837) (px := 838) (C := RX1) rfl (in_t4 _ (List.mem_of_getElem? (i := 14) rfl)) rfl (by decide +kernel)
theorem mok_16 : mOK 16 := mOK_of (pi := 114) (ps := 843) (px := 27) (C := RX1) rfl (in_t4 _ (List.mem_of_getElem? (i := 19) rfl)) rfl (by decide +kernel)
theorem mok_17 : mOK 17 := mOK_of (pi := 114) (ps := 847) (px := 28) (C := RX1) rfl (in_t4 _ (List.mem_of_getElem? (i := 23) rfl)) rfl (by decide +kernel)
theorem mok_18 : mOK 18 := mOK_of (pi := 114) (ps := 851) (px := 852) (C := RX1) rfl (in_t4 _ (List.mem_of_getElem? (i := 28) rfl)) rfl (by decide +kernel)
theorem mok_19 : mOK 19 := mOK_of (pi := 114) (ps := 856) (px := 857) (C := RX1) rfl (in_t4 _ (List.mem_of_getElem? (i := 33) rfl)) rfl (by decide +kernel)
theorem mok_20 : mOK 20 := mOK_of (pi := 114) (ps := 868) (px := 869) (C := RX1) rfl (in_t4 _ (List.mem_of_getElem? (i := 45) rfl)) rfl (by decide +kernel)
theorem mok_21 : mOK 21 := mOK_of (pi := 114) (ps := 860) (px := 861) (C := RX1) rfl (in_t4 _ (List.mem_of_getElem? (i := 37) rfl)) rfl (by decide +kernel)
theorem mok_23 : mOK 23 := mOK_of (pi := 117) (ps := 1054) (px := 1055) (C := RX2) rfl (in_t4 _ (List.mem_of_getElem? (i := 231) rfl)) rfl (by decide +kernel)
theorem mok_24 : mOK 24 := mOK_of (pi := 117) (ps := 1077) (px := 1078) (C := RX2) rfl (in_t5 _ (List.mem_of_getElem? (i := 14) rfl)) rfl (by decide +kernel)
theorem mok_25 : mOK 25 := mOK_of (pi := 117) (ps := 1082) (px := 41) (C := RX2) rfl (in_t5 _ (List.mem_of_getElem? (i := 18) rfl)) rfl (by decide +kernel)
theorem mok_26 : mOK 26 := mOK_of (pi := 117) (ps := 1172) (px := 1173) (C := RX2) rfl (in_t5 _ (List.mem_of_getElem? (i := 109) rfl)) rfl (by decide +kernel)
theorem mok_27 : mOK 27 := mOK_of (pi := 117) (ps := 1067) (px := 1068) (C := RX2) rfl (in_t5 _ (List.mem_of_getElem? (i := 4) rfl)) rfl (by decide +kernel)
theorem mok_28 : mOK 28 := mOK_of (pi := 117) (ps := 1074) (px := 40) (C := RX2) rfl (in_t5 _ (List.mem_of_getElem? (i := 10) rfl)) rfl (by decide +kernel)
theorem mok_29 : mOK 29 := mOK_of (pi := 117) (ps := 1086) (px := 1087) (C := RX2) rfl (in_t5 _ (List.mem_of_getElem? (i := 23) rfl)) rfl (by decide +kernel)
theorem mok_30 : mOK 30 := mOK_of (pi := 117) (ps := 1091) (px := 42) (C := RX2) rfl (in_t5 _ (List.mem_of_getElem? (i := 27) rfl)) rfl (by decide +kernel)
theorem mok_31 : mOK 31 := mOK_of (pi := 117) (ps := 1095) (px := 1096) (C := RX2) rfl (in_t5 _ (List.mem_of_getElem? (i := 32) rfl)) rfl (by decide +kernel)
theorem mok_32 : mOK 32 := mOK_of (pi := 117) (ps := 1099) (px := 1100) (C := RX2) rfl (in_t5 _ (List.mem_of_getElem? (i := 36) rfl)) rfl (by decide +kernel)
theorem mok_33 : mOK 33 := mOK_of (pi := 117) (ps := 1104) (px := 43) (C := RX2) rfl (in_t5 _ (List.mem_of_getElem? (i := 40) rfl)) rfl (by decide +kernel)
theorem mok_34 : mOK 34 := mOK_of (pi := 117) (ps := 1111) (px := 1112) (C := RX2) rfl (in_t5 _ (List.mem_of_getElem? (i := 48) rfl)) rfl (by decide +kernel)
theorem mok_35 : mOK 35 := mOK_of (pi := 117) (ps := 1116) (px := 44) (C := RX2) rfl (in_t5 _ (List.mem_of_getElem? (i := 52) rfl)) rfl (by decide +kernel)
theorem mok_36 : mOK 36 := mOK_of (pi := 117) (ps := 1127) (px := 1128) (C := RX2) rfl (in_t5 _ (List.mem_of_getElem? (i := 64) rfl)) rfl (by decide +kernel)
theorem mok_37 : mOK 37 := mOK_of (pi := 117) (ps := 1132) (px := 45) (C := RX2) rfl (in_t5 _ (List.mem_of_getElem? (i := 68) rfl)) rfl (by decide +kernel)
theorem mok_38 : mOK 38 := mOK_of (pi := 117) (ps := 1139) (px := 1140) (C := RX2) rfl (in_t5 _ (List.mem_of_getElem? (i := 76) rfl)) rfl (by decide +kernel)
theorem mok_39 : mOK 39 := mOK_of (pi := 117) (ps := 1144) (px := 46) (C := RX2) rfl (in_t5 _ (List.mem_of_getElem? (i := 80) rfl)) rfl (by decide +kernel)
theorem mok_40 : mOK 40 := mOK_of (pi := 117) (ps := 1148) (px := 47) (C := RX2) rfl (in_t5 _ (List.mem_of_getElem? (i := 84) rfl)) rfl (by decide +kernel)
theorem mok_42 : mOK 42 := mOK_of (pi := 111) (ps := 496) (px := 497) (C := RX3) rfl (in_t2 _ (List.mem_of_getElem? (i := 153) rfl)) rfl (by decide +kernel)
theorem mok_43 : mOK 43 := mOK_of (pi := 111) (ps := 600) (px := 601) (C := RX3) rfl (in_t3 _ (List.mem_of_getElem? (i := 17) rfl)) rfl (by decide +kernel)
theorem mok_44 : mOK 44 := mOK_of (pi := 111) (ps := 523) (px := 524) (C := RX3) rfl (in_t2 _ (List.mem_of_getElem? (i := 180) rfl)) rfl (by decide +kernel)
theorem mok_45 : mOK 45 := mOK_of (pi := 111) (ps := 560) (px := 561) (C := RX3) rfl (in_t2 _ (List.mem_of_getElem? (i := 217) rfl)) rfl (by decide +kernel)
theorem mok_46 : mOK 46 := mOK_of (pi := 111) (ps := 588) (px := 589) (C := RX3) rfl (in_t3 _ (List.mem_of_getElem? (i := 5) rfl)) rfl (by decide +kernel)
theorem mok_47 : mOK 47 := mOK_of (pi := 111) (ps := 549) (px := 550) (C := RX3) rfl (in_t2 _ (List.mem_of_getElem? (i := 206) rfl)) rfl (by decide +kernel)
theorem mok_48 : mOK 48 := mOK_of (pi := 111) (ps := 584) (px := 585) (C := RX3) rfl (in_t3 _ (List.mem_of_getElem? (i := 1) rfl)) rfl (by decide +kernel)
theorem mok_49 : mOK 49 := mOK_of (pi := 111) (ps := 695) (px := 696) (C := RX3) rfl (in_t3 _ (List.mem_of_getElem? (i := 112) rfl)) rfl (by decide +kernel)
theorem mok_51 : mOK 51 := mOK_of (pi := 110) (ps := 488) (px := 489) (C := RX4) rfl (in_t2 _ (List.mem_of_getElem? (i := 145) rfl)) rfl (by decide +kernel)
theorem mok_52 : mOK 52 := mOK_of (pi := 110) (ps := 501) (px := 0) (C := RX4) rfl (in_t2 _ (List.mem_of_getElem? (i := 157) rfl)) rfl (by decide +kernel)
theorem mok_53 : mOK 53 := mOK_of (pi := 110) (ps := 565) (px := 5) (C := RX4) rfl (in_t2 _ (List.mem_of_getElem? (i := 221) rfl)) rfl (by decide +kernel)
theorem mok_54 : mOK 54 := mOK_of (pi := 110) (ps := 569) (px := 6) (C := RX4) rfl (in_t2 _ (List.mem_of_getElem? (i := 225) rfl)) rfl (by decide +kernel)
theorem mok_55 : mOK 55 := mOK_of (pi := 110) (ps := 581) (px := 9) (C := RX4) rfl (in_t2 _ (List.mem_of_getElem? (i := 237) rfl)) rfl (by decide +kernel)
theorem mok_56 : mOK 56 := mOK_of (pi := 110) (ps := 573) (px := 7) (C := RX4) rfl (in_t2 _ (List.mem_of_getElem? (i := 229) rfl)) rfl (by decide +kernel)
theorem mok_57 : mOK 57 := mOK_of (pi := 110) (ps := 577) (px := 8) (C := RX4) rfl (in_t2 _ (List.mem_of_getElem? (i := 233) rfl)) rfl (by decide +kernel)
theorem mok_58 : mOK 58 := mOK_of (pi := 110) (ps := 528) (px := 1) (C := RX4) rfl (in_t2 _ (List.mem_of_getElem? (i := 184) rfl)) rfl (by decide +kernel)
theorem mok_59 : mOK 59 := mOK_of (pi := 110) (ps := 532) (px := 2) (C := RX4) rfl (in_t2 _ (List.mem_of_getElem? (i := 188) rfl)) rfl (by decide +kernel)
theorem mok_60 : mOK 60 := mOK_of (pi := 110) (ps := 536) (px := 3) (C := RX4) rfl (in_t2 _ (List.mem_of_getElem? (i := 192) rfl)) rfl (by decide +kernel)
theorem mok_61 : mOK 61 := mOK_of (pi := 110) (ps := 546) (px := 4) (C := RX4) rfl (in_t2 _ (List.mem_of_getElem? (i := 202) rfl)) rfl (by decide +kernel)
theorem mok_63 : mOK 63 := mOK_of (pi := 109) (ps := 616) (px := 617) (C := RX5) rfl (in_t3 _ (List.mem_of_getElem? (i := 33) rfl)) rfl (by decide +kernel)
theorem mok_64 : mOK 64 := mOK_of (pi := 109) (ps := 622) (px := 10) (C := RX5) rfl (in_t3 _ (List.mem_of_getElem? (i := 38) rfl)) rfl (by decide +kernel)
theorem mok_65 : mOK 65 := mOK_of (pi := 109) (ps := 631) (px := 11) (C := RX5) rfl (in_t3 _ (List.mem_of_getElem? (i := 47) rfl)) rfl (by decide +kernel)
theorem mok_66 : mOK 66 := mOK_of (pi := 109) (ps := 637) (px := 12) (C := RX5) rfl (in_t3 _ (List.mem_of_getElem? (i := 53) rfl)) rfl (by decide +kernel)
theorem mok_67 : mOK 67 := mOK_of (pi := 109) (ps := 641) (px := 13) (C := RX5) rfl (in_t3 _ (List.mem_of_getElem? (i := 57) rfl)) rfl (by decide +kernel)
theorem mok_68 : mOK 68 := mOK_of (pi := 109) (ps := 653) (px := 14) (C := RX5) rfl (in_t3 _ (List.mem_of_getElem? (i := 69) rfl)) rfl (by decide +kernel)
theorem mok_70 : mOK 70 := mOK_of (pi := 113) (ps := 670) (px := 671) (C := RX6) rfl (in_t3 _ (List.mem_of_getElem? (i := 87) rfl)) rfl (by decide +kernel)
theorem mok_71 : mOK 71 := mOK_of (pi := 113) (ps := 675) (px := 15) (C := RX6) rfl (in_t3 _ (List.mem_of_getElem? (i := 91) rfl)) rfl (by decide +kernel)
theorem mok_72 : mOK 72 := mOK_of (pi := 113) (ps := 757) (px := 24) (C := RX6) rfl (in_t3 _ (List.mem_of_getElem? (i := 173) rfl)) rfl (by decide +kernel)
theorem mok_73 : mOK 73 := mOK_of (pi := 113) (ps := 764) (px := 25) (C := RX6) rfl (in_t3 _ (List.mem_of_getElem? (i := 180) rfl)) rfl (by decide +kernel)
theorem mok_74 : mOK 74 := mOK_of (pi := 113) (ps := 746) (px := 23) (C := RX6) rfl (in_t3 _ (List.mem_of_getElem? (i := 162) rfl)) rfl (by decide +kernel)
theorem mok_76 : mOK 76 := mOK_of (pi := 116) (ps := 918) (px := 919) (C := RX7) rfl (in_t4 _ (List.mem_of_getElem? (i := 95) rfl)) rfl (by decide +kernel)
theorem mok_77 : mOK 77 := mOK_of (pi := 116) (ps := 925) (px := 30) (C := RX7) rfl (in_t4 _ (List.mem_of_getElem? (i := 101) rfl)) rfl (by decide +kernel)
theorem mok_78 : mOK 78 := mOK_of (pi := 116) (ps := 929) (px := 31) (C := RX7) rfl (in_t4 _ (List.mem_of_getElem? (i := 105) rfl)) rfl (by decide +kernel)
theorem mok_79 : mOK 79 := mOK_of (pi := 116) (ps := 970) (px := 971) (C := RX7) rfl (in_t4 _ (List.mem_of_getElem? (i := 147) rfl)) rfl (by decide +kernel)
theorem mok_80 : mOK 80 := mOK_of (pi := 116) (ps := 976) (px := 33) (C := RX7) rfl (in_t4 _ (List.mem_of_getElem? (i := 152) rfl)) rfl (by decide +kernel)
theorem mok_81 : mOK 81 := mOK_of (pi := 116) (ps := 980) (px := 34) (C := RX7) rfl (in_t4 _ (List.mem_of_getElem? (i := 156) rfl)) rfl (by decide +kernel)
theorem mok_82 : mOK 82 := mOK_of (pi := 116) (ps := 984) (px := 35) (C := RX7) rfl (in_t4 _ (List.mem_of_getElem? (i := 160) rfl)) rfl (by decide +kernel)
theorem mok_83 : mOK 83 := mOK_of (pi := 116) (ps := 988) (px := 989) (C := RX7) rfl (in_t4 _ (List.mem_of_getElem? (i := 165) rfl)) rfl (by decide +kernel)
theorem mok_84 : mOK 84 := mOK_of (pi := 116) (ps := 992) (px := 993) (C := RX7) rfl (in_t4 _ (List.mem_of_getElem? (i := 169) rfl)) rfl (by decide +kernel)
theorem mok_86 : mOK 86 := mOK_of (pi := 115) (ps := 937) (px := 938) (C := RX8) rfl (in_t4 _ (List.mem_of_getElem? (i := 114) rfl)) rfl (by decide +kernel)
theorem mok_87 : mOK 87 := mOK_of (pi := 115) (ps := 942) (px := 32) (C := RX8) rfl (in_t4 _ (List.mem_of_getElem? (i := 118) rfl)) rfl (by decide +kernel)
theorem mok_88 : mOK 88 := mOK_of (pi := 115) (ps := 945) (px := 946) (C := RX8) rfl (in_t4 _ (List.mem_of_getElem? (i := 122) rfl)) rfl (by decide +kernel)
theorem mok_89 : mOK 89 := mOK_of (pi := 115) (ps := 953) (px := 954) (C := RX8) rfl (in_t4 _ (List.mem_of_getElem? (i := 130) rfl)) rfl (by decide +kernel)
theorem mok_90 : mOK 90 := mOK_of (pi := 115) (ps := 962) (px := 963) (C := RX8) rfl (in_t4 _ (List.mem_of_getElem? (i := 139) rfl)) rfl (by decide +kernel)
theorem mok_92 : mOK 92 := mOK_of (pi := 107) (ps := 476) (px := 477) (C := RX9) rfl (in_t2 _ (List.mem_of_getElem? (i := 133) rfl)) rfl (by decide +kernel)
theorem mok_93 : mOK 93 := mOK_of (pi := 107) (ps := 480) (px := 481) (C := RX9) rfl (in_t2 _ (List.mem_of_getElem? (i := 137) rfl)) rfl (by decide +kernel)
theorem mok_94 : mOK 94 := mOK_of (pi := 107) (ps := 596) (px := 597) (C := RX9) rfl (in_t3 _ (List.mem_of_getElem? (i := 13) rfl)) rfl (by decide +kernel)
theorem mok_95 : mOK 95 := mOK_of (pi := 107) (ps := 508) (px := 509) (C := RX9) rfl (in_t2 _ (List.mem_of_getElem? (i := 165) rfl)) rfl (by decide +kernel)
theorem mok_96 : mOK 96 := mOK_of (pi := 107) (ps := 1014) (px := 1015) (C := RX9) rfl (in_t4 _ (List.mem_of_getElem? (i := 191) rfl)) rfl (by decide +kernel)
theorem mok_97 : mOK 97 := mOK_of (pi := 107) (ps := 1049) (px := 1050) (C := RX9) rfl (in_t4 _ (List.mem_of_getElem? (i := 226) rfl)) rfl (by decide +kernel)
theorem mok_98 : mOK 98 := mOK_of (pi := 107) (ps := 1123) (px := 1124) (C := RX9) rfl (in_t5 _ (List.mem_of_getElem? (i := 60) rfl)) rfl (by decide +kernel)
theorem mok_99 : mOK 99 := mOK_of (pi := 107) (ps := 492) (px := 493) (C := RX9) rfl (in_t2 _ (List.mem_of_getElem? (i := 149) rfl)) rfl (by decide +kernel)
theorem mok_100 : mOK 100 := mOK_of (pi := 107) (ps := 592) (px := 593) (C := RX9) rfl (in_t3 _ (List.mem_of_getElem? (i := 9) rfl)) rfl (by decide +kernel)
theorem mok_101 : mOK 101 := mOK_of (pi := 107) (ps := 504) (px := 505) (C := RX9) rfl (in_t2 _ (List.mem_of_getElem? (i := 161) rfl)) rfl (by decide +kernel)
theorem mok_102 : mOK 102 := mOK_of (pi := 107) (ps := 519) (px := 520) (C := RX9) rfl (in_t2 _ (List.mem_of_getElem? (i := 176) rfl)) rfl (by decide +kernel)
theorem mok_103 : mOK 103 := mOK_of (pi := 107) (ps := 512) (px := 513) (C := RX9) rfl (in_t2 _ (List.mem_of_getElem? (i := 169) rfl)) rfl (by decide +kernel)
theorem mok_104 : mOK 104 := mOK_of (pi := 107) (ps := 661) (px := 662) (C := RX9) rfl (in_t3 _ (List.mem_of_getElem? (i := 78) rfl)) rfl (by decide +kernel)
theorem mok_105 : mOK 105 := mOK_of (pi := 107) (ps := 539) (px := 540) (C := RX9) rfl (in_t2 _ (List.mem_of_getElem? (i := 196) rfl)) rfl (by decide +kernel)
theorem mok_106 : mOK 106 := mOK_of (pi := 107) (ps := 553) (px := 554) (C := RX9) rfl (in_t2 _ (List.mem_of_getElem? (i := 210) rfl)) rfl (by decide +kernel)
theorem mok_108 : mOK 108 := mOK_of (pi := 108) (ps := 611) (px := 612) (C := RX10) rfl (in_t3 _ (List.mem_of_getElem? (i := 28) rfl)) rfl (by decide +kernel)
theorem mok_109 : mOK 109 := mOK_of (pi := 108) (ps := 775) (px := 776) (C := RX10) rfl (in_t3 _ (List.mem_of_getElem? (i := 192) rfl)) rfl (by decide +kernel)
theorem mok_110 : mOK 110 := mOK_of (pi := 108) (ps := 448) (px := 449) (C := RX10) rfl (in_t2 _ (List.mem_of_getElem? (i := 105) rfl)) rfl (by decide +kernel)
theorem mok_111 : mOK 111 := mOK_of (pi := 108) (ps := 815) (px := 816) (C := RX10) rfl (in_t3 _ (List.mem_of_getElem? (i := 232) rfl)) rfl (by decide +kernel)
theorem mok_112 : mOK 112 := mOK_of (pi := 108) (ps := 444) (px := 445) (C := RX10) rfl (in_t2 _ (List.mem_of_getElem? (i := 101) rfl)) rfl (by decide +kernel)
theorem mok_113 : mOK 113 := mOK_of (pi := 108) (ps := 435) (px := 436) (C := RX10) rfl (in_t2 _ (List.mem_of_getElem? (i := 92) rfl)) rfl (by decide +kernel)
theorem mok_114 : mOK 114 := mOK_of (pi := 108) (ps := 644) (px := 645) (C := RX10) rfl (in_t3 _ (List.mem_of_getElem? (i := 61) rfl)) rfl (by decide +kernel)
theorem mok_115 : mOK 115 := mOK_of (pi := 108) (ps := 648) (px := 649) (C := RX10) rfl (in_t3 _ (List.mem_of_getElem? (i := 65) rfl)) rfl (by decide +kernel)
theorem mok_116 : mOK 116 := mOK_of (pi := 108) (ps := 656) (px := 657) (C := RX10) rfl (in_t3 _ (List.mem_of_getElem? (i := 73) rfl)) rfl (by decide +kernel)
theorem mok_117 : mOK 117 := mOK_of (pi := 108) (ps := 452) (px := 453) (C := RX10) rfl (in_t2 _ (List.mem_of_getElem? (i := 109) rfl)) rfl (by decide +kernel)
theorem mok_118 : mOK 118 := mOK_of (pi := 108) (ps := 464) (px := 465) (C := RX10) rfl (in_t2 _ (List.mem_of_getElem? (i := 121) rfl)) rfl (by decide +kernel)
theorem mok_119 : mOK 119 := mOK_of (pi := 108) (ps := 468) (px := 469) (C := RX10) rfl (in_t2 _ (List.mem_of_getElem? (i := 125) rfl)) rfl (by decide +kernel)
theorem mok_120 : mOK 120 := mOK_of (pi := 108) (ps := 460) (px := 461) (C := RX10) rfl (in_t2 _ (List.mem_of_getElem? (i := 117) rfl)) rfl (by decide +kernel)
theorem mok_121 : mOK 121 := mOK_of (pi := 108) (ps := 716) (px := 717) (C := RX10) rfl (in_t3 _ (List.mem_of_getElem? (i := 133) rfl)) rfl (by decide +kernel)
theorem mok_122 : mOK 122 := mOK_of (pi := 108) (ps := 720) (px := 721) (C := RX10) rfl (in_t3 _ (List.mem_of_getElem? (i := 137) rfl)) rfl (by decide +kernel)
theorem mok_123 : mOK 123 := mOK_of (pi := 108) (ps := 798) (px := 799) (C := RX10) rfl (in_t3 _ (List.mem_of_getElem? (i := 215) rfl)) rfl (by decide +kernel)
theorem mok_124 : mOK 124 := mOK_of (pi := 108) (ps := 779) (px := 780) (C := RX10) rfl (in_t3 _ (List.mem_of_getElem? (i := 196) rfl)) rfl (by decide +kernel)
theorem mok_125 : mOK 125 := mOK_of (pi := 108) (ps := 784) (px := 785) (C := RX10) rfl (in_t3 _ (List.mem_of_getElem? (i := 201) rfl)) rfl (by decide +kernel)
theorem mok_126 : mOK 126 := mOK_of (pi := 108) (ps := 908) (px := 909) (C := RX10) rfl (in_t4 _ (List.mem_of_getElem? (i := 85) rfl)) rfl (by decide +kernel)
theorem mok_127 : mOK 127 := mOK_of (pi := 108) (ps := 803) (px := 804) (C := RX10) rfl (in_t3 _ (List.mem_of_getElem? (i := 220) rfl)) rfl (by decide +kernel)
theorem mok_128 : mOK 128 := mOK_of (pi := 108) (ps := 808) (px := 26) (C := RX10) rfl (in_t3 _ (List.mem_of_getElem? (i := 224) rfl)) rfl (by decide +kernel)
theorem mok_129 : mOK 129 := mOK_of (pi := 108) (ps := 749) (px := 750) (C := RX10) rfl (in_t3 _ (List.mem_of_getElem? (i := 166) rfl)) rfl (by decide +kernel)
theorem mok_130 : mOK 130 := mOK_of (pi := 108) (ps := 1000) (px := 1001) (C := RX10) rfl (in_t4 _ (List.mem_of_getElem? (i := 177) rfl)) rfl (by decide +kernel)
theorem mok_131 : mOK 131 := mOK_of (pi := 108) (ps := 738) (px := 739) (C := RX10) rfl (in_t3 _ (List.mem_of_getElem? (i := 155) rfl)) rfl (by decide +kernel)
theorem mok_133 : mOK 133 := mOK_of (pi := 106) (ps := 428) (px := 429) (C := RX11) rfl (in_t2 _ (List.mem_of_getElem? (i := 85) rfl)) rfl (by decide +kernel)
theorem mok_134 : mOK 134 := mOK_of (pi := 106) (ps := 440) (px := 441) (C := RX11) rfl (in_t2 _ (List.mem_of_getElem? (i := 97) rfl)) rfl (by decide +kernel)
theorem mok_135 : mOK 135 := mOK_of (pi := 106) (ps := 456) (px := 457) (C := RX11) rfl (in_t2 _ (List.mem_of_getElem? (i := 113) rfl)) rfl (by decide +kernel)
theorem mok_136 : mOK 136 := mOK_of (pi := 106) (ps := 472) (px := 473) (C := RX11) rfl (in_t2 _ (List.mem_of_getElem? (i := 129) rfl)) rfl (by decide +kernel)
theorem mok_137 : mOK 137 := mOK_of (pi := 106) (ps := 484) (px := 485) (C := RX11) rfl (in_t2 _ (List.mem_of_getElem? (i := 141) rfl)) rfl (by decide +kernel)
theorem mok_138 : mOK 138 := mOK_of (pi := 106) (ps := 607) (px := 608) (C := RX11) rfl (in_t3 _ (List.mem_of_getElem? (i := 24) rfl)) rfl (by decide +kernel)
theorem mok_139 : mOK 139 := mOK_of (pi := 106) (ps := 666) (px := 667) (C := RX11) rfl (in_t3 _ (List.mem_of_getElem? (i := 83) rfl)) rfl (by decide +kernel)
theorem mok_140 : mOK 140 := mOK_of (pi := 106) (ps := 771) (px := 772) (C := RX11) rfl (in_t3 _ (List.mem_of_getElem? (i := 188) rfl)) rfl (by decide +kernel)
theorem mok_141 : mOK 141 := mOK_of (pi := 106) (ps := 790) (px := 791) (C := RX11) rfl (in_t3 _ (List.mem_of_getElem? (i := 207) rfl)) rfl (by decide +kernel)
theorem mok_142 : mOK 142 := mOK_of (pi := 106) (ps := 811) (px := 812) (C := RX11) rfl (in_t3 _ (List.mem_of_getElem? (i := 228) rfl)) rfl (by decide +kernel)
theorem mok_143 : mOK 143 := mOK_of (pi := 106) (ps := 821) (px := 822) (C := RX11) rfl (in_t3 _ (List.mem_of_getElem? (i := 238) rfl)) rfl (by decide +kernel)
theorem mok_144 : mOK 144 := mOK_of (pi := 106) (ps := 826) (px := 827) (C := RX11) rfl (in_t4 _ (List.mem_of_getElem? (i := 3) rfl)) rfl (by decide +kernel)
theorem mok_145 : mOK 145 := mOK_of (pi := 106) (ps := 864) (px := 865) (C := RX11) rfl (in_t4 _ (List.mem_of_getElem? (i := 41) rfl)) rfl (by decide +kernel)
theorem mok_146 : mOK 146 := mOK_of (pi := 106) (ps := 872) (px := 873) (C := RX11) rfl (in_t4 _ (List.mem_of_getElem? (i := 49) rfl)) rfl (by decide +kernel)
theorem mok_147 : mOK 147 := mOK_of (pi := 106) (ps := 891) (px := 892) (C := RX11) rfl (in_t4 _ (List.mem_of_getElem? (i := 68) rfl)) rfl (by decide +kernel)
theorem mok_148 : mOK 148 := mOK_of (pi := 106) (ps := 877) (px := 29) (C := RX11) rfl (in_t4 _ (List.mem_of_getElem? (i := 53) rfl)) rfl (by decide +kernel)
theorem mok_149 : mOK 149 := mOK_of (pi := 106) (ps := 895) (px := 896) (C := RX11) rfl (in_t4 _ (List.mem_of_getElem? (i := 72) rfl)) rfl (by decide +kernel)
theorem mok_150 : mOK 150 := mOK_of (pi := 106) (ps := 899) (px := 900) (C := RX11) rfl (in_t4 _ (List.mem_of_getElem? (i := 76) rfl)) rfl (by decide +kernel)
theorem mok_151 : mOK 151 := mOK_of (pi := 106) (ps := 904) (px := 905) (C := RX11) rfl (in_t4 _ (List.mem_of_getElem? (i := 81) rfl)) rfl (by decide +kernel)
theorem mok_152 : mOK 152 := mOK_of (pi := 106) (ps := 914) (px := 915) (C := RX11) rfl (in_t4 _ (List.mem_of_getElem? (i := 91) rfl)) rfl (by decide +kernel)
theorem mok_153 : mOK 153 := mOK_of (pi := 106) (ps := 933) (px := 934) (C := RX11) rfl (in_t4 _ (List.mem_of_getElem? (i := 110) rfl)) rfl (by decide +kernel)
theorem mok_154 : mOK 154 := mOK_of (pi := 106) (ps := 958) (px := 959) (C := RX11) rfl (in_t4 _ (List.mem_of_getElem? (i := 135) rfl)) rfl (by decide +kernel)
theorem mok_155 : mOK 155 := mOK_of (pi := 106) (ps := 966) (px := 967) (C := RX11) rfl (in_t4 _ (List.mem_of_getElem? (i := 143) rfl)) rfl (by decide +kernel)
theorem mok_156 : mOK 156 := mOK_of (pi := 106) (ps := 996) (px := 997) (C := RX11) rfl (in_t4 _ (List.mem_of_getElem? (i := 173) rfl)) rfl (by decide +kernel)
theorem mok_157 : mOK 157 := mOK_of (pi := 106) (ps := 1006) (px := 1007) (C := RX11) rfl (in_t4 _ (List.mem_of_getElem? (i := 183) rfl)) rfl (by decide +kernel)
theorem mok_158 : mOK 158 := mOK_of (pi := 106) (ps := 1011) (px := 36) (C := RX11) rfl (in_t4 _ (List.mem_of_getElem? (i := 187) rfl)) rfl (by decide +kernel)
theorem mok_159 : mOK 159 := mOK_of (pi := 106) (ps := 1018) (px := 1019) (C := RX11) rfl (in_t4 _ (List.mem_of_getElem? (i := 195) rfl)) rfl (by decide +kernel)
theorem mok_160 : mOK 160 := mOK_of (pi := 106) (ps := 1023) (px := 37) (C := RX11) rfl (in_t4 _ (List.mem_of_getElem? (i := 199) rfl)) rfl (by decide +kernel)
theorem mok_161 : mOK 161 := mOK_of (pi := 106) (ps := 1027) (px := 38) (C := RX11) rfl (in_t4 _ (List.mem_of_getElem? (i := 203) rfl)) rfl (by decide +kernel)
theorem mok_162 : mOK 162 := mOK_of (pi := 106) (ps := 1031) (px := 1032) (C := RX11) rfl (in_t4 _ (List.mem_of_getElem? (i := 208) rfl)) rfl (by decide +kernel)
theorem mok_163 : mOK 163 := mOK_of (pi := 106) (ps := 1035) (px := 0) (C := RX11) rfl (in_t4 _ (List.mem_of_getElem? (i := 211) rfl)) rfl (by decide +kernel)
theorem mok_164 : mOK 164 := mOK_of (pi := 106) (ps := 1038) (px := 0) (C := RX11) rfl (in_t4 _ (List.mem_of_getElem? (i := 214) rfl)) rfl (by decide +kernel)
theorem mok_165 : mOK 165 := mOK_of (pi := 106) (ps := 1041) (px := 1042) (C := RX11) rfl (in_t4 _ (List.mem_of_getElem? (i := 218) rfl)) rfl (by decide +kernel)
theorem mok_166 : mOK 166 := mOK_of (pi := 106) (ps := 1045) (px := 1046) (C := RX11) rfl (in_t4 _ (List.mem_of_getElem? (i := 222) rfl)) rfl (by decide +kernel)
theorem mok_167 : mOK 167 := mOK_of (pi := 106) (ps := 1059) (px := 1060) (C := RX11) rfl (in_t4 _ (List.mem_of_getElem? (i := 236) rfl)) rfl (by decide +kernel)
theorem mok_168 : mOK 168 := mOK_of (pi := 106) (ps := 1064) (px := 39) (C := RX11) rfl (in_t5 _ (List.mem_of_getElem? (i := 0) rfl)) rfl (by decide +kernel)
theorem mok_169 : mOK 169 := mOK_of (pi := 106) (ps := 1107) (px := 1108) (C := RX11) rfl (in_t5 _ (List.mem_of_getElem? (i := 44) rfl)) rfl (by decide +kernel)
theorem mok_170 : mOK 170 := mOK_of (pi := 106) (ps := 1119) (px := 1120) (C := RX11) rfl (in_t5 _ (List.mem_of_getElem? (i := 56) rfl)) rfl (by decide +kernel)
theorem mok_171 : mOK 171 := mOK_of (pi := 106) (ps := 1135) (px := 1136) (C := RX11) rfl (in_t5 _ (List.mem_of_getElem? (i := 72) rfl)) rfl (by decide +kernel)
theorem mok_172 : mOK 172 := mOK_of (pi := 106) (ps := 1151) (px := 1152) (C := RX11) rfl (in_t5 _ (List.mem_of_getElem? (i := 88) rfl)) rfl (by decide +kernel)
theorem mok_173 : mOK 173 := mOK_of (pi := 106) (ps := 1156) (px := 1157) (C := RX11) rfl (in_t5 _ (List.mem_of_getElem? (i := 93) rfl)) rfl (by decide +kernel)
theorem mok_174 : mOK 174 := mOK_of (pi := 106) (ps := 1160) (px := 1161) (C := RX11) rfl (in_t5 _ (List.mem_of_getElem? (i := 97) rfl)) rfl (by decide +kernel)
theorem mok_175 : mOK 175 := mOK_of (pi := 106) (ps := 1164) (px := 1165) (C := RX11) rfl (in_t5 _ (List.mem_of_getElem? (i := 101) rfl)) rfl (by decide +kernel)
theorem mok_176 : mOK 176 := mOK_of (pi := 106) (ps := 1168) (px := 1169) (C := RX11) rfl (in_t5 _ (List.mem_of_getElem? (i := 105) rfl)) rfl (by decide +kernel)
theorem mok_177 : mOK 177 := mOK_of (pi := 106) (ps := 432) (px := 0) (C := RX11) rfl (in_t2 _ (List.mem_of_getElem? (i := 88) rfl)) rfl (by decide +kernel)
theorem mok_178 : mOK 178 := mOK_of (pi := 106) (ps := 557) (px := 0) (C := RX11) rfl (in_t2 _ (List.mem_of_getElem? (i := 213) rfl)) rfl (by decide +kernel)
theorem mok_179 : mOK 179 := mOK_of (pi := 106) (ps := 516) (px := 0) (C := RX11) rfl (in_t2 _ (List.mem_of_getElem? (i := 172) rfl)) rfl (by decide +kernel)
theorem mok_181 : mOK 181 := mOK_of (pi := 118) (ps := 1339) (px := 0) (C := RX12) rfl (in_t6 _ (List.mem_of_getElem? (i := 35) rfl)) rfl (by decide +kernel)
theorem mok_182 : mOK 182 := mOK_of (pi := 118) (ps := 1529) (px := 0) (C := RX12) rfl (in_t6 _ (List.mem_of_getElem? (i := 225) rfl)) rfl (by decide +kernel)
theorem mok_183 : mOK 183 := mOK_of (pi := 118) (ps := 1589) (px := 0) (C := RX12) rfl (in_t7 _ (List.mem_of_getElem? (i := 45) rfl)) rfl (by decide +kernel)
theorem mok_184 : mOK 184 := mOK_of (pi := 118) (ps := 1358) (px := 0) (C := RX12) rfl (in_t6 _ (List.mem_of_getElem? (i := 54) rfl)) rfl (by decide +kernel)
theorem mok_185 : mOK 185 := mOK_of (pi := 118) (ps := 1608) (px := 0) (C := RX12) rfl (in_t7 _ (List.mem_of_getElem? (i := 64) rfl)) rfl (by decide +kernel)
theorem mok_186 : mOK 186 := mOK_of (pi := 118) (ps := 1470) (px := 0) (C := RX12) rfl (in_t6 _ (List.mem_of_getElem? (i := 166) rfl)) rfl (by decide +kernel)
theorem mok_187 : mOK 187 := mOK_of (pi := 118) (ps := 1355) (px := 50) (C := RX12) rfl (in_t6 _ (List.mem_of_getElem? (i := 51) rfl)) rfl (by decide +kernel)
theorem mok_188 : mOK 188 := mOK_of (pi := 118) (ps := 1351) (px := 49) (C := RX12) rfl (in_t6 _ (List.mem_of_getElem? (i := 47) rfl)) rfl (by decide +kernel)
theorem mok_189 : mOK 189 := mOK_of (pi := 118) (ps := 1347) (px := 48) (C := RX12) rfl (in_t6 _ (List.mem_of_getElem? (i := 43) rfl)) rfl (by decide +kernel)
theorem mok_190 : mOK 190 := mOK_of (pi := 118) (ps := 1361) (px := 0) (C := RX12) rfl (in_t6 _ (List.mem_of_getElem? (i := 57) rfl)) rfl (by decide +kernel)
theorem mok_191 : mOK 191 := mOK_of (pi := 118) (ps := 1368) (px := 0) (C := RX12) rfl (in_t6 _ (List.mem_of_getElem? (i := 64) rfl)) rfl (by decide +kernel)
theorem mok_192 : mOK 192 := mOK_of (pi := 118) (ps := 1510) (px := 79) (C := RX12) rfl (in_t6 _ (List.mem_of_getElem? (i := 206) rfl)) rfl (by decide +kernel)
theorem mok_193 : mOK 193 := mOK_of (pi := 118) (ps := 1514) (px := 80) (C := RX12) rfl (in_t6 _ (List.mem_of_getElem? (i := 210) rfl)) rfl (by decide +kernel)
theorem mok_194 : mOK 194 := mOK_of (pi := 118) (ps := 1557) (px := 88) (C := RX12) rfl (in_t7 _ (List.mem_of_getElem? (i := 13) rfl)) rfl (by decide +kernel)
theorem mok_195 : mOK 195 := mOK_of (pi := 118) (ps := 1565) (px := 89) (C := RX12) rfl (in_t7 _ (List.mem_of_getElem? (i := 21) rfl)) rfl (by decide +kernel)
theorem mok_196 : mOK 196 := mOK_of (pi := 118) (ps := 1335) (px := 1336) (C := RX12) rfl (in_t6 _ (List.mem_of_getElem? (i := 32) rfl)) rfl (by decide +kernel)
theorem mok_197 : mOK 197 := mOK_of (pi := 118) (ps := 1342) (px := 1343) (C := RX12) rfl (in_t6 _ (List.mem_of_getElem? (i := 39) rfl)) rfl (by decide +kernel)
theorem mok_198 : mOK 198 := mOK_of (pi := 118) (ps := 1364) (px := 1365) (C := RX12) rfl (in_t6 _ (List.mem_of_getElem? (i := 61) rfl)) rfl (by decide +kernel)
theorem mok_199 : mOK 199 := mOK_of (pi := 118) (ps := 1376) (px := 51) (C := RX12) rfl (in_t6 _ (List.mem_of_getElem? (i := 72) rfl)) rfl (by decide +kernel)
theorem mok_200 : mOK 200 := mOK_of (pi := 118) (ps := 1371) (px := 1372) (C := RX12) rfl (in_t6 _ (List.mem_of_getElem? (i := 68) rfl)) rfl (by decide +kernel)
theorem mok_201 : mOK 201 := mOK_of (pi := 118) (ps := 1669) (px := 98) (C := RX12) rfl (in_t7 _ (List.mem_of_getElem? (i := 125) rfl)) rfl (by decide +kernel)
theorem mok_202 : mOK 202 := mOK_of (pi := 118) (ps := 1392) (px := 54) (C := RX12) rfl (in_t6 _ (List.mem_of_getElem? (i := 88) rfl)) rfl (by decide +kernel)
theorem mok_203 : mOK 203 := mOK_of (pi := 118) (ps := 1413) (px := 59) (C := RX12) rfl (in_t6 _ (List.mem_of_getElem? (i := 109) rfl)) rfl (by decide +kernel)
theorem mok_204 : mOK 204 := mOK_of (pi := 118) (ps := 1396) (px := 55) (C := RX12) rfl (in_t6 _ (List.mem_of_getElem? (i := 92) rfl)) rfl (by decide +kernel)
theorem mok_205 : mOK 205 := mOK_of (pi := 118) (ps := 1463) (px := 70) (C := RX12) rfl (in_t6 _ (List.mem_of_getElem? (i := 159) rfl)) rfl (by decide +kernel)
theorem mok_206 : mOK 206 := mOK_of (pi := 118) (ps := 1417) (px := 60) (C := RX12) rfl (in_t6 _ (List.mem_of_getElem? (i := 113) rfl)) rfl (by decide +kernel)
theorem mok_207 : mOK 207 := mOK_of (pi := 118) (ps := 1421) (px := 61) (C := RX12) rfl (in_t6 _ (List.mem_of_getElem? (i := 117) rfl)) rfl (by decide +kernel)
theorem mok_208 : mOK 208 := mOK_of (pi := 118) (ps := 1408) (px := 58) (C := RX12) rfl (in_t6 _ (List.mem_of_getElem? (i := 104) rfl)) rfl (by decide +kernel)
theorem mok_209 : mOK 209 := mOK_of (pi := 118) (ps := 1435) (px := 63) (C := RX12) rfl (in_t6 _ (List.mem_of_getElem? (i := 131) rfl)) rfl (by decide +kernel)
theorem mok_210 : mOK 210 := mOK_of (pi := 118) (ps := 1424) (px := 0) (C := RX12) rfl (in_t6 _ (List.mem_of_getElem? (i := 120) rfl)) rfl (by decide +kernel)
theorem mok_211 : mOK 211 := mOK_of (pi := 118) (ps := 1427) (px := 0) (C := RX12) rfl (in_t6 _ (List.mem_of_getElem? (i := 123) rfl)) rfl (by decide +kernel)
theorem mok_212 : mOK 212 := mOK_of (pi := 118) (ps := 1431) (px := 62) (C := RX12) rfl (in_t6 _ (List.mem_of_getElem? (i := 127) rfl)) rfl (by decide +kernel)
theorem mok_213 : mOK 213 := mOK_of (pi := 118) (ps := 1404) (px := 57) (C := RX12) rfl (in_t6 _ (List.mem_of_getElem? (i := 100) rfl)) rfl (by decide +kernel)
theorem mok_214 : mOK 214 := mOK_of (pi := 118) (ps := 1439) (px := 64) (C := RX12) rfl (in_t6 _ (List.mem_of_getElem? (i := 135) rfl)) rfl (by decide +kernel)
theorem mok_215 : mOK 215 := mOK_of (pi := 118) (ps := 1400) (px := 56) (C := RX12) rfl (in_t6 _ (List.mem_of_getElem? (i := 96) rfl)) rfl (by decide +kernel)
theorem mok_216 : mOK 216 := mOK_of (pi := 118) (ps := 1451) (px := 67) (C := RX12) rfl (in_t6 _ (List.mem_of_getElem? (i := 147) rfl)) rfl (by decide +kernel)
theorem mok_217 : mOK 217 := mOK_of (pi := 118) (ps := 1455) (px := 68) (C := RX12) rfl (in_t6 _ (List.mem_of_getElem? (i := 151) rfl)) rfl (by decide +kernel)
theorem mok_218 : mOK 218 := mOK_of (pi := 118) (ps := 1459) (px := 69) (C := RX12) rfl (in_t6 _ (List.mem_of_getElem? (i := 155) rfl)) rfl (by decide +kernel)
theorem mok_219 : mOK 219 := mOK_of (pi := 118) (ps := 1447) (px := 66) (C := RX12) rfl (in_t6 _ (List.mem_of_getElem? (i := 143) rfl)) rfl (by decide +kernel)
theorem mok_220 : mOK 220 := mOK_of (pi := 118) (ps := 1443) (px := 65) (C := RX12) rfl (in_t6 _ (List.mem_of_getElem? (i := 139) rfl)) rfl (by decide +kernel)
theorem mok_221 : mOK 221 := mOK_of (pi := 118) (ps := 1388) (px := 53) (C := RX12) rfl (in_t6 _ (List.mem_of_getElem? (i := 84) rfl)) rfl (by decide +kernel)
theorem mok_222 : mOK 222 := mOK_of (pi := 118) (ps := 1384) (px := 52) (C := RX12) rfl (in_t6 _ (List.mem_of_getElem? (i := 80) rfl)) rfl (by decide +kernel)
theorem mok_223 : mOK 223 := mOK_of (pi := 118) (ps := 1379) (px := 1380) (C := RX12) rfl (in_t6 _ (List.mem_of_getElem? (i := 76) rfl)) rfl (by decide +kernel)
theorem mok_224 : mOK 224 := mOK_of (pi := 118) (ps := 1525) (px := 0) (C := RX12) rfl (in_t6 _ (List.mem_of_getElem? (i := 221) rfl)) rfl (by decide +kernel)
theorem mok_225 : mOK 225 := mOK_of (pi := 118) (ps := 1522) (px := 82) (C := RX12) rfl (in_t6 _ (List.mem_of_getElem? (i := 218) rfl)) rfl (by decide +kernel)
theorem mok_226 : mOK 226 := mOK_of (pi := 118) (ps := 1518) (px := 81) (C := RX12) rfl (in_t6 _ (List.mem_of_getElem? (i := 214) rfl)) rfl (by decide +kernel)
theorem mok_227 : mOK 227 := mOK_of (pi := 118) (ps := 1545) (px := 86) (C := RX12) rfl (in_t7 _ (List.mem_of_getElem? (i := 1) rfl)) rfl (by decide +kernel)
theorem mok_228 : mOK 228 := mOK_of (pi := 118) (ps := 1506) (px := 78) (C := RX12) rfl (in_t6 _ (List.mem_of_getElem? (i := 202) rfl)) rfl (by decide +kernel)
theorem mok_229 : mOK 229 := mOK_of (pi := 118) (ps := 1478) (px := 72) (C := RX12) rfl (in_t6 _ (List.mem_of_getElem? (i := 174) rfl)) rfl (by decide +kernel)
theorem mok_230 : mOK 230 := mOK_of (pi := 118) (ps := 1482) (px := 73) (C := RX12) rfl (in_t6 _ (List.mem_of_getElem? (i := 178) rfl)) rfl (by decide +kernel)
theorem mok_231 : mOK 231 := mOK_of (pi := 118) (ps := 1486) (px := 74) (C := RX12) rfl (in_t6 _ (List.mem_of_getElem? (i := 182) rfl)) rfl (by decide +kernel)
theorem mok_232 : mOK 232 := mOK_of (pi := 118) (ps := 1474) (px := 71) (C := RX12) rfl (in_t6 _ (List.mem_of_getElem? (i := 170) rfl)) rfl (by decide +kernel)
theorem mok_233 : mOK 233 := mOK_of (pi := 118) (ps := 1466) (px := 1467) (C := RX12) rfl (in_t6 _ (List.mem_of_getElem? (i := 163) rfl)) rfl (by decide +kernel)
theorem mok_234 : mOK 234 := mOK_of (pi := 118) (ps := 1537) (px := 84) (C := RX12) rfl (in_t6 _ (List.mem_of_getElem? (i := 233) rfl)) rfl (by decide +kernel)
theorem mok_235 : mOK 235 := mOK_of (pi := 118) (ps := 1533) (px := 83) (C := RX12) rfl (in_t6 _ (List.mem_of_getElem? (i := 229) rfl)) rfl (by decide +kernel)
theorem mok_236 : mOK 236 := mOK_of (pi := 118) (ps := 1502) (px := 77) (C := RX12) rfl (in_t6 _ (List.mem_of_getElem? (i := 198) rfl)) rfl (by decide +kernel)
theorem mok_237 : mOK 237 := mOK_of (pi := 118) (ps := 1541) (px := 85) (C := RX12) rfl (in_t6 _ (List.mem_of_getElem? (i := 237) rfl)) rfl (by decide +kernel)
theorem mok_238 : mOK 238 := mOK_of (pi := 118) (ps := 1498) (px := 76) (C := RX12) rfl (in_t6 _ (List.mem_of_getElem? (i := 194) rfl)) rfl (by decide +kernel)
theorem mok_239 : mOK 239 := mOK_of (pi := 118) (ps := 1494) (px := 75) (C := RX12) rfl (in_t6 _ (List.mem_of_getElem? (i := 190) rfl)) rfl (by decide +kernel)
theorem mok_240 : mOK 240 := mOK_of (pi := 118) (ps := 1489) (px := 1490) (C := RX12) rfl (in_t6 _ (List.mem_of_getElem? (i := 186) rfl)) rfl (by decide +kernel)
theorem mok_241 : mOK 241 := mOK_of (pi := 118) (ps := 1553) (px := 87) (C := RX12) rfl (in_t7 _ (List.mem_of_getElem? (i := 9) rfl)) rfl (by decide +kernel)
theorem mok_242 : mOK 242 := mOK_of (pi := 118) (ps := 1548) (px := 1549) (C := RX12) rfl (in_t7 _ (List.mem_of_getElem? (i := 5) rfl)) rfl (by decide +kernel)
theorem mok_243 : mOK 243 := mOK_of (pi := 118) (ps := 1570) (px := 90) (C := RX12) rfl (in_t7 _ (List.mem_of_getElem? (i := 26) rfl)) rfl (by decide +kernel)
theorem mok_244 : mOK 244 := mOK_of (pi := 118) (ps := 1560) (px := 1561) (C := RX12) rfl (in_t7 _ (List.mem_of_getElem? (i := 17) rfl)) rfl (by decide +kernel)
theorem mok_245 : mOK 245 := mOK_of (pi := 118) (ps := 1573) (px := 1574) (C := RX12) rfl (in_t7 _ (List.mem_of_getElem? (i := 30) rfl)) rfl (by decide +kernel)
theorem mok_246 : mOK 246 := mOK_of (pi := 118) (ps := 1577) (px := 1578) (C := RX12) rfl (in_t7 _ (List.mem_of_getElem? (i := 34) rfl)) rfl (by decide +kernel)
theorem mok_247 : mOK 247 := mOK_of (pi := 118) (ps := 1597) (px := 93) (C := RX12) rfl (in_t7 _ (List.mem_of_getElem? (i := 53) rfl)) rfl (by decide +kernel)
theorem mok_248 : mOK 248 := mOK_of (pi := 118) (ps := 1593) (px := 92) (C := RX12) rfl (in_t7 _ (List.mem_of_getElem? (i := 49) rfl)) rfl (by decide +kernel)
theorem mok_249 : mOK 249 := mOK_of (pi := 118) (ps := 1586) (px := 91) (C := RX12) rfl (in_t7 _ (List.mem_of_getElem? (i := 42) rfl)) rfl (by decide +kernel)
theorem mok_250 : mOK 250 := mOK_of (pi := 118) (ps := 1581) (px := 1582) (C := RX12) rfl (in_t7 _ (List.mem_of_getElem? (i := 38) rfl)) rfl (by decide +kernel)
theorem mok_251 : mOK 251 := mOK_of (pi := 118) (ps := 1600) (px := 1601) (C := RX12) rfl (in_t7 _ (List.mem_of_getElem? (i := 57) rfl)) rfl (by decide +kernel)
theorem mok_252 : mOK 252 := mOK_of (pi := 118) (ps := 1604) (px := 1605) (C := RX12) rfl (in_t7 _ (List.mem_of_getElem? (i := 61) rfl)) rfl (by decide +kernel)
theorem mok_253 : mOK 253 := mOK_of (pi := 118) (ps := 1611) (px := 1612) (C := RX12) rfl (in_t7 _ (List.mem_of_getElem? (i := 68) rfl)) rfl (by decide +kernel)
theorem mok_254 : mOK 254 := mOK_of (pi := 118) (ps := 1615) (px := 1616) (C := RX12) rfl (in_t7 _ (List.mem_of_getElem? (i := 72) rfl)) rfl (by decide +kernel)
theorem mok_255 : mOK 255 := mOK_of (pi := 118) (ps := 1619) (px := 1620) (C := RX12) rfl (in_t7 _ (List.mem_of_getElem? (i := 76) rfl)) rfl (by decide +kernel)
theorem mok_256 : mOK 256 := mOK_of (pi := 118) (ps := 1623) (px := 1624) (C := RX12) rfl (in_t7 _ (List.mem_of_getElem? (i := 80) rfl)) rfl (by decide +kernel)
theorem mok_257 : mOK 257 := mOK_of (pi := 118) (ps := 1637) (px := 95) (C := RX12) rfl (in_t7 _ (List.mem_of_getElem? (i := 93) rfl)) rfl (by decide +kernel)
theorem mok_258 : mOK 258 := mOK_of (pi := 118) (ps := 1632) (px := 94) (C := RX12) rfl (in_t7 _ (List.mem_of_getElem? (i := 88) rfl)) rfl (by decide +kernel)
theorem mok_259 : mOK 259 := mOK_of (pi := 118) (ps := 1627) (px := 1628) (C := RX12) rfl (in_t7 _ (List.mem_of_getElem? (i := 84) rfl)) rfl (by decide +kernel)
theorem mok_260 : mOK 260 := mOK_of (pi := 118) (ps := 1640) (px := 1641) (C := RX12) rfl (in_t7 _ (List.mem_of_getElem? (i := 97) rfl)) rfl (by decide +kernel)
theorem mok_261 : mOK 261 := mOK_of (pi := 118) (ps := 1644) (px := 1645) (C := RX12) rfl (in_t7 _ (List.mem_of_getElem? (i := 101) rfl)) rfl (by decide +kernel)
theorem mok_262 : mOK 262 := mOK_of (pi := 118) (ps := 1653) (px := 96) (C := RX12) rfl (in_t7 _ (List.mem_of_getElem? (i := 109) rfl)) rfl (by decide +kernel)
theorem mok_263 : mOK 263 := mOK_of (pi := 118) (ps := 1648) (px := 1649) (C := RX12) rfl (in_t7 _ (List.mem_of_getElem? (i := 105) rfl)) rfl (by decide +kernel)
theorem mok_264 : mOK 264 := mOK_of (pi := 118) (ps := 1656) (px := 1657) (C := RX12) rfl (in_t7 _ (List.mem_of_getElem? (i := 113) rfl)) rfl (by decide +kernel)
theorem mok_265 : mOK 265 := mOK_of (pi := 118) (ps := 1665) (px := 97) (C := RX12) rfl (in_t7 _ (List.mem_of_getElem? (i := 121) rfl)) rfl (by decide +kernel)
theorem mok_266 : mOK 266 := mOK_of (pi := 118) (ps := 1660) (px := 1661) (C := RX12) rfl (in_t7 _ (List.mem_of_getElem? (i := 117) rfl)) rfl (by decide +kernel)
theorem mok_267 : mOK 267 := mOK_of (pi := 118) (ps := 1672) (px := 1673) (C := RX12) rfl (in_t7 _ (List.mem_of_getElem? (i := 129) rfl)) rfl (by decide +kernel)
theorem mok_268 : mOK 268 := mOK_of (pi := 118) (ps := 1680) (px := 0) (C := RX12) rfl (in_t7 _ (List.mem_of_getElem? (i := 136) rfl)) rfl (by decide +kernel)
theorem mok_269 : mOK 269 := mOK_of (pi := 118) (ps := 1676) (px := 1677) (C := RX12) rfl (in_t7 _ (List.mem_of_getElem? (i := 133) rfl)) rfl (by decide +kernel)
theorem mok_270 : mOK 270 := mOK_of (pi := 118) (ps := 1683) (px := 1684) (C := RX12) rfl (in_t7 _ (List.mem_of_getElem? (i := 140) rfl)) rfl (by decide +kernel)
theorem mok_271 : mOK 271 := mOK_of (pi := 118) (ps := 1692) (px := 99) (C := RX12) rfl (in_t7 _ (List.mem_of_getElem? (i := 148) rfl)) rfl (by decide +kernel)
theorem mok_272 : mOK 272 := mOK_of (pi := 118) (ps := 1696) (px := 100) (C := RX12) rfl (in_t7 _ (List.mem_of_getElem? (i := 152) rfl)) rfl (by decide +kernel)
theorem mok_273 : mOK 273 := mOK_of (pi := 118) (ps := 1687) (px := 1688) (C := RX12) rfl (in_t7 _ (List.mem_of_getElem? (i := 144) rfl)) rfl (by decide +kernel)
theorem mok_274 : mOK 274 := mOK_of (pi := 118) (ps := 1704) (px := 101) (C := RX12) rfl (in_t7 _ (List.mem_of_getElem? (i := 160) rfl)) rfl (by decide +kernel)
theorem mok_275 : mOK 275 := mOK_of (pi := 118) (ps := 1699) (px := 1700) (C := RX12) rfl (in_t7 _ (List.mem_of_getElem? (i := 156) rfl)) rfl (by decide +kernel)
theorem mok_276 : mOK 276 := mOK_of (pi := 118) (ps := 1713) (px := 102) (C := RX12) rfl (in_t7 _ (List.mem_of_getElem? (i := 169) rfl)) rfl (by decide +kernel)
theorem mok_277 : mOK 277 := mOK_of (pi := 118) (ps := 1708) (px := 1709) (C := RX12) rfl (in_t7 _ (List.mem_of_getElem? (i := 165) rfl)) rfl (by decide +kernel)
theorem mok_278 : mOK 278 := mOK_of (pi := 118) (ps := 1721) (px := 103) (C := RX12) rfl (in_t7 _ (List.mem_of_getElem? (i := 177) rfl)) rfl (by decide +kernel)
theorem mok_279 : mOK 279 := mOK_of (pi := 118) (ps := 1716) (px := 1717) (C := RX12) rfl (in_t7 _ (List.mem_of_getElem? (i := 173) rfl)) rfl (by decide +kernel)
theorem mok_280 : mOK 280 := mOK_of (pi := 118) (ps := 1729) (px := 104) (C := RX12) rfl (in_t7 _ (List.mem_of_getElem? (i := 185) rfl)) rfl (by decide +kernel)
theorem mok_281 : mOK 281 := mOK_of (pi := 118) (ps := 1724) (px := 1725) (C := RX12) rfl (in_t7 _ (List.mem_of_getElem? (i := 181) rfl)) rfl (by decide +kernel)
theorem mok_282 : mOK 282 := mOK_of (pi := 118) (ps := 1732) (px := 1733) (C := RX12) rfl (in_t7 _ (List.mem_of_getElem? (i := 189) rfl)) rfl (by decide +kernel)
theorem mok_283 : mOK 283 := mOK_of (pi := 118) (ps := 1737) (px := 1738) (C := RX12) rfl (in_t7 _ (List.mem_of_getElem? (i := 194) rfl)) rfl (by decide +kernel)
theorem mok_284 : mOK 284 := mOK_of (pi := 118) (ps := 1741) (px := 1742) (C := RX12) rfl (in_t7 _ (List.mem_of_getElem? (i := 198) rfl)) rfl (by decide +kernel)
theorem mok_285 : mOK 285 := mOK_of (pi := 118) (ps := 1745) (px := 1746) (C := RX12) rfl (in_t7 _ (List.mem_of_getElem? (i := 202) rfl)) rfl (by decide +kernel)
theorem mok_286 : mOK 286 := mOK_of (pi := 118) (ps := 1749) (px := 1750) (C := RX12) rfl (in_t7 _ (List.mem_of_getElem? (i := 206) rfl)) rfl (by decide +kernel)
theorem mok_287 : mOK 287 := mOK_of (pi := 121) (ps := 885) (px := 0) (C := RJ6) rfl (in_t4 _ (List.mem_of_getElem? (i := 61) rfl)) rfl (by decide +kernel)
def mCalled : List Nat := [1, 2, 3, 4, 5, 6, 7, 8, 9, 10, 11, 13, 14, 15, 16, 17, 18, 19, 20, 21, 23, 24, 25, 26, 27, 28, 29, 30, 31, 32, 33, 34, 35, 36, 37, 38, 39, 40, 42, 43, 44, 45, 46, 47, 48, 49, 51, 52, 53, 54, 55, 56, 57, 58, 59, 60, 61, 63, 64, 65, 66, 67, 68, 70, 71, 72, 73, 74, 76, 77, 78, 79, 80, 81, 82, 83, 84, 86, 87, 88, 89, 90, 92, 93, 94, 95, 96, 97, 98, 99, 100, 101, 102, 103, 104, 105, 106, 108, 109, 110, 111, 112, 113, 114, 115, 116, 117, 118, 119, 120, 121, 122, 123, 124, 125, 126, 127, 128, 129, 130, 131, 133, 134, 135, 136, 137, 138, 139, 140, 141, 142, 143, 144, 145, 146, 147, 148, 149, 150, 151, 152, 153, 154, 155, 156, 157, 158, 159, 160, 161, 162, 163, 164, 165, 166, 167, 168, 169, 170, 171, 172, 173, 174, 175, 176, 177, 178, 179, 181, 182, 183, 184, 185, 186, 187, 188, 189, 190, 191, 192, 193, 194, 195, 196, 197, 198, 199, 200, 201, 202, 203, 204, 205, 206, 207, 208, 209, 210, 211, 212, 213, 214, 215, 216, 217, 218, 219, 220, 221, 222, 223, 224, 225, 226, 227, 228, 229, 230, 231, 232, 233, 234, 235, 236, 237, 238, 239, 240, 241, 242, 243, 244, 245, 246, 247, 248, 249, 250, 251, 252, 253, 254, 255, 256, 257, 258, 259, 260, 261, 262, 263, 264, 265, 266, 267, 268, 269, 270, 271, 272, 273, 274, 275, 276, 277, 278, 279, 280, 281, 282, 283, 284, 285, 286, 287]
theorem mokc_0 : ∀ c ∈ [1, 2, 3, 4, 5, 6, 7, 8, 9, 10, 11, 13, 14, 15, 16, 17, 18, 19, 20, 21, 23, 24, 25, 26, 27, 28, 29, 30, 31, 32, 33, 34, 35, 36, 37, 38, 39, 40, 42, 43, 44, 45, 46, 47, 48, 49, 51, 52], mOK c := List.forall_mem_cons.mpr ⟨mok_1, List.forall_mem_cons.mpr ⟨mok_2, List.forall_mem_cons.mpr ⟨mok_3, List.forall_mem_cons.mpr ⟨mok_4, List.forall_mem_cons.mpr ⟨mok_5, List.forall_mem_cons.mpr ⟨mok_6, List.forall_mem_cons.mpr ⟨mok_7, List.forall_mem_cons.mpr ⟨mok_8, List.forall_mem_cons.mpr ⟨mok_9, List.forall_mem_cons.mpr ⟨mok_10, List.forall_mem_cons.mpr ⟨mok_11, List.forall_mem_cons.mpr ⟨mok_13, List.forall_mem_cons.mpr ⟨mok_14, List.forall_mem_cons.mpr ⟨mok_15, List.forall_mem_cons.mpr ⟨mok_16, List.forall_mem_cons.mpr ⟨mok_17, List.forall_mem_cons.mpr ⟨mok_18, List.forall_mem_cons.mpr ⟨mok_19, List.forall_mem_cons.mpr ⟨mok_20, List.forall_mem_cons.mpr ⟨mok_21, List.forall_mem_cons.mpr ⟨mok_23, List.forall_mem_cons.mpr ⟨mok_24, List.forall_mem_cons.mpr ⟨mok_25, List.forall_mem_cons.mpr ⟨mok_26, List.forall_mem_cons.mpr ⟨mok_27, List.forall_mem_cons.mpr ⟨mok_28, List.forall_mem_cons.mpr ⟨mok_29, List.forall_mem_cons.mpr ⟨mok_30, List.forall_mem_cons.mpr ⟨mok_31, List.forall_mem_cons.mpr ⟨mok_32, List.forall_mem_cons.mpr ⟨mok_33, List.forall_mem_cons.mpr ⟨mok_34, List.forall_mem_cons.mpr ⟨mok_35, List.forall_mem_cons.mpr ⟨mok_36, List.forall_mem_cons.mpr ⟨mok_37, List.forall_mem_cons.mpr ⟨mok_38, List.forall_mem_cons.mpr ⟨mok_39, List.forall_mem_cons.mpr ⟨mok_40, List.forall_mem_cons.mpr ⟨mok_42, List.forall_mem_cons.mpr ⟨mok_43, List.forall_mem_cons.mpr ⟨mok_44, List.forall_mem_cons.mpr ⟨mok_45, List.forall_mem_cons.mpr ⟨mok_46, List.forall_mem_cons.mpr ⟨mok_47, List.forall_mem_cons.mpr ⟨mok_48, List.forall_mem_cons.mpr ⟨mok_49, List.forall_mem_cons.mpr ⟨mok_51, List.forall_mem_cons.mpr ⟨mok_52, fun _ h => absurd h List.not_mem_nil⟩⟩⟩⟩⟩⟩⟩⟩⟩⟩⟩⟩⟩⟩⟩⟩⟩⟩⟩⟩⟩⟩⟩⟩⟩⟩⟩⟩⟩⟩⟩⟩⟩⟩⟩⟩⟩⟩⟩⟩⟩⟩⟩⟩⟩⟩⟩⟩
theorem mokc_1 : ∀ c ∈ [53, 54, 55, 56, 57, 58, 59, 60, 61, 63, 64, 65, 66, 67, 68, 70, 71, 72, 73, 74, 76, 77, 78, 79, 80, 81, 82, 83, 84, 86, 87, 88, 89, 90, 92, 93, 94, 95, 96, 97, 98, 99, 100, 101, 102, 103, 104, 105], mOK c := List.forall_mem_cons.mpr ⟨mok_53, List.forall_mem_cons.mpr ⟨mok_54, List.forall_mem_cons.mpr ⟨mok_55, List.forall_mem_cons.mpr ⟨mok_56, List.forall_mem_cons.mpr ⟨mok_57, List.forall_mem_cons.mpr ⟨mok_58, List.forall_mem_cons.mpr ⟨mok_59, List.forall_mem_cons.mpr ⟨mok_60, List.forall_mem_cons.mpr ⟨mok_61, List.forall_mem_cons.mpr ⟨mok_63, List.forall_mem_cons.mpr ⟨mok_64, List.forall_mem_cons.mpr ⟨mok_65, List.forall_mem_cons.mpr ⟨mok_66, List.forall_mem_cons.mpr ⟨mok_67, List.forall_mem_cons.mpr ⟨mok_68, List.forall_mem_cons.mpr ⟨mok_70, List.forall_mem_cons.mpr ⟨mok_71, List.forall_mem_cons.mpr ⟨mok_72, List.forall_mem_cons.mpr ⟨mok_73, List.forall_mem_cons.mpr ⟨mok_74, List.forall_mem_cons.mpr ⟨mok_76, List.forall_mem_cons.mpr ⟨mok_77, List.forall_mem_cons.mpr ⟨mok_78, List.forall_mem_cons.mpr ⟨mok_79, List.forall_mem_cons.mpr ⟨mok_80, List.forall_mem_cons.mpr ⟨mok_81, List.forall_mem_cons.mpr ⟨mok_82, List.forall_mem_cons.mpr ⟨mok_83, List.forall_mem_cons.mpr ⟨mok_84, List.forall_mem_cons.mpr ⟨mok_86, List.forall_mem_cons.mpr ⟨mok_87, List.forall_mem_cons.mpr ⟨mok_88, List.forall_mem_cons.mpr ⟨mok_89, List.forall_mem_cons.mpr ⟨mok_90, List.forall_mem_cons.mpr ⟨mok_92, List.forall_mem_cons.mpr ⟨mok_93, List.forall_mem_cons.mpr ⟨mok_94, List.forall_mem_cons.mpr ⟨mok_95, List.forall_mem_cons.mpr ⟨mok_96, List.forall_mem_cons.mpr ⟨mok_97, List.forall_mem_cons.mpr ⟨mok_98, List.forall_mem_cons.mpr ⟨mok_99, List.forall_mem_cons.mpr ⟨mok_100, List.forall_mem_cons.mpr ⟨mok_101, List.forall_mem_cons.mpr ⟨mok_102, List.forall_mem_cons.mpr ⟨mok_103, List.forall_mem_cons.mpr ⟨mok_104, List.forall_mem_cons.mpr ⟨mok_105, fun _ h => absurd h List.not_mem_nil⟩⟩⟩⟩⟩⟩⟩⟩⟩⟩⟩⟩⟩⟩⟩⟩⟩⟩⟩⟩⟩⟩⟩⟩⟩⟩⟩⟩⟩⟩⟩⟩⟩⟩⟩⟩⟩⟩⟩⟩⟩⟩⟩⟩⟩⟩⟩⟩
theorem mokc_2 : ∀ c ∈ [106, 108, 109, 110, 111, 112, 113, 114, 115, 116, 117, 118, 119, 120, 121, 122, 123, 124, 125, 126, 127, 128, 129, 130, 131, 133, 134, 135, 136, 137, 138, 139, 140, 141, 142, 143, 144, 145, 146, 147, 148, 149, 150, 151, 152, 153, 154, 155], mOK c := List.forall_mem_cons.mpr ⟨mok_106, List.forall_mem_cons.mpr ⟨mok_108, List.forall_mem_cons.mpr ⟨mok_109, List.forall_mem_cons.mpr ⟨mok_110, List.forall_mem_cons.mpr ⟨mok_111, List.forall_mem_cons.mpr ⟨mok_112, List.forall_mem_cons.mpr ⟨mok_113, List.forall_mem_cons.mpr ⟨mok_114, List.forall_mem_cons.mpr ⟨mok_115, List.forall_mem_cons.mpr ⟨mok_116, List.forall_mem_cons.mpr ⟨mok_117, List.forall_mem_cons.mpr ⟨mok_118, List.forall_mem_cons.mpr ⟨mok_119, List.forall_mem_cons.mpr ⟨mok_120, List.forall_mem_cons.mpr ⟨mok_121, List.forall_mem_cons.mpr ⟨mok_122, List.forall_mem_cons.mpr ⟨mok_123, List.forall_mem_cons.mpr ⟨mok_124, List.forall_mem_cons.mpr ⟨mok_125, List.forall_mem_cons.mpr ⟨mok_126, List.forall_mem_cons.mpr ⟨mok_127, List.forall_mem_cons.mpr ⟨mok_128, List.forall_mem_cons.mpr ⟨mok_129, List.forall_mem_cons.mpr ⟨mok_130, List.forall_mem_cons.mpr ⟨mok_131, List.forall_mem_cons.mpr ⟨mok_133, List.forall_mem_cons.mpr ⟨mok_134, List.forall_mem_cons.mpr ⟨mok_135, List.forall_mem_cons.mpr ⟨mok_136, List.forall_mem_cons.mpr ⟨mok_137, List.forall_mem_cons.mpr ⟨mok_138, List.forall_mem_cons.mpr ⟨mok_139, List.forall_mem_cons.mpr ⟨mok_140, List.forall_mem_cons.mpr ⟨mok_141, List.forall_mem_cons.mpr ⟨mok_142, List.forall_mem_cons.mpr ⟨mok_143, List.forall_mem_cons.mpr ⟨mok_144, List.forall_mem_cons.mpr ⟨mok_145, List.forall_mem_cons.mpr ⟨mok_146, List.forall_mem_cons.mpr ⟨mok_147, List.forall_mem_cons.mpr ⟨mok_148, List.forall_mem_cons.mpr ⟨mok_149, List.forall_mem_cons.mpr ⟨mok_150, List.forall_mem_cons.mpr ⟨mok_151, List.forall_mem_cons.mpr ⟨mok_152, List.forall_mem_cons.mpr ⟨mok_153, List.forall_mem_cons.mpr ⟨mok_154, List.forall_mem_cons.mpr ⟨mok_155, fun _ h => absurd h List.not_mem_nil⟩⟩⟩⟩⟩⟩⟩⟩⟩⟩⟩⟩⟩⟩⟩⟩⟩⟩⟩⟩⟩⟩⟩⟩⟩⟩⟩⟩⟩⟩⟩⟩⟩⟩⟩⟩⟩⟩⟩⟩⟩⟩⟩⟩⟩⟩⟩⟩
theorem mokc_3 : ∀ c ∈ [156, 157, 158, 159, 160, 161, 162, 163, 164, 165, 166, 167, 168, 169, 170, 171, 172, 173, 174, 175, 176, 177, 178, 179, 181, 182, 183, 184, 185, 186, 187, 188, 189, 190, 191, 192, 193, 194, 195, 196, 197, 198, 199, 200, 201, 202, 203, 204], mOK c := List.forall_mem_cons.mpr ⟨mok_156, List.forall_mem_cons.mpr ⟨mok_157, List.forall_mem_cons.mpr ⟨mok_158, List.forall_mem_cons.mpr ⟨mok_159, List.forall_mem_cons.mpr ⟨mok_160, List.forall_mem_cons.mpr ⟨mok_161, List.forall_mem_cons.mpr ⟨mok_162, List.forall_mem_cons.mpr ⟨mok_163, List.forall_mem_cons.mpr ⟨mok_164, List.forall_mem_cons.mpr ⟨mok_165, List.forall_mem_cons.mpr ⟨mok_166, List.forall_mem_cons.mpr ⟨mok_167, List.forall_mem_cons.mpr ⟨mok_168, List.forall_mem_cons.mpr ⟨mok_169, List.forall_mem_cons.mpr ⟨mok_170, List.forall_mem_cons.mpr ⟨mok_171, List.forall_mem_cons.mpr ⟨mok_172, List.forall_mem_cons.mpr ⟨mok_173, List.forall_mem_cons.mpr ⟨mok_174, List.forall_mem_cons.mpr ⟨mok_175, List.forall_mem_cons.mpr ⟨mok_176, List.forall_mem_cons.mpr ⟨mok_177, List.forall_mem_cons.mpr ⟨mok_178, List.forall_mem_cons.mpr ⟨mok_179, List.forall_mem_cons.mpr ⟨mok_181, List.forall_mem_cons.mpr ⟨mok_182, List.forall_mem_cons.mpr ⟨mok_183, List.forall_mem_cons.mpr ⟨mok_184, List.forall_mem_cons.mpr ⟨mok_185, List.forall_mem_cons.mpr ⟨mok_186, List.forall_mem_cons.mpr ⟨mok_187, List.forall_mem_cons.mpr ⟨mok_188, List.forall_mem_cons.mpr ⟨mok_189, List.forall_mem_cons.mpr ⟨mok_190, List.forall_mem_cons.mpr ⟨mok_191, List.forall_mem_cons.mpr ⟨mok_192, List.forall_mem_cons.mpr ⟨mok_193, List.forall_mem_cons.mpr ⟨mok_194, List.forall_mem_cons.mpr ⟨mok_195, List.forall_mem_cons.mpr ⟨mok_196, List.forall_mem_cons.mpr ⟨mok_197, List.forall_mem_cons.mpr ⟨mok_198, List.forall_mem_cons.mpr ⟨mok_199, List.forall_mem_cons.mpr ⟨mok_200, List.forall_mem_cons.mpr ⟨mok_201, List.forall_mem_cons.mpr ⟨mok_202, List.forall_mem_cons.mpr ⟨mok_203, List.forall_mem_cons.mpr ⟨mok_204, fun _ h => absurd h List.not_mem_nil⟩⟩⟩⟩⟩⟩⟩⟩⟩⟩⟩⟩⟩⟩⟩⟩⟩⟩⟩⟩⟩⟩⟩⟩⟩⟩⟩⟩⟩⟩⟩⟩⟩⟩⟩⟩⟩⟩⟩⟩⟩⟩⟩⟩⟩⟩⟩⟩
theorem mokc_4 : ∀ c ∈ [205, 206, 207, 208, 209, 210, 211, 212, 213, 214, 215, 216, 217, 218, 219, 220, 221, 222, 223, 224, 225, 226, 227, 228, 229, 230, 231, 232, 233, 234, 235, 236, 237, 238, 239, 240, 241, 242, 243, 244, 245, 246, 247, 248, 249, 250, 251, 252], mOK c := List.forall_mem_cons.mpr ⟨mok_205, List.forall_mem_cons.mpr ⟨mok_206, List.forall_mem_cons.mpr ⟨mok_207, List.forall_mem_cons.mpr ⟨mok_208, List.forall_mem_cons.mpr ⟨mok_209, List.forall_mem_cons.mpr ⟨mok_210, List.forall_mem_cons.mpr ⟨mok_211, List.forall_mem_cons.mpr ⟨mok_212, List.forall_mem_cons.mpr ⟨mok_213, List.forall_mem_cons.mpr ⟨mok_214, List.forall_mem_cons.mpr ⟨mok_215, List.forall_mem_cons.mpr ⟨mok_216, List.forall_mem_cons.mpr ⟨mok_217, List.forall_mem_cons.mpr ⟨mok_218, List.forall_mem_cons.mpr ⟨mok_219, List.forall_mem_cons.mpr ⟨mok_220, List.forall_mem_cons.mpr ⟨mok_221, List.forall_mem_cons.mpr ⟨mok_222, List.forall_mem_cons.mpr ⟨mok_223, List.forall_mem_cons.mpr ⟨mok_224, List.forall_mem_cons.mpr ⟨mok_225, List.forall_mem_cons.mpr ⟨mok_226, List.forall_mem_cons.mpr ⟨mok_227, List.forall_mem_cons.mpr ⟨mok_228, List.forall_mem_cons.mpr ⟨mok_229, List.forall_mem_cons.mpr ⟨mok_230, List.forall_mem_cons.mpr ⟨mok_231, List.forall_mem_cons.mpr ⟨mok_232, List.forall_mem_cons.mpr ⟨mok_233, List.forall_mem_cons.mpr ⟨mok_234, List.forall_mem_cons.mpr ⟨mok_235, List.forall_mem_cons.mpr ⟨mok_236, List.forall_mem_cons.mpr ⟨mok_237, List.forall_mem_cons.mpr ⟨mok_238, List.forall_mem_cons.mpr ⟨mok_239, List.forall_mem_cons.mpr ⟨mok_240, List.forall_mem_cons.mpr ⟨mok_241, List.forall_mem_cons.mpr ⟨mok_242, List.forall_mem_cons.mpr ⟨mok_243, List.forall_mem_cons.mpr ⟨mok_244, List.forall_mem_cons.mpr ⟨mok_245, List.forall_mem_cons.mpr ⟨mok_246, List.forall_mem_cons.mpr ⟨mok_247, List.forall_mem_cons.mpr ⟨mok_248, List.forall_mem_cons.mpr ⟨mok_249, List.forall_mem_cons.mpr ⟨mok_250, List.forall_mem_cons.mpr ⟨mok_251, List.forall_mem_cons.mpr ⟨mok_252, fun _ h => absurd h List.not_mem_nil⟩⟩⟩⟩⟩⟩⟩⟩⟩⟩⟩⟩⟩⟩⟩⟩⟩⟩⟩⟩⟩⟩⟩⟩⟩⟩⟩⟩⟩⟩⟩⟩⟩⟩⟩⟩⟩⟩⟩⟩⟩⟩⟩⟩⟩⟩⟩⟩
theorem mokc_5 : ∀ c ∈ [253, 254, 255, 256, 257, 258, 259, 260, 261, 262, 263, 264, 265, 266, 267, 268, 269, 270, 271, 272, 273, 274, 275, 276, 277, 278, 279, 280, 281, 282, 283, 284, 285, 286, 287], mOK c := List.forall_mem_cons.mpr ⟨mok_253, List.forall_mem_cons.mpr ⟨mok_254, List.forall_mem_cons.mpr ⟨mok_255, List.forall_mem_cons.mpr ⟨mok_256, List.forall_mem_cons.mpr ⟨mok_257, List.forall_mem_cons.mpr ⟨mok_258, List.forall_mem_cons.mpr ⟨mok_259, List.forall_mem_cons.mpr ⟨mok_260, List.forall_mem_cons.mpr ⟨mok_261, List.forall_mem_cons.mpr ⟨mok_262, List.forall_mem_cons.mpr ⟨mok_263, List.forall_mem_cons.mpr ⟨mok_264, List.forall_mem_cons.mpr ⟨mok_265, List.forall_mem_cons.mpr ⟨mok_266, List.forall_mem_cons.mpr ⟨mok_267, List.forall_mem_cons.mpr ⟨mok_268, List.forall_mem_cons.mpr ⟨mok_269, List.forall_mem_cons.mpr ⟨mok_270, List.forall_mem_cons.mpr ⟨mok_271, List.forall_mem_cons.mpr ⟨mok_272, List.forall_mem_cons.mpr ⟨mok_273, List.forall_mem_cons.mpr ⟨mok_274, List.forall_mem_cons.mpr ⟨mok_275, List.forall_mem_cons.mpr ⟨mok_276, List.forall_mem_cons.mpr ⟨mok_277, List.forall_mem_cons.mpr ⟨mok_278, List.forall_mem_cons.mpr ⟨mok_279, List.forall_mem_cons.mpr ⟨mok_280, List.forall_mem_cons.mpr ⟨mok_281, List.forall_mem_cons.mpr ⟨mok_282, List.forall_mem_cons.mpr ⟨mok_283, List.forall_mem_cons.mpr ⟨mok_284, List.forall_mem_cons.mpr ⟨mok_285, List.forall_mem_cons.mpr ⟨mok_286, List.forall_mem_cons.mpr ⟨mok_287, fun _ h => absurd h List.not_mem_nil⟩⟩⟩⟩⟩⟩⟩⟩⟩⟩⟩⟩⟩⟩⟩⟩⟩⟩⟩⟩⟩⟩⟩⟩⟩⟩⟩⟩⟩⟩⟩⟩⟩⟩⟩
set_option maxRecDepth 100000 in
theorem mok_all : ∀ c ∈ mCalled, mOK c := by
  have h : ∀ c ∈ ([1, 2, 3, 4, 5, 6, 7, 8, 9, 10, 11, 13, 14, 15, 16, 17, 18, 19, 20, 21, 23, 24, 25, 26, 27, 28, 29, 30, 31, 32, 33, 34, 35, 36, 37, 38, 39, 40, 42, 43, 44, 45, 46, 47, 48, 49, 51, 52] : List Nat) ++ (([53, 54, 55, 56, 57, 58, 59, 60, 61, 63, 64, 65, 66, 67, 68, 70, 71, 72, 73, 74, 76, 77, 78, 79, 80, 81, 82, 83, 84, 86, 87, 88, 89, 90, 92, 93, 94, 95, 96, 97, 98, 99, 100, 101, 102, 103, 104, 105] : List Nat) ++ (([106, 108, 109, 110, 111, 112, 113, 114, 115, 116, 117, 118, 119, 120, 121, 122, 123, 124, 125, 126, 127, 128, 129, 130, 131, 133, 134, 135, 136, 137, 138, 139, 140, 141, 142, 143, 144, 145, 146, 147, 148, 149, 150, 151, 152, 153, 154, 155] : List Nat) ++ (([156, 157, 158, 159, 160, 161, 162, 163, 164, 165, 166, 167, 168, 169, 170, 171, 172, 173, 174, 175, 176, 177, 178, 179, 181, 182, 183, 184, 185, 186, 187, 188, 189, 190, 191, 192, 193, 194, 195, 196, 197, 198, 199, 200, 201, 202, 203, 204] : List Nat) ++ (([205, 206, 207, 208, 209, 210, 211, 212, 213, 214, 215, 216, 217, 218, 219, 220, 221, 222, 223, 224, 225, 226, 227, 228, 229, 230, 231, 232, 233, 234, 235, 236, 237, 238, 239, 240, 241, 242, 243, 244, 245, 246, 247, 248, 249, 250, 251, 252] : List Nat) ++ (([253, 254, 255, 256, 257, 258, 259, 260, 261, 262, 263, 264, 265, 266, 267, 268, 269, 270, 271, 272, 273, 274, 275, 276, 277, 278, 279, 280, 281, 282, 283, 284, 285, 286, 287] : List Nat)))))), mOK c := List.forall_mem_append.mpr ⟨mokc_0, List.forall_mem_append.mpr ⟨mokc_1, List.forall_mem_append.mpr ⟨mokc_2, List.forall_mem_append.mpr ⟨mokc_3, List.forall_mem_append.mpr ⟨mokc_4, mokc_5⟩⟩⟩⟩⟩
  exact h
/-- a place of the pool of class o is what its word says -/
def chkP (o : Nat) (z : Nat × aP × Bool × Nat) : Bool :=
  match aCls[o]? with
  | none => false
  | some O => match z.2.1.2.2.1 with
    | 4 => chkW z.2.2.2 (.constant O z.1 (Int32.ofInt z.2.1.2.2.2))
    | 10 => (match mTab[z.2.1.1]? with | some e => mCalled.contains z.2.1.1 && e.2.2.2.2.1 == z.2.1.2.1 && e.2.2.2.2.2.2 && (if z.2.2.1 = true then chkN z.2.2.2 (.methodLinkNest O z.1 e.2.1 hostN) else chkW z.2.2.2 (.methodLink O z.1 e.2.1)) | none => false)
    | 11 => (match mTab[z.2.1.1]? with | some e => mCalled.contains z.2.1.1 && e.2.2.2.2.1 == z.2.1.2.1 && !e.2.2.2.2.2.2 && chkW z.2.2.2 (.methodLink O z.1 e.2.1) | none => false)
    | 12 => chkW z.2.2.2 (.methodLink O z.1 arraycopyName)
    | 13 => chkW z.2.2.2 (.methodLink O z.1 Lib.Math.max.name)
    | 14 => chkW z.2.2.2 (.methodLink O z.1 Lib.Math.min.name)
    | k => (match vwCl[z.2.1.1]? with | some (C, T, N) => decide (z.2.1.2.1 < N) && (if z.2.2.1 = true then chkN z.2.2.2 (.fieldLinkNest O z.1 C (T z.2.1.2.1).2.1 (T z.2.1.2.1).2.2.1 hostN) else chkW z.2.2.2 (.fieldLink O z.1 C (T z.2.1.2.1).2.1 (T z.2.1.2.1).2.2.1)) && (T z.2.1.2.1).1 == C && (if k = 0 then clTy z.2.1.1 z.2.1.2.1 == .int && !(T z.2.1.2.1).2.2.2 else if k = 1 then clTy z.2.1.1 z.2.1.2.1 == .boolean && !(T z.2.1.2.1).2.2.2 else k == 2) | none => false)
theorem pl_0 : aPl_0.all (chkP 0) = true := by decide +kernel
theorem pl_1 : aPl_1.all (chkP 1) = true := by decide +kernel
theorem pl_2 : aPl_2.all (chkP 2) = true := by decide +kernel
theorem pl_3 : aPl_3.all (chkP 3) = true := by decide +kernel
theorem pl_4 : aPl_4.all (chkP 4) = true := by decide +kernel
theorem pl_5 : aPl_5.all (chkP 5) = true := by decide +kernel
theorem pl_6 : aPl_6.all (chkP 6) = true := by decide +kernel
theorem pl_7 : aPl_7.all (chkP 7) = true := by decide +kernel
theorem pl_8 : aPl_8.all (chkP 8) = true := by decide +kernel
theorem pl_9 : aPl_9.all (chkP 9) = true := by decide +kernel
theorem pl_10 : aPl_10.all (chkP 10) = true := by decide +kernel
theorem pl_11 : aPl_11.all (chkP 11) = true := by decide +kernel
theorem pl_12 : aPl_12.all (chkP 12) = true := by decide +kernel
theorem pl_13 : aPl_13.all (chkP 13) = true := by decide +kernel
theorem pl_14 : aPl_14.all (chkP 14) = true := by decide +kernel
theorem pl_15 : aPl_15.all (chkP 15) = true := by decide +kernel
theorem pl_16 : aPl_16.all (chkP 16) = true := by decide +kernel
theorem pl_ok : ∀ (c : Nat) (l : List (Nat × aP × Bool × Nat)), aPl[c]? = some l → l.all (chkP c) = true
  | 0, l, h => by cases h; exact pl_0
  | 1, l, h => by cases h; exact pl_1
  | 2, l, h => by cases h; exact pl_2
  | 3, l, h => by cases h; exact pl_3
  | 4, l, h => by cases h; exact pl_4
  | 5, l, h => by cases h; exact pl_5
  | 6, l, h => by cases h; exact pl_6
  | 7, l, h => by cases h; exact pl_7
  | 8, l, h => by cases h; exact pl_8
  | 9, l, h => by cases h; exact pl_9
  | 10, l, h => by cases h; exact pl_10
  | 11, l, h => by cases h; exact pl_11
  | 12, l, h => by cases h; exact pl_12
  | 13, l, h => by cases h; exact pl_13
  | 14, l, h => by cases h; exact pl_14
  | 15, l, h => by cases h; exact pl_15
  | 16, l, h => by cases h; exact pl_16
  | _ + 17, l, h => by simp [aPl] at h
theorem lookup_in {l : List (Nat × aP × Bool × Nat)} {k : Nat} {z : aP × Bool × Nat} (h : l.lookup k = some z) : (k, z) ∈ l := by
  induction l with
  | nil => cases h
  | cons a l ih =>
    obtain ⟨a1, a2⟩ := a
    rw [List.lookup_cons] at h
    by_cases e : (k == a1) = true
    · rw [e] at h
      cases h
      rw [beq_iff_eq] at e
      subst e
      exact List.mem_cons_self
    · simp only [Bool.not_eq_true] at e
      rw [e] at h
      exact List.mem_cons_of_mem _ (ih h)
theorem acp_words : Jvm.Cond.native arraycopyName ∈ gT ∧ Jvm.Cond.static arraycopyName ∈ gT ∧ Jvm.Cond.initialized "java/lang/System" ∈ gT := ⟨chkW_in (p := 605) (by decide +kernel), chkW_in (p := 604) (by decide +kernel), chkW_in (p := 119) (by decide +kernel)⟩
theorem math_words : (Jvm.Cond.static Lib.Math.max.name ∈ gT ∧ Jvm.Cond.static Lib.Math.min.name ∈ gT ∧ Jvm.Cond.initialized "java/lang/Math" ∈ gT) ∧ Jvm.Cond.code Lib.Math.max.name Lib.Math.max.code 2 (some .int) ∈ gT ∧ Jvm.Cond.code Lib.Math.min.name Lib.Math.min.code 2 (some .int) ∈ gT := ⟨⟨chkW_in (p := 735) (by decide +kernel), chkW_in (p := 732) (by decide +kernel), chkW_in (p := 120) (by decide +kernel)⟩, List.mem_filter.mpr ⟨in_t3 _ (List.mem_of_getElem? (i := 151) rfl), rfl⟩, List.mem_filter.mpr ⟨in_t3 _ (List.mem_of_getElem? (i := 148) rfl), rfl⟩⟩
/-- an instruction as the small machine reads it is the method's, and its pool place is right -/
theorem rfI_ok {c pc : Nat} {i : Instr} {P : aP} (h : rfI c pc = some (i, P)) : ∃ (e : ByteArray × MethodName × Nat × Nat × Nat × Option FieldType × Bool) (n : Nat), mTab[c]? = some e ∧ decode e.1 pc = .ok (i, n) ∧ okLen i n = true ∧ ∀ k, idxOf i = some k → ∃ (nb : Bool) (p : Nat), chkP e.2.2.1 (k, P, nb, p) = true := by
  unfold rfI at h
  split at h
  · next e he =>
    refine ⟨e, ?_⟩
    split at h
    · next j n hd =>
      split at h
      · next hl =>
        split at h
        · next hi =>
          cases h
          exact ⟨n, he, hd, hl, fun k hk => by rw [hi] at hk; cases hk⟩
        · next k hi =>
          split at h
          · next l hl2 =>
            rw [Option.map_eq_some_iff] at h
            obtain ⟨z, h1, h2⟩ := h
            cases h2
            refine ⟨n, he, hd, hl, fun k' hk => ?_⟩
            rw [hi] at hk
            cases hk
            exact ⟨z.2.1, z.2.2, List.all_eq_true.mp (pl_ok _ _ hl2) _ (lookup_in h1)⟩
          · cases h
      · cases h
    · cases h
  · cases h
