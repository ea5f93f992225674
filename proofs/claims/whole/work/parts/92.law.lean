-- the law: made, and told
theorem kw_1351 : (Cond.methodLink "BackVillage" 125 ⟨"BackVillage$LawReader", "open", "(LBackVillage$Tape;I)V"⟩) ∈ GW := gw_6 (i := 15) (by decide +kernel) rfl
theorem kw_1352 : (Cond.sameMethod "BackVillage$LawReader" "BackVillage$TextReader" "open" "(LBackVillage$Tape;I)V") ∈ GW := gw_6 (i := 16) (by decide +kernel) rfl
theorem kw_1353 : (Cond.selects "BackVillage$LawReader" ⟨"BackVillage$LawReader", "open", "(LBackVillage$Tape;I)V"⟩ ⟨"BackVillage$TextReader", "open", "(LBackVillage$Tape;I)V"⟩) ∈ GW := gw_6 (i := 17) (by decide +kernel) rfl
theorem kw_1354 : (Cond.methodLink "BackVillage" 126 ⟨"BackVillage$LawReader", "startAnew", "()V"⟩) ∈ GW := gw_6 (i := 18) (by decide +kernel) rfl
theorem kw_1355 : (Cond.instanceMethod ⟨"BackVillage$LawReader", "startAnew", "()V"⟩) ∈ GW := gw_6 (i := 19) (by decide +kernel) rfl
theorem kw_1356 : (Cond.selects "BackVillage$LawReader" ⟨"BackVillage$LawReader", "startAnew", "()V"⟩ ⟨"BackVillage$LawReader", "startAnew", "()V"⟩) ∈ GW := gw_6 (i := 20) (by decide +kernel) rfl
theorem kw_1357 : (Cond.code ⟨"BackVillage$LawReader", "startAnew", "()V"⟩ prog_5_method_2_code 1 none) ∈ GW := gw_6 (i := 21) (by decide +kernel) rfl
theorem kw_1358 : (Cond.methodLink "BackVillage" 129 ⟨"BackVillage$LawReader", "readLines", "(I)I"⟩) ∈ GW := gw_6 (i := 22) (by decide +kernel) rfl
theorem kw_1359 : (Cond.sameMethod "BackVillage$LawReader" "BackVillage$TextReader" "readLines" "(I)I") ∈ GW := gw_6 (i := 23) (by decide +kernel) rfl
theorem kw_1360 : (Cond.selects "BackVillage$LawReader" ⟨"BackVillage$LawReader", "readLines", "(I)I"⟩ ⟨"BackVillage$TextReader", "readLines", "(I)I"⟩) ∈ GW := gw_6 (i := 24) (by decide +kernel) rfl
theorem kw_1361 : (Cond.methodLink "BackVillage" 130 ⟨"BackVillage$LawReader", "wrong", "()I"⟩) ∈ GW := gw_6 (i := 25) (by decide +kernel) rfl
theorem kw_1362 : (Cond.sameMethod "BackVillage$LawReader" "BackVillage$TextReader" "wrong" "()I") ∈ GW := gw_6 (i := 26) (by decide +kernel) rfl
theorem kw_1363 : (Cond.selects "BackVillage$LawReader" ⟨"BackVillage$LawReader", "wrong", "()I"⟩ ⟨"BackVillage$TextReader", "wrong", "()I"⟩) ∈ GW := gw_6 (i := 27) (by decide +kernel) rfl
theorem kw_1365 : (Cond.methodLink "BackVillage" 133 ⟨"BackVillage$LawReader", "made", "(I)LBackVillage$Law;"⟩) ∈ GW := gw_6 (i := 29) (by decide +kernel) rfl
theorem kw_1366 : (Cond.instanceMethod ⟨"BackVillage$LawReader", "made", "(I)LBackVillage$Law;"⟩) ∈ GW := gw_6 (i := 30) (by decide +kernel) rfl
theorem kw_1367 : (Cond.selects "BackVillage$LawReader" ⟨"BackVillage$LawReader", "made", "(I)LBackVillage$Law;"⟩ ⟨"BackVillage$LawReader", "made", "(I)LBackVillage$Law;"⟩) ∈ GW := gw_6 (i := 31) (by decide +kernel) rfl
theorem kw_1368 : (Cond.code ⟨"BackVillage$LawReader", "made", "(I)LBackVillage$Law;"⟩ prog_5_method_3_code 2 (some (.object "BackVillage$Law"))) ∈ GW := gw_6 (i := 32) (by decide +kernel) rfl
theorem kw_1369 : (Cond.classLink "BackVillage$LawReader" 19 "BackVillage$Law") ∈ GW := gw_6 (i := 33) (by decide +kernel) rfl
theorem kw_1370 : (Cond.instantiable "BackVillage$Law" 2) ∈ GW := gw_6 (i := 34) (by decide +kernel) rfl
theorem kw_1371 : (Cond.methodLink "BackVillage$LawReader" 21 ⟨"java/lang/Math", "min", "(II)I"⟩) ∈ GW := gw_6 (i := 35) (by decide +kernel) rfl
theorem kw_1372 : (Cond.methodLink "BackVillage$LawReader" 27 ⟨"java/lang/Math", "max", "(II)I"⟩) ∈ GW := gw_6 (i := 36) (by decide +kernel) rfl
theorem kw_1373 : (Cond.methodLink "BackVillage$LawReader" 30 ⟨"java/util/Arrays", "copyOf", "([II)[I"⟩) ∈ GW := gw_6 (i := 37) (by decide +kernel) rfl
theorem kw_1374 : (Cond.methodLink "BackVillage$LawReader" 36 ⟨"BackVillage$Law", "<init>", "([II)V"⟩) ∈ GW := gw_6 (i := 38) (by decide +kernel) rfl
theorem kw_1375 : (Cond.instanceMethod ⟨"BackVillage$Law", "<init>", "([II)V"⟩) ∈ GW := gw_6 (i := 39) (by decide +kernel) rfl
theorem kw_1376 : (Cond.code ⟨"BackVillage$Law", "<init>", "([II)V"⟩ prog_4_method_1_code 3 none) ∈ GW := gw_6 (i := 40) (by decide +kernel) rfl
theorem kw_1377 : (Cond.methodLink "BackVillage$Law" 1 ⟨"java/lang/Object", "<init>", "()V"⟩) ∈ GW := gw_6 (i := 41) (by decide +kernel) rfl
theorem dX2_init_0 : decode cX2_init 0 = .ok (.aload_n 0, 1) := by decide +kernel
theorem dX2_init_1 : decode cX2_init 1 = .ok (.invokespecial 1, 3) := by decide +kernel
theorem dX2_init_4 : decode cX2_init 4 = .ok (.aload_n 0, 1) := by decide +kernel
theorem dX2_init_5 : decode cX2_init 5 = .ok (.aload_n 1, 1) := by decide +kernel
theorem dX2_init_6 : decode cX2_init 6 = .ok (.putfield 7, 3) := by decide +kernel
theorem dX2_init_9 : decode cX2_init 9 = .ok (.aload_n 0, 1) := by decide +kernel
theorem dX2_init_10 : decode cX2_init 10 = .ok (.iload_n 2, 1) := by decide +kernel
theorem dX2_init_11 : decode cX2_init 11 = .ok (.putfield 13, 3) := by decide +kernel
theorem dX2_init_14 : decode cX2_init 14 = .ok (.return_, 1) := by decide +kernel
theorem dX3_made_0 : decode cX3_made 0 = .ok (.new 19, 3) := by decide +kernel
theorem dX3_made_3 : decode cX3_made 3 = .ok (.dup, 1) := by decide +kernel
theorem dX3_made_4 : decode cX3_made 4 = .ok (.aload_n 0, 1) := by decide +kernel
theorem dX3_made_5 : decode cX3_made 5 = .ok (.getfield 11, 3) := by decide +kernel
theorem dX3_made_8 : decode cX3_made 8 = .ok (.iconst 0, 1) := by decide +kernel
theorem dX3_made_9 : decode cX3_made 9 = .ok (.aload_n 0, 1) := by decide +kernel
theorem dX3_made_10 : decode cX3_made 10 = .ok (.getfield 15, 3) := by decide +kernel
theorem dX3_made_13 : decode cX3_made 13 = .ok (.aload_n 0, 1) := by decide +kernel
theorem dX3_made_14 : decode cX3_made 14 = .ok (.getfield 11, 3) := by decide +kernel
theorem dX3_made_17 : decode cX3_made 17 = .ok (.arraylength, 1) := by decide +kernel
theorem dX3_made_18 : decode cX3_made 18 = .ok (.invokestatic 21, 3) := by decide +kernel
theorem dX3_made_21 : decode cX3_made 21 = .ok (.invokestatic 27, 3) := by decide +kernel
theorem dX3_made_24 : decode cX3_made 24 = .ok (.invokestatic 30, 3) := by decide +kernel
theorem dX3_made_27 : decode cX3_made 27 = .ok (.iload_n 1, 1) := by decide +kernel
theorem dX3_made_28 : decode cX3_made 28 = .ok (.invokespecial 36, 3) := by decide +kernel
theorem dX3_made_31 : decode cX3_made 31 = .ok (.areturn, 1) := by decide +kernel
theorem dX10_law_0 : decode cX10_law 0 = .ok (.aload_n 0, 1) := by decide +kernel
theorem dX10_law_1 : decode cX10_law 1 = .ok (.getfield 10, 3) := by decide +kernel
theorem dX10_law_4 : decode cX10_law 4 = .ok (.invokevirtual 86, 3) := by decide +kernel
theorem dX10_law_7 : decode cX10_law 7 = .ok (.istore_n 1, 1) := by decide +kernel
theorem dX10_law_8 : decode cX10_law 8 = .ok (.aload_n 0, 1) := by decide +kernel
theorem dX10_law_9 : decode cX10_law 9 = .ok (.getfield 49, 3) := by decide +kernel
theorem dX10_law_12 : decode cX10_law 12 = .ok (.aload_n 0, 1) := by decide +kernel
theorem dX10_law_13 : decode cX10_law 13 = .ok (.getfield 10, 3) := by decide +kernel
theorem dX10_law_16 : decode cX10_law 16 = .ok (.iload_n 1, 1) := by decide +kernel
theorem dX10_law_17 : decode cX10_law 17 = .ok (.invokevirtual 125, 3) := by decide +kernel
theorem dX10_law_20 : decode cX10_law 20 = .ok (.aload_n 0, 1) := by decide +kernel
theorem dX10_law_21 : decode cX10_law 21 = .ok (.getfield 49, 3) := by decide +kernel
theorem dX10_law_24 : decode cX10_law 24 = .ok (.invokevirtual 126, 3) := by decide +kernel
theorem dX10_law_27 : decode cX10_law 27 = .ok (.aload_n 0, 1) := by decide +kernel
theorem dX10_law_28 : decode cX10_law 28 = .ok (.getfield 49, 3) := by decide +kernel
theorem dX10_law_31 : decode cX10_law 31 = .ok (.bipush 12, 2) := by decide +kernel
theorem dX10_law_33 : decode cX10_law 33 = .ok (.invokevirtual 129, 3) := by decide +kernel
theorem dX10_law_36 : decode cX10_law 36 = .ok (.istore_n 2, 1) := by decide +kernel
theorem dX10_law_37 : decode cX10_law 37 = .ok (.aload_n 0, 1) := by decide +kernel
theorem dX10_law_38 : decode cX10_law 38 = .ok (.aload_n 0, 1) := by decide +kernel
theorem dX10_law_39 : decode cX10_law 39 = .ok (.getfield 49, 3) := by decide +kernel
theorem dX10_law_42 : decode cX10_law 42 = .ok (.invokevirtual 130, 3) := by decide +kernel
theorem dX10_law_45 : decode cX10_law 45 = .ok (.putfield 67, 3) := by decide +kernel
theorem dX10_law_48 : decode cX10_law 48 = .ok (.iload_n 2, 1) := by decide +kernel
theorem dX10_law_49 : decode cX10_law 49 = .ok (.iconst (-1), 1) := by decide +kernel
theorem dX10_law_50 : decode cX10_law 50 = .ok (.if_icmp .ne 13, 3) := by decide +kernel
theorem dX10_law_53 : decode cX10_law 53 = .ok (.new 107, 3) := by decide +kernel
theorem dX10_law_56 : decode cX10_law 56 = .ok (.dup, 1) := by decide +kernel
theorem dX10_law_57 : decode cX10_law 57 = .ok (.ldc 131, 2) := by decide +kernel
theorem dX10_law_59 : decode cX10_law 59 = .ok (.invokespecial 111, 3) := by decide +kernel
theorem dX10_law_62 : decode cX10_law 62 = .ok (.athrow, 1) := by decide +kernel
theorem dX10_law_63 : decode cX10_law 63 = .ok (.aload_n 0, 1) := by decide +kernel
theorem dX10_law_64 : decode cX10_law 64 = .ok (.getfield 60, 3) := by decide +kernel
theorem dX10_law_67 : decode cX10_law 67 = .ok (.aload_n 0, 1) := by decide +kernel
theorem dX10_law_68 : decode cX10_law 68 = .ok (.getfield 49, 3) := by decide +kernel
theorem dX10_law_71 : decode cX10_law 71 = .ok (.iload_n 2, 1) := by decide +kernel
theorem dX10_law_72 : decode cX10_law 72 = .ok (.invokevirtual 133, 3) := by decide +kernel
theorem dX10_law_75 : decode cX10_law 75 = .ok (.putfield 137, 3) := by decide +kernel
theorem dX10_law_78 : decode cX10_law 78 = .ok (.aload_n 0, 1) := by decide +kernel
theorem dX10_law_79 : decode cX10_law 79 = .ok (.invokevirtual 122, 3) := by decide +kernel
theorem dX10_law_82 : decode cX10_law 82 = .ok (.iload_n 2, 1) := by decide +kernel
theorem dX10_law_83 : decode cX10_law 83 = .ok (.ireturn, 1) := by decide +kernel
theorem lk_X10_125 : LkU RX10 125 RX3 "BackVillage$TextReader" ⟨"BackVillage$LawReader", "open", "(LBackVillage$Tape;I)V"⟩ yX8_open cX8_open 5 none 2 := ⟨⟨kw_1351, kw_1352, kw_1353, kw_1088, kw_144, kw_1089⟩, Or.inl rfl, by decide, by decide, by decide +kernel⟩
theorem lk_X10_126 : LkV RX10 126 RX3 yX3_startAnew cX3_startAnew 1 none 0 := ⟨⟨kw_1354, kw_1355, kw_1356, kw_146, kw_1357⟩, rfl, by decide, by decide, by decide +kernel⟩
theorem lk_X10_129 : LkU RX10 129 RX3 "BackVillage$TextReader" ⟨"BackVillage$LawReader", "readLines", "(I)I"⟩ yX8_readLines cX8_readLines 3 (some .int) 1 := ⟨⟨kw_1358, kw_1359, kw_1360, kw_1185, kw_144, kw_1186⟩, Or.inl rfl, by decide, by decide, by decide +kernel⟩
theorem lk_X10_130 : LkU RX10 130 RX3 "BackVillage$TextReader" ⟨"BackVillage$LawReader", "wrong", "()I"⟩ yX8_wrong cX8_wrong 1 (some .int) 0 := ⟨⟨kw_1361, kw_1362, kw_1363, kw_1323, kw_144, kw_1324⟩, Or.inl rfl, by decide, by decide, by decide +kernel⟩
theorem lk_X10_133 : LkV RX10 133 RX3 yX3_made cX3_made 2 (some (.object "BackVillage$Law")) 1 := ⟨⟨kw_1365, kw_1366, kw_1367, kw_146, kw_1368⟩, rfl, by decide, by decide, by decide +kernel⟩
theorem lki_X3_36 : LkI RX3 36 yX2_init cX2_init 3 2 := ⟨⟨kw_1374, kw_1375, kw_167, kw_1376⟩, by decide, by decide, by decide, by decide +kernel⟩
theorem lk_X3_copyOf : LkS RX3 30 yJ7_copyOf_59c91 cJ7_copyOf_59c91 3 (some (.array .int)) 2 := ⟨⟨kw_1373, kw_567, kw_149, kw_568⟩, by decide, by decide, by decide +kernel⟩
def FX2 (tc : Nat → ClassId) (b m0 : Nat) (v0 : Int32) : (Nat → Nat) → va_W := fun u => [(b, .inr (2, [.ref m0, .int v0]))]
set_option maxHeartbeats 4000000 in
set_option maxRecDepth 100000 in
theorem cL_X2_init {l : Launch} {D : va_G} {tc : Nat → ClassId} {ro : Ro} {b m0 : Nat} {v0 : Int32} : CtL l D tc ro yX2_init cX2_init 3 (rma 1 30 0 0) [.ref b, .ref m0, .int v0] [(b, .inr (2, [.null, .int 0]))] (FX2 tc b m0 v0) := by
  refine CtL.of (by decide) (Nat.le_of_ble_eq_true rfl) (fun p e s m args below meth c A C hr hk hnm hW ls hl => ?_)
  have hx := C.1.1
  have hb := C.1.2.1
  obtain ⟨Q, hQ⟩ : ∃ Q, Q = MQ below (Ltq D (FX2 tc b m0 v0) A) args s (rma 1 30 0 0).cells (rma 1 30 0 0).slots A := ⟨_, rfl⟩
  rw [← hQ]
  have hl : lv_has ls 3 [(0, .ref b), (1, .ref m0), (2, .int v0)] := hl
  have hW : Wl D A s.heap [(b, .inr (2, [.null, .int 0]))] s.heap [] := hW
  refine lv_aload_n hx hb dX2_init_0 rfl (lv_at hl 0 rfl) ?_
  refine l_obj C hl kw_1377 kw_176 kw_177 dX2_init_1 (Nat.le_of_ble_eq_true rfl) (Nat.le_of_ble_eq_true rfl) ?_
  refine lv_aload_n hx hb dX2_init_4 rfl (lv_at hl 0 rfl) ?_
  refine lv_aload_n hx hb dX2_init_5 rfl (lv_at hl 1 rfl) ?_
  refine l_put (ci := 2) (T := TX2) (N := 2) (f := 0) (v := .ref m0) (ty := .array .int) C hnm hW 0 rfl rfl (Nat.le_of_ble_eq_true rfl) kin_X2 tyX2_ok nmX2 kw_1378 (Or.inl rfl) (Or.inr rfl) (by decide +kernel) (Nat.le_of_ble_eq_true rfl) rfl rfl dX2_init_6 (fun H locs hW => ?_)
  have hW : Wl D A s.heap [(b, .inr (2, [.ref m0, .int 0]))] H locs := hW
  refine lv_aload_n hx hb dX2_init_9 rfl (lv_at hl 0 rfl) ?_
  refine lv_iload_n hx hb dX2_init_10 rfl (lv_at hl 2 rfl) ?_
  refine l_put (ci := 2) (T := TX2) (N := 2) (f := 1) (v := .int v0) (ty := .int) C hnm hW 0 rfl rfl (Nat.le_of_ble_eq_true rfl) kin_X2 tyX2_ok nmX2 kw_1379 (Or.inl rfl) (Or.inr rfl) (by decide +kernel) (Nat.le_of_ble_eq_true rfl) rfl rfl dX2_init_11 (fun H locs hW => ?_)
  have hW : Wl D A s.heap [(b, .inr (2, [.ref m0, .int v0]))] H locs := hW
  rw [hQ]
  exact l_vret C hr hk hW (fun i => ([] : List Nat).getD i 0) rfl (Nat.le_of_ble_eq_true rfl) (Nat.le_of_ble_eq_true rfl) dX2_init_14
theorem mr_131 : ("BackVillage", 131, "the text of the law is wrong", 26) ∈ refsS := List.mem_of_getElem? (i := 26) (by decide +kernel)
def oaW (oa : Ky → Nat) (i q q2 : Nat) : Ky → Nat := fun k => if k.1 = 14 ∧ k.2 = i then q else if k.1 = 15 ∧ k.2 = i then q2 else oa k
def shW (sh : Sh) (n : Nat) : Sh := shs (shs sh 4 2 (sh 4 2 + 1)) 1 (sh 4 2) n
def muW (μ : Mm) (i n : Nat) (v1 : Int32) : Mm := mrow (mrow μ (15, i) (cpz (μ (10, 0)) n)) (14, i) (fun x => if x = 1 then v1 else 0)
def NOL (sh : Sh) (μ : Mm) : Prop := ∀ s, sh 2 s = 1 → μ (13, s) 8 = 0 ∨ (μ (13, s) 8).toNatClampNeg - 1 ≠ sh 4 2
section LAWW
variable {oa : Ky → Nat} {aa : Nat → Nat} {sh : Sh} {ln : Nat → Nat} {μ : Mm} {q q2 n : Nat} {tc : Nat → ClassId}
theorem shW_2 {x : Nat} : shW sh n 2 x = sh 2 x := by
  unfold shW shs
  rw [if_neg (fun e => absurd e.1 (by omega)), if_neg (fun e => absurd e.1 (by omega))]
theorem shW_42 : shW sh n 4 2 = sh 4 2 + 1 := by
  unfold shW shs
  rw [if_neg (fun e => absurd e.1 (by omega))]
  exact if_pos ⟨rfl, rfl⟩
theorem shW_1 {x : Nat} (h : x ≠ sh 4 2) : shW sh n 1 x = sh 1 x := by
  unfold shW shs
  rw [if_neg (fun e => h e.2), if_neg (fun e => absurd e.1 (by omega))]
theorem shW_1i : shW sh n 1 (sh 4 2) = n := if_pos ⟨rfl, rfl⟩
theorem cexW (c : Nat) : cex (shW sh n) c = cex sh c := by
  unfold cex
  rw [shW_2]
theorem oaW_o {i : Nat} {k : Ky} (h14 : k.1 ≠ 14) (h15 : k.1 ≠ 15) : oaW oa i q q2 k = oa k := by
  unfold oaW
  rw [if_neg (fun e => h14 e.1), if_neg (fun e => h15 e.1)]
theorem oaW_n {i : Nat} {a b : Nat} (h : b ≠ i) : oaW oa i q q2 (a, b) = oa (a, b) := by
  unfold oaW
  rw [if_neg (fun e => h e.2), if_neg (fun e => h e.2)]
theorem oaW_14 {i : Nat} : oaW oa i q q2 (14, i) = q := if_pos ⟨rfl, rfl⟩
theorem oaW_15 {i : Nat} : oaW oa i q q2 (15, i) = q2 := by
  unfold oaW
  rw [if_neg (fun e => absurd e.1 (by show ¬ (15 : Nat) = 14; omega)), if_pos ⟨rfl, rfl⟩]
theorem agrW : AGR sh oa (oaW oa (sh 4 2) q q2) := by
  rintro ⟨x, y⟩ hk
  by_cases e : y = sh 4 2
  · by_cases e14 : x = 14
    · subst e14 e
      have hk : (if sh 4 2 < sh 4 2 then some 0 else none : Option Nat).isSome = true := hk
      rw [if_neg (by omega)] at hk
      cases hk
    · by_cases e15 : x = 15
      · subst e15 e
        have hk : (if sh 4 2 < sh 4 2 then some 0 else none : Option Nat).isSome = true := hk
        rw [if_neg (by omega)] at hk
        cases hk
      · exact oaW_o e14 e15
  · exact oaW_n e
theorem faB_W (k : Ky) : faB (oaW oa (sh 4 2) q q2) aa (shW sh n) k = fax (fax (faB oa aa sh) (14, sh 4 2) q) (15, sh 4 2) q2 k := by
  obtain ⟨a, b⟩ := k
  by_cases e15 : a = 15
  · subst e15
    show (if b < shW sh n 4 2 then some (oaW oa (sh 4 2) q q2 (15, b)) else none) = _
    rw [shW_42]
    by_cases e : b = sh 4 2
    · rw [e, fax_self, if_pos (by omega), oaW_15]
    · rw [fax_ne (fun h => e (congrArg Prod.snd h)), fax_ne (fun h => absurd (congrArg Prod.fst h) (by show ¬ (15 : Nat) = 14; omega)), oaW_n e]
      show _ = (if b < sh 4 2 then some (oa (15, b)) else none)
      by_cases c : b < sh 4 2
      · rw [if_pos c, if_pos (by omega)]
      · rw [if_neg c, if_neg (by omega)]
  · by_cases e14 : a = 14
    · subst e14
      show (if b < shW sh n 4 2 then some (oaW oa (sh 4 2) q q2 (14, b)) else none) = _
      rw [shW_42, fax_ne (fun h => e15 (congrArg Prod.fst h))]
      by_cases e : b = sh 4 2
      · rw [e, fax_self, if_pos (by omega), oaW_14]
      · rw [fax_ne (fun h => e (congrArg Prod.snd h)), oaW_n e]
        show _ = (if b < sh 4 2 then some (oa (14, b)) else none)
        by_cases c : b < sh 4 2
        · rw [if_pos c, if_pos (by omega)]
        · rw [if_neg c, if_neg (by omega)]
    · rw [fax_ne (fun h => e15 (congrArg Prod.fst h)), fax_ne (fun h => e14 (congrArg Prod.fst h))]
      match a with
      | 0 => rfl
      | 1 => rfl
      | 2 => rfl
      | 3 => rfl
      | 4 => rfl
      | 5 => rfl
      | 6 => rfl
      | 7 => rfl
      | 8 => rfl
      | 9 => rfl
      | 10 => rfl
      | 11 => show (if cex (shW sh n) b = true then some (oaW oa (sh 4 2) q q2 (11, b)) else none) = (if cex sh b = true then some (oa (11, b)) else none); rw [cexW, oaW_o (by simp) (by simp)]
      | 12 => show (if cex (shW sh n) b = true then some (aa b) else none) = (if cex sh b = true then some (aa b) else none); rw [cexW]
      | 13 => show (if shW sh n 2 b = 1 then some (oaW oa (sh 4 2) q q2 (13, b)) else none) = (if sh 2 b = 1 then some (oa (13, b)) else none); rw [shW_2, oaW_o (by simp) (by simp)]
      | 14 => exact absurd rfl e14
      | 15 => exact absurd rfl e15
      | n + 16 => rfl
theorem feB_W (k : Ky) (r : Nat → Int32) (h14 : k ≠ (14, sh 4 2)) (h15 : k ≠ (15, sh 4 2)) (h13 : k.1 = 13 → r 8 = 0 ∨ (r 8).toNatClampNeg - 1 ≠ sh 4 2) : feB tc (oaW oa (sh 4 2) q q2) aa (shW sh n) ln k r = feB tc oa aa sh ln k r := by
  obtain ⟨a, b⟩ := k
  match a with
  | 0 => rfl
  | 1 =>
    show (Sum.inl (tc 3, 8, .inr (.inr (.inr (.inr (fun i => if shW sh n 2 (2 + i) = 0 then none else some (oaW oa (sh 4 2) q q2 (13, 2 + i))))))) : va_E) = Sum.inl (tc 3, 8, .inr (.inr (.inr (.inr (fun i => if sh 2 (2 + i) = 0 then none else some (oa (13, 2 + i)))))))
    refine congrArg (fun f => (Sum.inl (tc 3, 8, .inr (.inr (.inr (.inr f)))) : va_E)) (funext fun x => ?_)
    rw [shW_2, oaW_o (by simp) (by simp)]
  | 2 => rfl
  | 3 => rfl
  | 4 => rfl
  | 5 => rfl
  | 6 => match b with
    | 0 => rfl
    | n + 1 => rfl
  | 7 => rfl
  | 8 => rfl
  | 9 => rfl
  | 10 => rfl
  | 11 => rfl
  | 12 => rfl
  | 13 =>
    show (Sum.inr (6, fsSt (oaW oa (sh 4 2) q q2) b r) : va_E) = Sum.inr (6, fsSt oa b r)
    have e : (if r 8 = 0 then Value.null else .ref (oaW oa (sh 4 2) q q2 (14, (r 8).toNatClampNeg - 1))) = (if r 8 = 0 then Value.null else .ref (oa (14, (r 8).toNatClampNeg - 1))) := by
      rcases h13 rfl with h | h
      · rw [if_pos h, if_pos h]
      · rw [oaW_n h]
    unfold fsSt
    rw [e, oaW_o (by simp) (by simp), oaW_o (by simp) (by simp), oaW_o (by simp) (by simp), oaW_o (by simp) (by simp), oaW_o (by simp) (by simp)]
  | 14 =>
    show (Sum.inr (2, fsLaw (oaW oa (sh 4 2) q q2) b r) : va_E) = Sum.inr (2, fsLaw oa b r)
    unfold fsLaw
    rw [oaW_n (fun e => h14 (by rw [e]))]
  | 15 =>
    show (Sum.inl (tc 0, shW sh n 1 b, .inl r) : va_E) = Sum.inl (tc 0, sh 1 b, .inl r)
    rw [shW_1 (fun e => h15 (by rw [e]))]
  | n + 16 => rfl
end LAWW
theorem madeN_le (μ : Mm) (h : ¬ (madeN μ).toNatClampNeg = 512) : ¬ madeN μ < 0 ∧ ¬ madeN μ = nI 512 ∧ (madeN μ).toNatClampNeg ≤ 134217728 ∧ (if madeN μ < nI 512 then madeN μ else nI 512) = madeN μ := by
  have h1 : ¬ madeN μ < 0 := by
    unfold madeN
    by_cases c : (0 : Int32) < (if (512 : Int32) < μ (6, 1) 12 then (512 : Int32) else μ (6, 1) 12)
    · rw [if_pos c]
      intro h
      have := Int32.lt_trans h c
      exact Int32.lt_irrefl this
    · rw [if_neg c]
      decide
  have h2 : madeN μ ≤ nI 512 := by
    unfold madeN
    by_cases c : (0 : Int32) < (if (512 : Int32) < μ (6, 1) 12 then (512 : Int32) else μ (6, 1) 12)
    · rw [if_pos c]
      by_cases c2 : (512 : Int32) < μ (6, 1) 12
      · rw [if_pos c2]
        exact Int32.le_refl _
      · rw [if_neg c2]
        exact Int32.not_lt.mp c2
    · rw [if_neg c]
      decide
  have h3 : ¬ madeN μ = nI 512 := fun e => h (by rw [e]; decide +kernel)
  have h4 : (madeN μ).toInt ≤ 512 := by
    have := Int32.le_iff_toInt_le.mp h2
    rwa [nI_toInt (by omega)] at this
  refine ⟨h1, h3, ?_, ?_⟩
  · show (madeN μ).toInt.toNat ≤ 134217728
    omega
  · by_cases c : madeN μ < nI 512
    · rw [if_pos c]
    · exact absurd (Int32.le_antisymm h2 (Int32.not_lt.mp c)) h3
set_option maxHeartbeats 4000000 in
set_option maxRecDepth 100000 in
theorem cO_X3_made {l : Launch} {D : va_G} {tc : Nat → ClassId} {ro : Ro} {oa : Ky → Nat} {sh : Sh} {ln : Nat → Nat} {μ : Mm} {v1 : Int32} {res : Nat × Sh × Mm} {kc ks : Nat} (hno : NOL sh μ) (hf : f_X3_madeO sh ln μ v1 = some (res, kc, ks)) : CtO l D tc ro oa yX3_made cX3_made 2 (some (.object "BackVillage$Law")) (rma 3 90 kc ks) [.ref (oa (6, 1)), .int v1] sh ln μ (fun oa' => some (.ref (oa' (14, res.1)))) res.2.1 ln res.2.2 := by
  refine CtO.of (by decide) (Nat.le_of_ble_eq_true rfl) (fun aa p e s m args below meth c A C hr hk hW ls hl => ?_)
  have hx := C.1.1
  have hb := C.1.2.1
  have hl : lv_has ls 2 [(0, .ref (oa (6, 1))), (1, .int v1)] := hl
  unfold f_X3_madeO at hf
  obtain ⟨hn5, hf⟩ := ce_of hf
  obtain ⟨rfl, rfl, rfl⟩ : (sh 4 2, shW sh (madeN μ).toNatClampNeg, muW μ (sh 4 2) (madeN μ).toNatClampNeg v1) = res ∧ 2 = kc ∧ (madeN μ).toNatClampNeg + 2 = ks := by cases hf; exact ⟨rfl, rfl, rfl⟩
  obtain ⟨b1, b2, b3, b4⟩ := madeN_le μ hn5
  obtain ⟨i, hi⟩ : ∃ i, i = sh 4 2 := ⟨_, rfl⟩
  obtain ⟨n, hn⟩ : ∃ n, n = (madeN μ).toNatClampNeg := ⟨_, rfl⟩
  have f14 : faB oa aa sh (14, i) = none := if_neg (by omega)
  have f15 : faB oa aa sh (15, i) = none := if_neg (by omega)
  have n1415 : ((15, i) : Ky) ≠ (14, i) := fun e => absurd (congrArg Prod.fst e) (by show ¬ (15 : Nat) = 14; omega)
  obtain ⟨Q, hQ⟩ : ∃ Q, Q = MQ below (Cto D tc oa (fun oa' => some (.ref (oa' (14, sh 4 2)))) sh (shW sh (madeN μ).toNatClampNeg) ln (muW μ (sh 4 2) (madeN μ).toNatClampNeg v1) A) args s (rma 3 90 2 ((madeN μ).toNatClampNeg + 2)).cells (rma 3 90 2 ((madeN μ).toNatClampNeg + 2)).slots A := ⟨_, rfl⟩
  show W p l e (rma 3 90 2 ((madeN μ).toNatClampNeg + 2)) s m args below meth c s.heap [] 0 0 (MQ below (Cto D tc oa (fun oa' => some (.ref (oa' (14, sh 4 2)))) sh (shW sh (madeN μ).toNatClampNeg) ln (muW μ (sh 4 2) (madeN μ).toNatClampNeg v1) A) args s (rma 3 90 2 ((madeN μ).toNatClampNeg + 2)).cells (rma 3 90 2 ((madeN μ).toNatClampNeg + 2)).slots A) (F0 m 0 ls [])
  rw [← hQ]
  refine r_newo (kN := (14, i)) (ci := 2) (T := TX2) (N := 2) C hW f14 rfl kin_X2 tyX2_ok kw_1369 kw_1370 kw_167 (fun _ => [.null, .int 0]) dfX2 (by show 0 + 1 ≤ 2; omega) (by show 0 + 2 ≤ (madeN μ).toNatClampNeg + 2; omega) dX3_made_0 (fun q H hW => ?_)
  refine lv_dup hx hb dX3_made_3 rfl ?_
  refine lv_aload_n hx hb dX3_made_4 rfl (lv_at hl 0 rfl) ?_
  have h61 : fax (faB oa aa sh) (14, i) q (6, 1) = some (oa (6, 1)) := (fax_ne (by simp)).trans rfl
  have e61 : fex (feB tc oa aa sh ln) (14, i) (fun _ => .inr (2, [.null, .int 0])) (6, 1) (mro μ (14, i) (fun _ => 0) (6, 1)) = .inr (3, fsLR oa (μ (6, 1))) := by rw [fex_ne (by simp), mro_ne (by simp)]; rfl
  have h10 : fax (faB oa aa sh) (14, i) q (10, 0) = some (oa (10, 0)) := (fax_ne (by simp)).trans rfl
  have e10 : ∀ r, fex (feB tc oa aa sh ln) (14, i) (fun _ => .inr (2, [.null, .int 0])) (10, 0) r = .inl (tc 0, 512, .inl r) := fun r => by rw [fex_ne (by simp)]; rfl
  refine r_get (k := ((6, 1) : Ky)) (fs := fsLR oa (μ (6, 1))) (T := TX3) (N := 13) (f := 11) C hW rfl (Nat.le_of_ble_eq_true rfl) kin_X3 kw_354 (Or.inl rfl) h61 e61 rfl dX3_made_5 ?_
  refine lv_iconst (v := 0) hx hb dX3_made_8 (by decide) ?_
  refine lv_aload_n hx hb dX3_made_9 rfl (lv_at hl 0 rfl) ?_
  refine r_get (k := ((6, 1) : Ky)) (fs := fsLR oa (μ (6, 1))) (T := TX3) (N := 13) (f := 12) C hW rfl (Nat.le_of_ble_eq_true rfl) kin_X3 kw_355 (Or.inl rfl) h61 e61 rfl dX3_made_10 ?_
  refine lv_aload_n hx hb dX3_made_13 rfl (lv_at hl 0 rfl) ?_
  refine r_get (k := ((6, 1) : Ky)) (fs := fsLR oa (μ (6, 1))) (T := TX3) (N := 13) (f := 11) C hW rfl (Nat.le_of_ble_eq_true rfl) kin_X3 kw_354 (Or.inl rfl) h61 e61 rfl dX3_made_14 ?_
  refine r_alen (k := ((10, 0) : Ky)) (t := 0) (v := (512 : Int32)) C hW h10 (e10 _) rfl rfl dX3_made_17 ?_
  refine r_mmin C hl kw_1371 kw_560 kw_140 kw_561 (Nat.le_of_ble_eq_true rfl) (Nat.le_of_ble_eq_true rfl) ⟨by show 0 + 1 ≤ 2; omega, by show 0 + 2 ≤ (madeN μ).toNatClampNeg + 2; omega⟩ dX3_made_18 ?_
  refine r_mmax C hl kw_1372 kw_191 kw_140 kw_192 (Nat.le_of_ble_eq_true rfl) (Nat.le_of_ble_eq_true rfl) ⟨by show 0 + 1 ≤ 2; omega, by show 0 + 2 ≤ (madeN μ).toNatClampNeg + 2; omega⟩ dX3_made_21 ?_
  refine r_copyOf (v := madeN μ) (k0 := ((10, 0) : Ky)) (kN := (15, i)) (n0 := 512) (rest := [.ref q, .ref q]) C hW hl lk_X3_copyOf h10 e10 ((fax_ne n1415).trans f15) b1 b2 (by omega) b3 ⟨Nat.le_of_ble_eq_true rfl, Nat.le_of_ble_eq_true rfl⟩ rfl (Nat.le_of_ble_eq_true rfl) dX3_made_24 ⟨by show 0 + 1 + 1 ≤ 2; omega, by show 0 + 2 + (madeN μ).toNatClampNeg ≤ (madeN μ).toNatClampNeg + 2; omega⟩ (fun q2 H locs hW => ?_)
  rw [b4] at hW
  refine lv_iload_n hx hb dX3_made_27 rfl (lv_at hl 1 rfl) ?_
  refine r_initW (kN := (14, i)) (b := q) (e0 := .inr (2, [.null, .int 0])) (As := [.ref q2, .int v1]) (rest := [.ref q]) (F := FX2 tc q q2 v1) C hW hl lki_X3_36 cL_X2_init (by rw [fax_ne n1415.symm, fax_self]) (by rw [fex_ne n1415.symm, fex_self]) ⟨Nat.le_of_ble_eq_true rfl, Nat.le_of_ble_eq_true rfl⟩ rfl rfl (Nat.le_of_ble_eq_true rfl) dX3_made_28 ⟨by show 0 + 1 + 1 + 0 ≤ 2; omega, by show 0 + 2 + (madeN μ).toNatClampNeg + 0 ≤ (madeN μ).toNatClampNeg + 2; omega⟩ (fun u H1 locs1 hP hD hS hz hk2 => ?_)
  have hinj := hW.2.2.2.2
  have g14 : fax (fax (faB oa aa sh) (14, i) q) (15, i) q2 (14, i) = some q := by rw [fax_ne n1415.symm, fax_self]
  have hfW : ∀ k, faB (oaW oa i q q2) aa (shW sh (madeN μ).toNatClampNeg) k = fax (fax (faB oa aa sh) (14, i) q) (15, i) q2 k := fun k => by rw [hi]; exact faB_W k
  obtain ⟨fo, hfo⟩ : ∃ fo : Fa, fo = fun k => if k = (14, i) then none else faB (oaW oa i q q2) aa (shW sh (madeN μ).toNatClampNeg) k := ⟨_, rfl⟩
  have fo1 : ∀ k a, fo k = some a → k ≠ (14, i) ∧ fax (fax (faB oa aa sh) (14, i) q) (15, i) q2 k = some a := fun k a h => by
    rw [hfo] at h
    have h : (if k = (14, i) then none else faB (oaW oa i q q2) aa (shW sh (madeN μ).toNatClampNeg) k) = some a := h
    by_cases e : k = (14, i)
    · rw [if_pos e] at h
      cases h
    · rw [if_neg e, hfW] at h
      exact ⟨e, h⟩
  have fq : ∀ k a, fo k = some a → a ≠ q := fun k a h e => by
    obtain ⟨h1, h2⟩ := fo1 k a h
    rw [e] at h2
    exact h1 (hinj k (14, i) q h2 g14)
  have hold : wd D fo (feB tc (oaW oa i q q2) aa (shW sh (madeN μ).toNatClampNeg) ln) (muW μ i (madeN μ).toNatClampNeg v1) H := by
    refine hW.1.reindex (fun k a h => ⟨k, (fo1 k a h).2, ?_⟩)
    obtain ⟨h1, h2⟩ := fo1 k a h
    by_cases e15 : k = (15, i)
    · subst e15
      rw [fex_self, mro_self, mro_ne (by simp)]
      show (Sum.inl (tc 0, (madeN μ).toNatClampNeg, .inl (cpz (μ (10, 0)) (madeN μ).toNatClampNeg)) : va_E) = Sum.inl (tc 0, shW sh (madeN μ).toNatClampNeg 1 i, .inl (muW μ i (madeN μ).toNatClampNeg v1 (15, i)))
      unfold muW
      rw [mrow_ne n1415, mrow_self, hi, shW_1i]
    · rw [fex_ne e15, fex_ne h1, mro_ne e15, mro_ne h1]
      unfold muW
      rw [mrow_ne h1, mrow_ne e15]
      rw [hi] at h1 e15 ⊢
      refine (feB_W k (μ k) h1 e15 (fun e13 => ?_)).symm
      obtain ⟨a', b'⟩ := k
      have e13 : a' = 13 := e13
      subst e13
      rw [fax_ne (by simp), fax_ne (by simp)] at h2
      have h2 : (if sh 2 b' = 1 then some (oa (13, b')) else none) = some a := h2
      by_cases c : sh 2 b' = 1
      · exact hno b' c
      · rw [if_neg c] at h2
        cases h2
  have hold1 := hold.kept (H1 := H1) (fun k a h => hk2 a (hold.lt h) (fq k a h))
  have hif : inj fo := fun k k' a h h' => hinj k k' a (fo1 k a h).2 (fo1 k' a h').2
  obtain ⟨g1, g2, g3⟩ := hold1.grow (fa2 := faB (oaW oa i q q2) aa (shW sh (madeN μ).toNatClampNeg)) (fe2 := feB tc (oaW oa i q q2) aa (shW sh (madeN μ).toNatClampNeg) ln) (μ2 := muW μ i (madeN μ).toNatClampNeg v1) (NK := [(14, i)]) hif hP (hD.weaken (fun _ _ _ _ => trivial)) (fun k a h z hz e => by
    have hz : z = (q, .inr (2, [.ref q2, .int v1])) := List.mem_singleton.mp hz
    rw [hz] at e
    exact fq k a h e.symm) (fun k a h => by
    by_cases e : k = (14, i)
    · right
      subst e
      rw [hfW, g14] at h
      cases h
      refine ⟨0, rfl, ?_⟩
      show some ((q, .inr (2, [.ref q2, .int v1])) : Nat × va_E) = some (q, .inr (2, fsLaw (oaW oa i q q2) i (muW μ i (madeN μ).toNatClampNeg v1 (14, i))))
      unfold fsLaw muW
      rw [mrow_self, oaW_15]
      rfl
    · left
      refine ⟨?_, rfl⟩
      rw [hfo]
      exact (if_neg e).trans h)
  rw [hQ]
  rw [hi] at g1 g2 g3 hW
  have hag : AGR sh oa (oaW oa (sh 4 2) q q2) := agrW
  refine r_aretO C hr hk hag (aa := aa) (H := H1) (locs := locs1) ⟨g1, hS, fun k a ha => ?_, hW.2.2.2.1, g2⟩ (by show some (Value.ref (oaW oa (sh 4 2) q q2 (14, sh 4 2))) = _; rw [oaW_14]) (by show 0 + 1 + 1 + 0 ≤ 2; omega) (by show 0 + 2 + (madeN μ).toNatClampNeg + 0 ≤ (madeN μ).toNatClampNeg + 2; omega) dX3_made_31
  exact hW.2.2.1 k a ((faB_W k).symm.trans ha)

