theorem lk_J0_335 : LkV "java/lang/String" 335 "java/lang/String" yJ0_coder_7d493 cJ0_coder_7d493 1 (some .byte) 0 := ⟨⟨kw_748, kw_749, kw_750, kw_151, kw_751⟩, rfl, by decide, by decide, by decide +kernel⟩
theorem lk_J0_492 : LkV "java/lang/String" 492 "java/lang/String" yJ0_isLatin1_aae02 cJ0_isLatin1_aae02 1 (some .boolean) 0 := ⟨⟨kw_1127, kw_1128, kw_1129, kw_151, kw_1130⟩, rfl, by decide, by decide, by decide +kernel⟩
theorem lk_J0_495 : LkS "java/lang/String" 495 yJ1_charAt_3b067 cJ1_charAt_3b067 2 (some .char) 2 := ⟨⟨kw_1131, kw_1132, kw_152, kw_1133⟩, by decide, by decide, by decide +kernel⟩
theorem lk_J1_9 : LkS "java/lang/StringLatin1" 9 yJ0_checkIndex_df160 cJ0_checkIndex_df160 2 none 2 := ⟨⟨kw_1134, kw_1135, kw_151, kw_1136⟩, by decide, by decide, by decide +kernel⟩
theorem lk_J0_1059 : LkS "java/lang/String" 1059 yJ3_checkIndex_8e157 cJ3_checkIndex_8e157 3 (some .int) 3 := ⟨⟨kw_1137, kw_1138, kw_153, kw_1139⟩, by decide, by decide, by decide +kernel⟩
theorem r_nret {p : Program} {l : Launch} {e : Env} {R : Room} {s : State} {m : MethodId} {args : Array Value} {below : List Frame} {meth : Method} {c : Code} {H : Heap} {locs : List Loc}
    {cc : ByteArray} {pc nL : Nat} {ls : Array Slot} {D : va_G} {tc : Nat → ClassId} {ro : Ro} {fa : Fa} {fe : Fe} {A : Nat → Prop} {μ μ' : Mm} {own : String} {rv : Option Value} {ty : FieldType} (C : Cx p s m args c own cc nL D tc ro A) (hr : meth.sig.returnType = some ty) (hk : meth.locks = false) (hW : Wd D fa fe A s.heap μ H locs) {v : Int32} (hn : narrow ty (.int v) = .int v) (hv : rv = some (.int v)) (hμ : μ' = μ) (hdg : decode cc pc = .ok (.ireturn, 1)) :
    W p l e R s m args below meth c H locs 0 0 (MQ below (Ctq D fa fe rv μ' A) args s 0 0 A) (F0 m pc ls [.int v]) := by
  obtain ⟨⟨hx, hb, -, -, -⟩, -, -⟩ := C
  subst hv; subst hμ
  exact W.zret hx hb hr hn (fun t ht _ => ⟨rfl, by rw [ht]; exact hW.1, hW.2.1.F ht⟩) hW.2.1.2.2 hdg hk
theorem sc_at {i : Nat} (hi : i < nS) {k : Nat} (hk : k < lenS i) : (((bytS i).getD k 0 &&& 255).toUInt32 % 65536).toInt32 = (bytS i).getD k 0 := by
  obtain ⟨-, h⟩ := sc_all i hi
  have e : (bytS i).getD k 0 = (bytS i)[k]'hk := by rw [List.getD_eq_getElem?_getD, List.getElem?_eq_getElem hk]; rfl
  rw [e]
  exact (h _ (List.getElem_mem _)).1
set_option maxHeartbeats 4000000 in
set_option maxRecDepth 100000 in
theorem c_J0_coder {l : Launch} {D : va_G} {tc : Nat → ClassId} {ro : Ro} {fa : Fa} {fe : Fe} {μ : Mm} {i : Nat} (hi : i < nS) : Ct l D tc ro fa fe yJ0_coder_7d493 cJ0_coder_7d493 1 (some .byte) (rmq 0 0) [.ref (ro.1 i)] μ (some (.int 0)) μ := by
  refine Ct.of (by decide) (Nat.le_of_ble_eq_true rfl) (fun p e s m args below meth c A C hr hk hW ls hl => ?_)
  have hx := C.1.1
  have hb := C.1.2.1
  have hro := C.2.2
  have hl : lv_has ls 1 [(0, .ref (ro.1 i))] := hl
  refine va_gets hx hb hro.1.2.1 hW.2.1 C.1.2.2.2.1 (C.1.2.2.2.2 _ kw_752) (fun _ h9 => h9) dJ0_coder_7d493_0 ?_
  refine lv_if_eq (tgt := 13) hx hb dJ0_coder_7d493_3 (by decide) (fun c1 => absurd c1 (by decide)) (fun c1 => ?_)
  refine lv_aload_n hx hb dJ0_coder_7d493_6 rfl (lv_at hl 0 rfl) ?_
  refine vk_getf hx hb ((hro.1.1 i hi).1 0 (by decide)).2.1 hW.2.1 C.1.2.2.2.1 (C.1.2.2.2.2 _ kw_890) (fun _ h9 => h9) dJ0_coder_7d493_7 ?_
  refine lv_goto (tgt := 14) hx hb dJ0_coder_7d493_10 (by decide) ?_
  exact r_nret C hr hk hW rfl rfl rfl dJ0_coder_7d493_14
set_option maxHeartbeats 4000000 in
set_option maxRecDepth 100000 in
theorem c_J0_isLatin1 {l : Launch} {D : va_G} {tc : Nat → ClassId} {ro : Ro} {fa : Fa} {fe : Fe} {μ : Mm} {i : Nat} (hi : i < nS) : Ct l D tc ro fa fe yJ0_isLatin1_aae02 cJ0_isLatin1_aae02 1 (some .boolean) (rmq 0 0) [.ref (ro.1 i)] μ (some (.int 1)) μ := by
  refine Ct.of (by decide) (Nat.le_of_ble_eq_true rfl) (fun p e s m args below meth c A C hr hk hW ls hl => ?_)
  have hx := C.1.1
  have hb := C.1.2.1
  have hro := C.2.2
  have hl : lv_has ls 1 [(0, .ref (ro.1 i))] := hl
  refine va_gets hx hb hro.1.2.1 hW.2.1 C.1.2.2.2.1 (C.1.2.2.2.2 _ kw_752) (fun _ h9 => h9) dJ0_isLatin1_aae02_0 ?_
  refine lv_if_eq (tgt := 17) hx hb dJ0_isLatin1_aae02_3 (by decide) (fun c1 => absurd c1 (by decide)) (fun c1 => ?_)
  refine lv_aload_n hx hb dJ0_isLatin1_aae02_6 rfl (lv_at hl 0 rfl) ?_
  refine vk_getf hx hb ((hro.1.1 i hi).1 0 (by decide)).2.1 hW.2.1 C.1.2.2.2.1 (C.1.2.2.2.2 _ kw_890) (fun _ h9 => h9) dJ0_isLatin1_aae02_7 ?_
  refine lv_if_ne (tgt := 17) hx hb dJ0_isLatin1_aae02_10 (by decide) (fun c1 => absurd rfl c1) (fun c1 => ?_)
  refine lv_iconst (v := 1) hx hb dJ0_isLatin1_aae02_13 (by decide) ?_
  refine lv_goto (tgt := 18) hx hb dJ0_isLatin1_aae02_14 (by decide) ?_
  exact r_nret C hr hk hW rfl rfl rfl dJ0_isLatin1_aae02_18
set_option maxHeartbeats 4000000 in
set_option maxRecDepth 100000 in
theorem c_J0_length {l : Launch} {D : va_G} {tc : Nat → ClassId} {ro : Ro} {fa : Fa} {fe : Fe} {μ : Mm} {i : Nat} (hi : i < nS) : Ct l D tc ro fa fe yJ0_length_8abf5 cJ0_length_8abf5 1 (some .int) (rmq 1 20) [.ref (ro.1 i)] μ (some (.int (nI (lenS i)))) μ := by
  refine Ct.of (by decide) (Nat.le_of_ble_eq_true rfl) (fun p e s m args below meth c A C hr hk hW ls hl => ?_)
  have hx := C.1.1
  have hb := C.1.2.1
  have hro := C.2.2
  have hl : lv_has ls 1 [(0, .ref (ro.1 i))] := hl
  refine lv_aload_n hx hb dJ0_length_8abf5_0 rfl (lv_at hl 0 rfl) ?_
  refine vk_getf hx hb ((hro.1.1 i hi).1 0 (by decide)).2.2.1 hW.2.1 C.1.2.2.2.1 (C.1.2.2.2.2 _ kw_889) (fun _ h9 => h9) dJ0_length_8abf5_1 ?_
  refine va_tlen (v := nI (lenS i)) hx hb ((hro.1.1 i hi).1 0 (by decide)).2.2.2 hW.2.1 rfl dJ0_length_8abf5_4 ?_
  refine lv_aload_n hx hb dJ0_length_8abf5_5 rfl (lv_at hl 0 rfl) ?_
  refine r_callVx C hW hl lk_J0_335 (c_J0_coder hi) ⟨rfl, rfl⟩ ⟨Nat.le_of_ble_eq_true rfl, Nat.le_of_ble_eq_true rfl⟩ (vk_recv (i := 0) (hro.1.1 i hi) (by decide) hW.2.1) (As := []) (rest := [.int (nI (lenS i))]) rfl rfl (Nat.le_of_ble_eq_true rfl) dJ0_length_8abf5_6 ⟨Nat.zero_le _, Nat.zero_le _⟩ (fun H locs hW => ?_)
  show W p l e (rmq 1 20) s m args below meth c H locs 0 0 _ (F0 m 9 ls [.int 0, .int (nI (lenS i))])
  refine lv_ishr hx hb dJ0_length_8abf5_9 ?_
  exact r_iret C hr hk hW (by rw [show nI (lenS i) >>> ((0 : Int32) &&& 31) = nI (lenS i) from by rw [show (0 : Int32) &&& 31 = 0 from by decide]; exact Int32.shiftRight_zero]) rfl dJ0_length_8abf5_10
set_option maxHeartbeats 4000000 in
set_option maxRecDepth 100000 in
theorem c_J3_checkIndex {l : Launch} {D : va_G} {tc : Nat → ClassId} {ro : Ro} {fa : Fa} {fe : Fe} {μ : Mm} {k n : Int32} (h1 : ¬ k < 0) (h2 : k < n) {v : Value} (hv : v = .null ∨ ∃ a, v = .ref a) : Ct l D tc ro fa fe yJ3_checkIndex_8e157 cJ3_checkIndex_8e157 3 (some .int) (rmq 0 0) [.int k, .int n, v] μ (some (.int k)) μ := by
  refine Ct.of (by decide) (by rcases hv with rfl | ⟨a, rfl⟩ <;> exact Nat.le_of_ble_eq_true rfl) (fun p e s m args below meth c A C hr hk hW ls hl => ?_)
  have hx := C.1.1
  have hb := C.1.2.1
  have hro := C.2.2
  have hl : lv_has ls 3 [(0, .int k), (1, .int n)] := by rcases hv with rfl | ⟨a, rfl⟩ <;> exact lv_sub hl [0, 1] rfl
  refine lv_iload_n hx hb dJ3_checkIndex_8e157_0 rfl (lv_at hl 0 rfl) ?_
  refine lv_if_lt (tgt := 9) hx hb dJ3_checkIndex_8e157_1 (by decide) (fun c1 => absurd c1 h1) (fun c1 => ?_)
  refine lv_iload_n hx hb dJ3_checkIndex_8e157_4 rfl (lv_at hl 0 rfl) ?_
  refine lv_iload_n hx hb dJ3_checkIndex_8e157_5 rfl (lv_at hl 1 rfl) ?_
  refine lv_icmp_lt (tgt := 16) hx hb dJ3_checkIndex_8e157_6 (by decide) (fun c2 => ?_) (fun c2 => absurd h2 c2)
  refine lv_iload_n hx hb dJ3_checkIndex_8e157_16 rfl (lv_at hl 0 rfl) ?_
  exact r_iret C hr hk hW rfl rfl dJ3_checkIndex_8e157_17
set_option maxHeartbeats 4000000 in
set_option maxRecDepth 100000 in
theorem c_J0_checkIndex {l : Launch} {D : va_G} {tc : Nat → ClassId} {ro : Ro} {fa : Fa} {fe : Fe} {μ : Mm} {k n : Int32} (h1 : ¬ k < 0) (h2 : k < n) : Ct l D tc ro fa fe yJ0_checkIndex_df160 cJ0_checkIndex_df160 2 none (rmq 1 22) [.int k, .int n] μ none μ := by
  refine Ct.of (by decide) (Nat.le_of_ble_eq_true rfl) (fun p e s m args below meth c A C hr hk hW ls hl => ?_)
  have hx := C.1.1
  have hb := C.1.2.1
  have hro := C.2.2
  have hl : lv_has ls 2 [(0, .int k), (1, .int n)] := hl
  refine lv_iload_n hx hb dJ0_checkIndex_df160_0 rfl (lv_at hl 0 rfl) ?_
  refine lv_iload_n hx hb dJ0_checkIndex_df160_1 rfl (lv_at hl 1 rfl) ?_
  refine va_gets hx hb hro.1.2.2 hW.2.1 C.1.2.2.2.1 (C.1.2.2.2.2 _ kw_730) (fun _ h9 => h9) dJ0_checkIndex_df160_2 ?_
  refine r_callS C hW hl lk_J0_1059 (c_J3_checkIndex h1 h2 hro.2.2.1) ⟨rfl, rfl⟩ ⟨Nat.le_of_ble_eq_true rfl, Nat.le_of_ble_eq_true rfl⟩ (As := [.int k, .int n, ro.2.2]) (rest := []) rfl rfl (Nat.le_of_ble_eq_true rfl) dJ0_checkIndex_df160_5 ⟨Nat.zero_le _, Nat.zero_le _⟩ (fun H locs hW => ?_)
  show W p l e (rmq 1 22) s m args below meth c H locs 0 0 _ (F0 m 8 ls [.int k])
  refine lv_pop hx hb dJ0_checkIndex_df160_8 rfl ?_
  exact r_vret C hr hk hW rfl rfl dJ0_checkIndex_df160_9
set_option maxHeartbeats 4000000 in
set_option maxRecDepth 100000 in
theorem c_J1_charAt {l : Launch} {D : va_G} {tc : Nat → ClassId} {ro : Ro} {fa : Fa} {fe : Fe} {μ : Mm} {i : Nat} (hi : i < nS) {k : Int32} (hk0 : vp_in k (lenS i)) : Ct l D tc ro fa fe yJ1_charAt_3b067 cJ1_charAt_3b067 2 (some .char) (rmq 2 43) [.ref (ro.2.1 i), .int k] μ (some (.int ((bytS i).getD k.toNatClampNeg 0))) μ := by
  refine Ct.of (by decide) (Nat.le_of_ble_eq_true rfl) (fun p e s m args below meth c A C hr hk hW ls hl => ?_)
  have hx := C.1.1
  have hb := C.1.2.1
  have hro := C.2.2
  have hl : lv_has ls 2 [(0, .ref (ro.2.1 i)), (1, .int k)] := hl
  have h16 := (sc_all i hi).1
  obtain ⟨j, hj, rfl⟩ := vp_in_of hk0 (by omega)
  have hcl : (nI j).toNatClampNeg = j := nI_clamp (by omega)
  have ec := sc_at hi hj
  refine lv_iload_n hx hb dJ1_charAt_3b067_0 rfl (lv_at hl 1 rfl) ?_
  refine lv_aload_n hx hb dJ1_charAt_3b067_1 rfl (lv_at hl 0 rfl) ?_
  refine va_tlen (v := nI (lenS i)) hx hb ((hro.1.1 i hi).1 0 (by decide)).2.2.2 hW.2.1 rfl dJ1_charAt_3b067_2 ?_
  refine r_callS C hW hl lk_J1_9 (c_J0_checkIndex (nI_pos (by omega)) (nI_lt hj (by omega))) ⟨rfl, rfl⟩ ⟨Nat.le_of_ble_eq_true rfl, Nat.le_of_ble_eq_true rfl⟩ (As := [.int (nI j), .int (nI (lenS i))]) (rest := []) rfl rfl (Nat.le_of_ble_eq_true rfl) dJ1_charAt_3b067_3 ⟨Nat.zero_le _, Nat.zero_le _⟩ (fun H locs hW => ?_)
  show W p l e (rmq 2 43) s m args below meth c H locs 0 0 _ (F0 m 6 ls [])
  refine lv_aload_n hx hb dJ1_charAt_3b067_6 rfl (lv_at hl 0 rfl) ?_
  refine lv_iload_n hx hb dJ1_charAt_3b067_7 rfl (lv_at hl 1 rfl) ?_
  refine va_tb (v := .int ((bytS i).getD (nI j).toNatClampNeg 0)) hx hb ((hro.1.1 i hi).1 0 (by decide)).2.2.2 hW.2.1 hk0 rfl dJ1_charAt_3b067_8 ?_
  refine lv_sipush (v := 255) hx hb dJ1_charAt_3b067_9 (by decide) ?_
  refine lv_iand hx hb dJ1_charAt_3b067_12 ?_
  refine lv_i2c (v := (bytS i).getD (nI j).toNatClampNeg 0) hx hb dJ1_charAt_3b067_13 (by rw [hcl]; exact ec) ?_
  exact r_nret C hr hk hW (by rw [hcl, ← ec]; exact pk_nc _) rfl rfl dJ1_charAt_3b067_14
set_option maxHeartbeats 4000000 in
set_option maxRecDepth 100000 in
theorem c_J0_charAt {l : Launch} {D : va_G} {tc : Nat → ClassId} {ro : Ro} {fa : Fa} {fe : Fe} {μ : Mm} {i : Nat} (hi : i < nS) {k : Int32} (hk0 : vp_in k (lenS i)) : Ct l D tc ro fa fe yJ0_charAt_5068e cJ0_charAt_5068e 2 (some .char) (rmq 3 64) [.ref (ro.1 i), .int k] μ (some (.int ((bytS i).getD k.toNatClampNeg 0))) μ := by
  refine Ct.of (by decide) (Nat.le_of_ble_eq_true rfl) (fun p e s m args below meth c A C hr hk hW ls hl => ?_)
  have hx := C.1.1
  have hb := C.1.2.1
  have hro := C.2.2
  have hl : lv_has ls 2 [(0, .ref (ro.1 i)), (1, .int k)] := hl
  have h16 := (sc_all i hi).1
  have ec : narrow .char (.int ((bytS i).getD k.toNatClampNeg 0)) = .int ((bytS i).getD k.toNatClampNeg 0) := by
    obtain ⟨j, hj, rfl⟩ := vp_in_of hk0 (by omega)
    rw [nI_clamp (by omega), ← sc_at hi hj]; exact pk_nc _
  refine lv_aload_n hx hb dJ0_charAt_5068e_0 rfl (lv_at hl 0 rfl) ?_
  refine r_callVx C hW hl lk_J0_492 (c_J0_isLatin1 hi) ⟨rfl, rfl⟩ ⟨Nat.le_of_ble_eq_true rfl, Nat.le_of_ble_eq_true rfl⟩ (vk_recv (i := 0) (hro.1.1 i hi) (by decide) hW.2.1) (As := []) (rest := []) rfl rfl (Nat.le_of_ble_eq_true rfl) dJ0_charAt_5068e_1 ⟨Nat.zero_le _, Nat.zero_le _⟩ (fun H locs hW => ?_)
  show W p l e (rmq 3 64) s m args below meth c H locs 0 0 _ (F0 m 4 ls [.int 1])
  refine lv_if_eq (tgt := 16) hx hb dJ0_charAt_5068e_4 (by decide) (fun c1 => absurd c1 (by decide)) (fun c1 => ?_)
  refine lv_aload_n hx hb dJ0_charAt_5068e_7 rfl (lv_at hl 0 rfl) ?_
  refine vk_getf hx hb ((hro.1.1 i hi).1 0 (by decide)).2.2.1 hW.2.1 C.1.2.2.2.1 (C.1.2.2.2.2 _ kw_889) (fun _ h9 => h9) dJ0_charAt_5068e_8 ?_
  refine lv_iload_n hx hb dJ0_charAt_5068e_11 rfl (lv_at hl 1 rfl) ?_
  refine r_callS C hW hl lk_J0_495 (c_J1_charAt hi hk0) ⟨rfl, rfl⟩ ⟨Nat.le_of_ble_eq_true rfl, Nat.le_of_ble_eq_true rfl⟩ (As := [.ref (ro.2.1 i), .int k]) (rest := []) rfl rfl (Nat.le_of_ble_eq_true rfl) dJ0_charAt_5068e_12 ⟨Nat.zero_le _, Nat.zero_le _⟩ (fun H locs hW => ?_)
  show W p l e (rmq 3 64) s m args below meth c H locs 0 0 _ (F0 m 15 ls [.int ((bytS i).getD k.toNatClampNeg 0)])
  exact r_nret C hr hk hW ec rfl rfl dJ0_charAt_5068e_15
