set_option maxHeartbeats 4000000 in
set_option maxRecDepth 100000 in
theorem c_X10_treat {l : Launch} {D : va_G} {tc : Nat → ClassId} {ro : Ro} {oa : Ky → Nat} {aa : Nat → Nat} {sh : Sh} {ln : Nat → Nat} {μ : Mm} {v1 v2 v3 : Int32} {res : Int32 × Mm} (hwf : WfS sh) (hf : f_X10_treat sh ln μ v1 v2 v3 = some res) : Ct l D tc ro (faB oa aa sh) (feB tc oa aa sh ln) yX10_treat cX10_treat 4 (some .int) (rmq 6 144) [.ref (oa (0, 0)), .int v1, .int v2, .int v3] μ (some (.int res.1)) res.2 := by
  refine Ct.of (by decide) (Nat.le_of_ble_eq_true rfl) (fun p e s m args below meth c A C hr hk hW ls hl => ?_)
  have hx := C.1.1
  have hb := C.1.2.1
  obtain ⟨Q, hQ⟩ : ∃ Q, Q = MQ below (Ctq D (faB oa aa sh) (feB tc oa aa sh ln) (some (.int res.1)) res.2 A) args s 0 0 A := ⟨_, rfl⟩
  rw [← hQ]
  have hl : lv_has ls 4 [(0, .ref (oa (0, 0))), (1, .int v1), (2, .int v2), (3, .int v3)] := hl
  unfold f_X10_treat at hf
  refine lv_aload_n hx hb dX10_treat_0 rfl (lv_at hl 0 rfl) ?_
  refine lv_iload_n hx hb dX10_treat_1 rfl (lv_at hl 1 rfl) ?_
  obtain ⟨x2, h2, hf⟩ := bd_of hf
  refine r_callV (k := ((0, 0) : Ky)) C hW hl lk_X10_141 (c_X10_needPerson hwf h2) ⟨rfl, rfl⟩ ⟨Nat.le_of_ble_eq_true rfl, Nat.le_of_ble_eq_true rfl⟩ rfl rfl rfl (As := [.int v1]) (rest := []) rfl rfl (Nat.le_of_ble_eq_true rfl) dX10_treat_2 ⟨Nat.zero_le _, Nat.zero_le _⟩ (fun H locs hW => ?_)
  show W p l e (rmq 6 144) s m args below meth c H locs 0 0 Q (F0 m 5 ls [])
  refine lv_aload_n hx hb dX10_treat_5 rfl (lv_at hl 0 rfl) ?_
  refine lv_iload_n hx hb dX10_treat_6 rfl (lv_at hl 2 rfl) ?_
  obtain ⟨x7, h7, hf⟩ := bd_of hf
  refine r_callV (k := ((0, 0) : Ky)) C hW hl lk_X10_141 (c_X10_needPerson hwf h7) ⟨rfl, rfl⟩ ⟨Nat.le_of_ble_eq_true rfl, Nat.le_of_ble_eq_true rfl⟩ rfl rfl rfl (As := [.int v2]) (rest := []) rfl rfl (Nat.le_of_ble_eq_true rfl) dX10_treat_7 ⟨Nat.zero_le _, Nat.zero_le _⟩ (fun H locs hW => ?_)
  show W p l e (rmq 6 144) s m args below meth c H locs 0 0 Q (F0 m 10 ls [])
  refine lv_aload_n hx hb dX10_treat_10 rfl (lv_at hl 0 rfl) ?_
  refine lv_iload_n hx hb dX10_treat_11 rfl (lv_at hl 1 rfl) ?_
  refine lv_iload_n hx hb dX10_treat_12 rfl (lv_at hl 2 rfl) ?_
  obtain ⟨x13, h13, hf⟩ := bd_of hf
  refine r_callV (k := ((0, 0) : Ky)) C hW hl lk_X10_194 (c_X10_needTwo h13) ⟨rfl, rfl⟩ ⟨Nat.le_of_ble_eq_true rfl, Nat.le_of_ble_eq_true rfl⟩ rfl rfl rfl (As := [.int v1, .int v2]) (rest := []) rfl rfl (Nat.le_of_ble_eq_true rfl) dX10_treat_13 ⟨Nat.zero_le _, Nat.zero_le _⟩ (fun H locs hW => ?_)
  show W p l e (rmq 6 144) s m args below meth c H locs 0 0 Q (F0 m 16 ls [])
  refine lv_aload_n hx hb dX10_treat_16 rfl (lv_at hl 0 rfl) ?_
  refine lv_iload_n hx hb dX10_treat_17 rfl (lv_at hl 1 rfl) ?_
  refine lv_iload_n hx hb dX10_treat_18 rfl (lv_at hl 2 rfl) ?_
  obtain ⟨x19, h19, hf⟩ := bd_of hf
  refine r_callV (k := ((0, 0) : Ky)) C hW hl lk_X10_198 (c_X10_needSight hwf h19) ⟨rfl, rfl⟩ ⟨Nat.le_of_ble_eq_true rfl, Nat.le_of_ble_eq_true rfl⟩ rfl rfl rfl (As := [.int v1, .int v2]) (rest := []) rfl rfl (Nat.le_of_ble_eq_true rfl) dX10_treat_19 ⟨Nat.zero_le _, Nat.zero_le _⟩ (fun H locs hW => ?_)
  show W p l e (rmq 6 144) s m args below meth c H locs 0 0 Q (F0 m 22 ls [])
  refine lv_aload_n hx hb dX10_treat_22 rfl (lv_at hl 0 rfl) ?_
  obtain ⟨x23, h23, hf⟩ := bd_of hf
  refine r_callV (k := ((0, 0) : Ky)) C hW hl lk_X10_208 (c_X10_remember hwf h23) ⟨rfl, rfl⟩ ⟨Nat.le_of_ble_eq_true rfl, Nat.le_of_ble_eq_true rfl⟩ rfl rfl rfl (As := []) (rest := []) rfl rfl (Nat.le_of_ble_eq_true rfl) dX10_treat_23 ⟨Nat.zero_le _, Nat.zero_le _⟩ (fun H locs hW => ?_)
  show W p l e (rmq 6 144) s m args below meth c H locs 0 0 Q (F0 m 26 ls [])
  refine lv_aload_n hx hb dX10_treat_26 rfl (lv_at hl 0 rfl) ?_
  refine gf_X10_28 C hW dX10_treat_27 ?_
  refine lv_aload_n hx hb dX10_treat_30 rfl (lv_at hl 0 rfl) ?_
  refine gf_X10_60 C hW dX10_treat_31 ?_
  obtain ⟨hq1, hf⟩ := ce_of hf
  refine lv_iload_n hx hb dX10_treat_34 rfl (lv_at hl 1 rfl) ?_
  refine lv_iload_n hx hb dX10_treat_35 rfl (lv_at hl 2 rfl) ?_
  refine lv_iload_n hx hb dX10_treat_36 rfl (lv_at hl 3 rfl) ?_
  obtain ⟨x37, h37, hf⟩ := bd_of hf
  refine r_callV (k := ((4, 0) : Ky)) C hW hl lk_X10_211 (c_X0_treatOne hwf hq1 h37) ⟨rfl, rfl⟩ ⟨Nat.le_of_ble_eq_true rfl, Nat.le_of_ble_eq_true rfl⟩ rfl rfl rfl (As := [.ref (oa (13, (x23 (0, 0) 9).toNatClampNeg)), .int v1, .int v2, .int v3]) (rest := []) rfl rfl (Nat.le_of_ble_eq_true rfl) dX10_treat_37 ⟨Nat.zero_le _, Nat.zero_le _⟩ (fun H locs hW => ?_)
  show W p l e (rmq 6 144) s m args below meth c H locs 0 0 Q (F0 m 40 ls [.int x37.1])
  obtain rfl := Option.some.inj hf
  rw [hQ]
  exact r_iret C hr hk hW rfl rfl dX10_treat_40
set_option maxHeartbeats 4000000 in
set_option maxRecDepth 100000 in
theorem c_X10_turn {l : Launch} {D : va_G} {tc : Nat → ClassId} {ro : Ro} {oa : Ky → Nat} {aa : Nat → Nat} {sh : Sh} {ln : Nat → Nat} {μ : Mm} {v1 v2 : Int32} {res : Int32 × Mm} (hwf : WfS sh) (hf : f_X10_turn sh ln μ v1 v2 = some res) : Ct l D tc ro (faB oa aa sh) (feB tc oa aa sh ln) yX10_turn cX10_turn 3 (some .int) (rmq 6 141) [.ref (oa (0, 0)), .int v1, .int v2] μ (some (.int res.1)) res.2 := by
  refine Ct.of (by decide) (Nat.le_of_ble_eq_true rfl) (fun p e s m args below meth c A C hr hk hW ls hl => ?_)
  have hx := C.1.1
  have hb := C.1.2.1
  obtain ⟨Q, hQ⟩ : ∃ Q, Q = MQ below (Ctq D (faB oa aa sh) (feB tc oa aa sh ln) (some (.int res.1)) res.2 A) args s 0 0 A := ⟨_, rfl⟩
  rw [← hQ]
  have hl : lv_has ls 3 [(0, .ref (oa (0, 0))), (1, .int v1), (2, .int v2)] := hl
  unfold f_X10_turn at hf
  refine lv_aload_n hx hb dX10_turn_0 rfl (lv_at hl 0 rfl) ?_
  refine lv_iload_n hx hb dX10_turn_1 rfl (lv_at hl 1 rfl) ?_
  obtain ⟨x2, h2, hf⟩ := bd_of hf
  refine r_callV (k := ((0, 0) : Ky)) C hW hl lk_X10_141 (c_X10_needPerson hwf h2) ⟨rfl, rfl⟩ ⟨Nat.le_of_ble_eq_true rfl, Nat.le_of_ble_eq_true rfl⟩ rfl rfl rfl (As := [.int v1]) (rest := []) rfl rfl (Nat.le_of_ble_eq_true rfl) dX10_turn_2 ⟨Nat.zero_le _, Nat.zero_le _⟩ (fun H locs hW => ?_)
  show W p l e (rmq 6 141) s m args below meth c H locs 0 0 Q (F0 m 5 ls [])
  refine lv_aload_n hx hb dX10_turn_5 rfl (lv_at hl 0 rfl) ?_
  refine lv_iload_n hx hb dX10_turn_6 rfl (lv_at hl 2 rfl) ?_
  obtain ⟨x7, h7, hf⟩ := bd_of hf
  refine r_callV (k := ((0, 0) : Ky)) C hW hl lk_X10_141 (c_X10_needPerson hwf h7) ⟨rfl, rfl⟩ ⟨Nat.le_of_ble_eq_true rfl, Nat.le_of_ble_eq_true rfl⟩ rfl rfl rfl (As := [.int v2]) (rest := []) rfl rfl (Nat.le_of_ble_eq_true rfl) dX10_turn_7 ⟨Nat.zero_le _, Nat.zero_le _⟩ (fun H locs hW => ?_)
  show W p l e (rmq 6 141) s m args below meth c H locs 0 0 Q (F0 m 10 ls [])
  refine lv_aload_n hx hb dX10_turn_10 rfl (lv_at hl 0 rfl) ?_
  obtain ⟨x11, h11, hf⟩ := bd_of hf
  refine r_callV (k := ((0, 0) : Ky)) C hW hl lk_X10_208 (c_X10_remember hwf h11) ⟨rfl, rfl⟩ ⟨Nat.le_of_ble_eq_true rfl, Nat.le_of_ble_eq_true rfl⟩ rfl rfl rfl (As := []) (rest := []) rfl rfl (Nat.le_of_ble_eq_true rfl) dX10_turn_11 ⟨Nat.zero_le _, Nat.zero_le _⟩ (fun H locs hW => ?_)
  show W p l e (rmq 6 141) s m args below meth c H locs 0 0 Q (F0 m 14 ls [])
  refine lv_aload_n hx hb dX10_turn_14 rfl (lv_at hl 0 rfl) ?_
  refine gf_X10_28 C hW dX10_turn_15 ?_
  refine lv_aload_n hx hb dX10_turn_18 rfl (lv_at hl 0 rfl) ?_
  refine gf_X10_60 C hW dX10_turn_19 ?_
  obtain ⟨hq1, hf⟩ := ce_of hf
  refine lv_iload_n hx hb dX10_turn_22 rfl (lv_at hl 1 rfl) ?_
  refine lv_iload_n hx hb dX10_turn_23 rfl (lv_at hl 2 rfl) ?_
  obtain ⟨x24, h24, hf⟩ := bd_of hf
  refine r_callV (k := ((4, 0) : Ky)) C hW hl lk_X10_215 (c_X0_turnTo hwf hq1 h24) ⟨rfl, rfl⟩ ⟨Nat.le_of_ble_eq_true rfl, Nat.le_of_ble_eq_true rfl⟩ rfl rfl rfl (As := [.ref (oa (13, (x11 (0, 0) 9).toNatClampNeg)), .int v1, .int v2]) (rest := []) rfl rfl (Nat.le_of_ble_eq_true rfl) dX10_turn_24 ⟨Nat.zero_le _, Nat.zero_le _⟩ (fun H locs hW => ?_)
  show W p l e (rmq 6 141) s m args below meth c H locs 0 0 Q (F0 m 27 ls [.int x24.1])
  obtain rfl := Option.some.inj hf
  rw [hQ]
  exact r_iret C hr hk hW rfl rfl dX10_turn_27
set_option maxHeartbeats 4000000 in
set_option maxRecDepth 100000 in
theorem c_X10_ask {l : Launch} {D : va_G} {tc : Nat → ClassId} {ro : Ro} {oa : Ky → Nat} {aa : Nat → Nat} {sh : Sh} {ln : Nat → Nat} {μ : Mm} {v1 : Int32} {res : Int32 × Mm} (hwf : WfS sh) (hf : f_X10_ask sh ln μ v1 = some res) : Ct l D tc ro (faB oa aa sh) (feB tc oa aa sh ln) yX10_ask cX10_ask 2 (some .boolean) (rmq 6 139) [.ref (oa (0, 0)), .int v1] μ (some (.int res.1)) res.2 := by
  refine Ct.of (by decide) (Nat.le_of_ble_eq_true rfl) (fun p e s m args below meth c A C hr hk hW ls hl => ?_)
  have hx := C.1.1
  have hb := C.1.2.1
  obtain ⟨Q, hQ⟩ : ∃ Q, Q = MQ below (Ctq D (faB oa aa sh) (feB tc oa aa sh ln) (some (.int res.1)) res.2 A) args s 0 0 A := ⟨_, rfl⟩
  rw [← hQ]
  have hl : lv_has ls 2 [(0, .ref (oa (0, 0))), (1, .int v1)] := hl
  unfold f_X10_ask at hf
  refine lv_aload_n hx hb dX10_ask_0 rfl (lv_at hl 0 rfl) ?_
  refine lv_iload_n hx hb dX10_ask_1 rfl (lv_at hl 1 rfl) ?_
  obtain ⟨x2, h2, hf⟩ := bd_of hf
  refine r_callV (k := ((0, 0) : Ky)) C hW hl lk_X10_141 (c_X10_needPerson hwf h2) ⟨rfl, rfl⟩ ⟨Nat.le_of_ble_eq_true rfl, Nat.le_of_ble_eq_true rfl⟩ rfl rfl rfl (As := [.int v1]) (rest := []) rfl rfl (Nat.le_of_ble_eq_true rfl) dX10_ask_2 ⟨Nat.zero_le _, Nat.zero_le _⟩ (fun H locs hW => ?_)
  show W p l e (rmq 6 139) s m args below meth c H locs 0 0 Q (F0 m 5 ls [])
  refine lv_aload_n hx hb dX10_ask_5 rfl (lv_at hl 0 rfl) ?_
  obtain ⟨x6, h6, hf⟩ := bd_of hf
  refine r_callV (k := ((0, 0) : Ky)) C hW hl lk_X10_208 (c_X10_remember hwf h6) ⟨rfl, rfl⟩ ⟨Nat.le_of_ble_eq_true rfl, Nat.le_of_ble_eq_true rfl⟩ rfl rfl rfl (As := []) (rest := []) rfl rfl (Nat.le_of_ble_eq_true rfl) dX10_ask_6 ⟨Nat.zero_le _, Nat.zero_le _⟩ (fun H locs hW => ?_)
  show W p l e (rmq 6 139) s m args below meth c H locs 0 0 Q (F0 m 9 ls [])
  refine lv_aload_n hx hb dX10_ask_9 rfl (lv_at hl 0 rfl) ?_
  refine gf_X10_28 C hW dX10_ask_10 ?_
  refine lv_aload_n hx hb dX10_ask_13 rfl (lv_at hl 0 rfl) ?_
  refine gf_X10_60 C hW dX10_ask_14 ?_
  obtain ⟨hq1, hf⟩ := ce_of hf
  refine lv_iload_n hx hb dX10_ask_17 rfl (lv_at hl 1 rfl) ?_
  obtain ⟨x18, h18, hf⟩ := bd_of hf
  refine r_callV (k := ((4, 0) : Ky)) C hW hl lk_X10_219 (c_X0_askOne hwf hq1 h18) ⟨rfl, rfl⟩ ⟨Nat.le_of_ble_eq_true rfl, Nat.le_of_ble_eq_true rfl⟩ rfl rfl rfl (As := [.ref (oa (13, (x6 (0, 0) 9).toNatClampNeg)), .int v1]) (rest := []) rfl rfl (Nat.le_of_ble_eq_true rfl) dX10_ask_18 ⟨Nat.zero_le _, Nat.zero_le _⟩ (fun H locs hW => ?_)
  show W p l e (rmq 6 139) s m args below meth c H locs 0 0 Q (F0 m 21 ls [.int x18.1])
  obtain ⟨hz2, hf⟩ := cb_of hf
  obtain rfl := Option.some.inj hf
  rw [hQ]
  exact r_zret C hr hk hW hz2 rfl rfl dX10_ask_21
set_option maxHeartbeats 4000000 in
set_option maxRecDepth 100000 in
theorem c_X10_day {l : Launch} {D : va_G} {tc : Nat → ClassId} {ro : Ro} {oa : Ky → Nat} {aa : Nat → Nat} {sh : Sh} {ln : Nat → Nat} {μ : Mm} {res : Int32 × Mm} (hwf : WfS sh) (hf : f_X10_day sh ln μ = some res) : Ct l D tc ro (faB oa aa sh) (feB tc oa aa sh ln) yX10_day cX10_day 1 (some .int) (rmq 6 139) [.ref (oa (0, 0))] μ (some (.int res.1)) res.2 := by
  refine Ct.of (by decide) (Nat.le_of_ble_eq_true rfl) (fun p e s m args below meth c A C hr hk hW ls hl => ?_)
  have hx := C.1.1
  have hb := C.1.2.1
  obtain ⟨Q, hQ⟩ : ∃ Q, Q = MQ below (Ctq D (faB oa aa sh) (feB tc oa aa sh ln) (some (.int res.1)) res.2 A) args s 0 0 A := ⟨_, rfl⟩
  rw [← hQ]
  have hl : lv_has ls 1 [(0, .ref (oa (0, 0)))] := hl
  unfold f_X10_day at hf
  refine lv_aload_n hx hb dX10_day_0 rfl (lv_at hl 0 rfl) ?_
  obtain ⟨x1, h1, hf⟩ := bd_of hf
  refine r_callV (k := ((0, 0) : Ky)) C hW hl lk_X10_208 (c_X10_remember hwf h1) ⟨rfl, rfl⟩ ⟨Nat.le_of_ble_eq_true rfl, Nat.le_of_ble_eq_true rfl⟩ rfl rfl rfl (As := []) (rest := []) rfl rfl (Nat.le_of_ble_eq_true rfl) dX10_day_1 ⟨Nat.zero_le _, Nat.zero_le _⟩ (fun H locs hW => ?_)
  show W p l e (rmq 6 139) s m args below meth c H locs 0 0 Q (F0 m 4 ls [])
  refine lv_aload_n hx hb dX10_day_4 rfl (lv_at hl 0 rfl) ?_
  refine gf_X10_28 C hW dX10_day_5 ?_
  refine lv_aload_n hx hb dX10_day_8 rfl (lv_at hl 0 rfl) ?_
  refine gf_X10_60 C hW dX10_day_9 ?_
  obtain ⟨hq1, hf⟩ := ce_of hf
  obtain ⟨x12, h12, hf⟩ := bd_of hf
  refine r_callV (k := ((4, 0) : Ky)) C hW hl lk_X10_223 (c_X0_askAll hwf hq1 h12) ⟨rfl, rfl⟩ ⟨Nat.le_of_ble_eq_true rfl, Nat.le_of_ble_eq_true rfl⟩ rfl rfl rfl (As := [.ref (oa (13, (x1 (0, 0) 9).toNatClampNeg))]) (rest := []) rfl rfl (Nat.le_of_ble_eq_true rfl) dX10_day_12 ⟨Nat.zero_le _, Nat.zero_le _⟩ (fun H locs hW => ?_)
  show W p l e (rmq 6 139) s m args below meth c H locs 0 0 Q (F0 m 15 ls [.int x12.1])
  obtain rfl := Option.some.inj hf
  rw [hQ]
  exact r_iret C hr hk hW rfl rfl dX10_day_15
set_option maxHeartbeats 4000000 in
set_option maxRecDepth 100000 in
theorem c_X10_read {l : Launch} {D : va_G} {tc : Nat → ClassId} {ro : Ro} {oa : Ky → Nat} {aa : Nat → Nat} {sh : Sh} {ln : Nat → Nat} {μ : Mm} {v1 : Int32} {res : Int32 × Mm} (hwf : WfS sh) (hf : f_X10_read sh ln μ v1 = some res) : Ct l D tc ro (faB oa aa sh) (feB tc oa aa sh ln) yX10_read cX10_read 2 (some .int) (rmq 5 125) [.ref (oa (0, 0)), .int v1] μ (some (.int res.1)) res.2 := by
  refine Ct.of (by decide) (Nat.le_of_ble_eq_true rfl) (fun p e s m args below meth c A C hr hk hW ls hl => ?_)
  have hx := C.1.1
  have hb := C.1.2.1
  obtain ⟨Q, hQ⟩ : ∃ Q, Q = MQ below (Ctq D (faB oa aa sh) (feB tc oa aa sh ln) (some (.int res.1)) res.2 A) args s 0 0 A := ⟨_, rfl⟩
  rw [← hQ]
  have hl : lv_has ls 2 [(0, .ref (oa (0, 0))), (1, .int v1)] := hl
  unfold f_X10_read at hf
  refine lv_aload_n hx hb dX10_read_0 rfl (lv_at hl 0 rfl) ?_
  refine lv_iload_n hx hb dX10_read_1 rfl (lv_at hl 1 rfl) ?_
  obtain ⟨x2, h2, hf⟩ := bd_of hf
  refine r_callV (k := ((0, 0) : Ky)) C hW hl lk_X10_141 (c_X10_needPerson hwf h2) ⟨rfl, rfl⟩ ⟨Nat.le_of_ble_eq_true rfl, Nat.le_of_ble_eq_true rfl⟩ rfl rfl rfl (As := [.int v1]) (rest := []) rfl rfl (Nat.le_of_ble_eq_true rfl) dX10_read_2 ⟨Nat.zero_le _, Nat.zero_le _⟩ (fun H locs hW => ?_)
  show W p l e (rmq 5 125) s m args below meth c H locs 0 0 Q (F0 m 5 ls [])
  refine lv_aload_n hx hb dX10_read_5 rfl (lv_at hl 0 rfl) ?_
  obtain ⟨x6, h6, hf⟩ := bd_of hf
  refine r_callV (k := ((0, 0) : Ky)) C hW hl lk_X10_208 (c_X10_remember hwf h6) ⟨rfl, rfl⟩ ⟨Nat.le_of_ble_eq_true rfl, Nat.le_of_ble_eq_true rfl⟩ rfl rfl rfl (As := []) (rest := []) rfl rfl (Nat.le_of_ble_eq_true rfl) dX10_read_6 ⟨Nat.zero_le _, Nat.zero_le _⟩ (fun H locs hW => ?_)
  show W p l e (rmq 5 125) s m args below meth c H locs 0 0 Q (F0 m 9 ls [])
  refine lv_aload_n hx hb dX10_read_9 rfl (lv_at hl 0 rfl) ?_
  refine gf_X10_28 C hW dX10_read_10 ?_
  refine lv_aload_n hx hb dX10_read_13 rfl (lv_at hl 0 rfl) ?_
  refine gf_X10_60 C hW dX10_read_14 ?_
  obtain ⟨hq1, hf⟩ := ce_of hf
  refine lv_iload_n hx hb dX10_read_17 rfl (lv_at hl 1 rfl) ?_
  obtain ⟨x18, h18, hf⟩ := bd_of hf
  refine r_callV (k := ((4, 0) : Ky)) C hW hl lk_X10_227 (c_X0_readOut hwf hq1 h18) ⟨rfl, rfl⟩ ⟨Nat.le_of_ble_eq_true rfl, Nat.le_of_ble_eq_true rfl⟩ rfl rfl rfl (As := [.ref (oa (13, (x6 (0, 0) 9).toNatClampNeg)), .int v1]) (rest := []) rfl rfl (Nat.le_of_ble_eq_true rfl) dX10_read_18 ⟨Nat.zero_le _, Nat.zero_le _⟩ (fun H locs hW => ?_)
  show W p l e (rmq 5 125) s m args below meth c H locs 0 0 Q (F0 m 21 ls [.int x18.1])
  obtain rfl := Option.some.inj hf
  rw [hQ]
  exact r_iret C hr hk hW rfl rfl dX10_read_21
set_option maxHeartbeats 4000000 in
set_option maxRecDepth 100000 in
theorem c_X10_needNotice {l : Launch} {D : va_G} {tc : Nat → ClassId} {ro : Ro} {oa : Ky → Nat} {aa : Nat → Nat} {sh : Sh} {ln : Nat → Nat} {μ : Mm} {v1 : Int32} {res : Unit} (hwf : WfS sh) (hf : f_X10_needNotice sh ln μ v1 = some res) : Ct l D tc ro (faB oa aa sh) (feB tc oa aa sh ln) yX10_needNotice cX10_needNotice 2 none (rmq 1 21) [.ref (oa (0, 0)), .int v1] μ none μ := by
  refine Ct.of (by decide) (Nat.le_of_ble_eq_true rfl) (fun p e s m args below meth c A C hr hk hW ls hl => ?_)
  have hx := C.1.1
  have hb := C.1.2.1
  obtain ⟨Q, hQ⟩ : ∃ Q, Q = MQ below (Ctq D (faB oa aa sh) (feB tc oa aa sh ln) none μ A) args s 0 0 A := ⟨_, rfl⟩
  rw [← hQ]
  have hl : lv_has ls 2 [(0, .ref (oa (0, 0))), (1, .int v1)] := hl
  unfold f_X10_needNotice at hf
  refine lv_aload_n hx hb dX10_needNotice_0 rfl (lv_at hl 0 rfl) ?_
  refine gf_X10_60 C hW dX10_needNotice_1 ?_
  obtain ⟨hq1, hf⟩ := ce_of hf
  refine lv_iload_n hx hb dX10_needNotice_4 rfl (lv_at hl 1 rfl) ?_
  obtain ⟨x5, h5, hf⟩ := bd_of hf
  refine r_callV (k := ((13, (μ (0, 0) 9).toNatClampNeg) : Ky)) C hW hl lk_X10_410 (c_X6_hasNotice hwf hq1 h5) ⟨rfl, rfl⟩ ⟨Nat.le_of_ble_eq_true rfl, Nat.le_of_ble_eq_true rfl⟩ rfl (faB_13 hq1) rfl (As := [.int v1]) (rest := []) rfl rfl (Nat.le_of_ble_eq_true rfl) dX10_needNotice_5 ⟨Nat.zero_le _, Nat.zero_le _⟩ (fun H locs hW => ?_)
  show W p l e (rmq 1 21) s m args below meth c H locs 0 0 Q (F0 m 8 ls [.int x5])
  refine lv_if_ne (tgt := 22) hx hb dX10_needNotice_8 (by decide) (fun c2 => ?_) (fun c2 => ?_)
  · have hf := (if_neg c2).symm.trans hf
    obtain rfl := Option.some.inj hf
    rw [hQ]
    exact r_vret C hr hk hW rfl rfl dX10_needNotice_22
  · have hf := (if_pos c2).symm.trans hf
    cases hf
set_option maxHeartbeats 4000000 in
set_option maxRecDepth 100000 in
theorem c_X10_needNumber {l : Launch} {D : va_G} {tc : Nat → ClassId} {ro : Ro} {oa : Ky → Nat} {aa : Nat → Nat} {sh : Sh} {ln : Nat → Nat} {μ : Mm} {v1 v2 v3 : Int32} {res : Unit} (hf : f_X10_needNumber v1 v2 v3 = some res) : Ct l D tc ro (faB oa aa sh) (feB tc oa aa sh ln) yX10_needNumber cX10_needNumber 4 none (rmq 0 0) [.ref (oa (0, 0)), .int v1, .int v2, .int v3] μ none μ := by
  refine Ct.of (by decide) (Nat.le_of_ble_eq_true rfl) (fun p e s m args below meth c A C hr hk hW ls hl => ?_)
  have hx := C.1.1
  have hb := C.1.2.1
  obtain ⟨Q, hQ⟩ : ∃ Q, Q = MQ below (Ctq D (faB oa aa sh) (feB tc oa aa sh ln) none μ A) args s 0 0 A := ⟨_, rfl⟩
  rw [← hQ]
  have hl : lv_has ls 4 [(0, .ref (oa (0, 0))), (1, .int v1), (2, .int v2), (3, .int v3)] := hl
  unfold f_X10_needNumber at hf
  refine lv_iload_n hx hb dX10_needNumber_0 rfl (lv_at hl 1 rfl) ?_
  refine lv_iload_n hx hb dX10_needNumber_1 rfl (lv_at hl 2 rfl) ?_
  refine lv_icmp_lt (tgt := 10) hx hb dX10_needNumber_2 (by decide) (fun c1 => ?_) (fun c1 => ?_)
  · have hf := (if_pos c1).symm.trans hf
    cases hf
  · have hf := (if_neg c1).symm.trans hf
    refine lv_iload_n hx hb dX10_needNumber_5 rfl (lv_at hl 1 rfl) ?_
    refine lv_iload_n hx hb dX10_needNumber_6 rfl (lv_at hl 3 rfl) ?_
    refine lv_icmp_le (tgt := 21) hx hb dX10_needNumber_7 (by decide) (fun c2 => ?_) (fun c2 => ?_)
    · have hf := (if_pos c2).symm.trans hf
      obtain rfl := Option.some.inj hf
      rw [hQ]
      exact r_vret C hr hk hW rfl rfl dX10_needNumber_21
    · have hf := (if_neg c2).symm.trans hf
      cases hf
set_option maxHeartbeats 4000000 in
set_option maxRecDepth 100000 in
theorem c_X10_claim {l : Launch} {D : va_G} {tc : Nat → ClassId} {ro : Ro} {oa : Ky → Nat} {aa : Nat → Nat} {sh : Sh} {ln : Nat → Nat} {μ : Mm} {v1 v2 : Int32} {res : Int32 × Mm} (hwf : WfS sh) (hf : f_X10_claim sh ln μ v1 v2 = some res) : Ct l D tc ro (faB oa aa sh) (feB tc oa aa sh ln) yX10_claim cX10_claim 3 (some .int) (rmq 5 125) [.ref (oa (0, 0)), .int v1, .int v2] μ (some (.int res.1)) res.2 := by
  refine Ct.of (by decide) (Nat.le_of_ble_eq_true rfl) (fun p e s m args below meth c A C hr hk hW ls hl => ?_)
  have hx := C.1.1
  have hb := C.1.2.1
  obtain ⟨Q, hQ⟩ : ∃ Q, Q = MQ below (Ctq D (faB oa aa sh) (feB tc oa aa sh ln) (some (.int res.1)) res.2 A) args s 0 0 A := ⟨_, rfl⟩
  rw [← hQ]
  have hl : lv_has ls 3 [(0, .ref (oa (0, 0))), (1, .int v1), (2, .int v2)] := hl
  unfold f_X10_claim at hf
  refine lv_aload_n hx hb dX10_claim_0 rfl (lv_at hl 0 rfl) ?_
  refine lv_iload_n hx hb dX10_claim_1 rfl (lv_at hl 2 rfl) ?_
  obtain ⟨x2, h2, hf⟩ := bd_of hf
  refine r_callV (k := ((0, 0) : Ky)) C hW hl lk_X10_230 (c_X10_needNotice hwf h2) ⟨rfl, rfl⟩ ⟨Nat.le_of_ble_eq_true rfl, Nat.le_of_ble_eq_true rfl⟩ rfl rfl rfl (As := [.int v2]) (rest := []) rfl rfl (Nat.le_of_ble_eq_true rfl) dX10_claim_2 ⟨Nat.zero_le _, Nat.zero_le _⟩ (fun H locs hW => ?_)
  show W p l e (rmq 5 125) s m args below meth c H locs 0 0 Q (F0 m 5 ls [])
  refine lv_aload_n hx hb dX10_claim_5 rfl (lv_at hl 0 rfl) ?_
  refine lv_iload_n hx hb dX10_claim_6 rfl (lv_at hl 1 rfl) ?_
  refine lv_iconst (v := 0) hx hb dX10_claim_7 (by decide) ?_
  refine lv_bipush (v := 9) hx hb dX10_claim_8 (by decide) ?_
  obtain ⟨x10, h10, hf⟩ := bd_of hf
  refine r_callV (k := ((0, 0) : Ky)) C hW hl lk_X10_233 (c_X10_needNumber h10) ⟨rfl, rfl⟩ ⟨Nat.le_of_ble_eq_true rfl, Nat.le_of_ble_eq_true rfl⟩ rfl rfl rfl (As := [.int v1, .int (0 : Int32), .int (9 : Int32)]) (rest := []) rfl rfl (Nat.le_of_ble_eq_true rfl) dX10_claim_10 ⟨Nat.zero_le _, Nat.zero_le _⟩ (fun H locs hW => ?_)
  show W p l e (rmq 5 125) s m args below meth c H locs 0 0 Q (F0 m 13 ls [])
  refine lv_aload_n hx hb dX10_claim_13 rfl (lv_at hl 0 rfl) ?_
  refine gf_X10_60 C hW dX10_claim_14 ?_
  obtain ⟨hq1, hf⟩ := ce_of hf
  refine lv_aload_n hx hb dX10_claim_17 rfl (lv_at hl 0 rfl) ?_
  refine gf_X10_60 C hW dX10_claim_18 ?_
  obtain ⟨hq2, hf⟩ := ce_of hf
  refine gf_X10_144 C hW hq2 dX10_claim_21 ?_
  refine lv_iload_n hx hb dX10_claim_24 rfl (lv_at hl 2 rfl) ?_
  obtain ⟨x25, h25, hf⟩ := bd_of hf
  refine r_callV (k := ((13, (μ (0, 0) 9).toNatClampNeg) : Ky)) C hW hl lk_X10_237 (c_X6_many hwf hq1 h25) ⟨rfl, rfl⟩ ⟨Nat.le_of_ble_eq_true rfl, Nat.le_of_ble_eq_true rfl⟩ rfl (faB_13 hq1) rfl (As := [.int (μ (13, (μ (0, 0) 9).toNatClampNeg) 3), .int v2]) (rest := []) rfl rfl (Nat.le_of_ble_eq_true rfl) dX10_claim_25 ⟨Nat.zero_le _, Nat.zero_le _⟩ (fun H locs hW => ?_)
  show W p l e (rmq 5 125) s m args below meth c H locs 0 0 Q (F0 m 28 ls [.int x25])
  refine lv_iload_n hx hb dX10_claim_28 rfl (lv_at hl 1 rfl) ?_
  refine lv_icmp_ge (tgt := 42) hx hb dX10_claim_29 (by decide) (fun c3 => ?_) (fun c3 => ?_)
  · have hf := (if_pos c3).symm.trans hf
    refine lv_aload_n hx hb dX10_claim_42 rfl (lv_at hl 0 rfl) ?_
    obtain ⟨x43, h43, hf⟩ := bd_of hf
    refine r_callV (k := ((0, 0) : Ky)) C hW hl lk_X10_208 (c_X10_remember hwf h43) ⟨rfl, rfl⟩ ⟨Nat.le_of_ble_eq_true rfl, Nat.le_of_ble_eq_true rfl⟩ rfl rfl rfl (As := []) (rest := []) rfl rfl (Nat.le_of_ble_eq_true rfl) dX10_claim_43 ⟨Nat.zero_le _, Nat.zero_le _⟩ (fun H locs hW => ?_)
    show W p l e (rmq 5 125) s m args below meth c H locs 0 0 Q (F0 m 46 ls [])
    refine lv_aload_n hx hb dX10_claim_46 rfl (lv_at hl 0 rfl) ?_
    refine gf_X10_28 C hW dX10_claim_47 ?_
    refine lv_aload_n hx hb dX10_claim_50 rfl (lv_at hl 0 rfl) ?_
    refine gf_X10_60 C hW dX10_claim_51 ?_
    obtain ⟨hq4, hf⟩ := ce_of hf
    refine lv_iload_n hx hb dX10_claim_54 rfl (lv_at hl 1 rfl) ?_
    refine lv_iload_n hx hb dX10_claim_55 rfl (lv_at hl 2 rfl) ?_
    obtain ⟨x56, h56, hf⟩ := bd_of hf
    refine r_callV (k := ((4, 0) : Ky)) C hW hl lk_X10_245 (c_X0_claimMany hwf hq4 h56) ⟨rfl, rfl⟩ ⟨Nat.le_of_ble_eq_true rfl, Nat.le_of_ble_eq_true rfl⟩ rfl rfl rfl (As := [.ref (oa (13, (x43 (0, 0) 9).toNatClampNeg)), .int v1, .int v2]) (rest := []) rfl rfl (Nat.le_of_ble_eq_true rfl) dX10_claim_56 ⟨Nat.zero_le _, Nat.zero_le _⟩ (fun H locs hW => ?_)
    show W p l e (rmq 5 125) s m args below meth c H locs 0 0 Q (F0 m 59 ls [.int x56.1])
    obtain rfl := Option.some.inj hf
    rw [hQ]
    exact r_iret C hr hk hW rfl rfl dX10_claim_59
  · have hf := (if_neg c3).symm.trans hf
    cases hf
set_option maxHeartbeats 4000000 in
set_option maxRecDepth 100000 in
theorem c_X10_query {l : Launch} {D : va_G} {tc : Nat → ClassId} {ro : Ro} {oa : Ky → Nat} {aa : Nat → Nat} {sh : Sh} {ln : Nat → Nat} {μ : Mm} {v1 v2 v3 : Int32} {res : Int32 × Mm} (hwf : WfS sh) (hf : f_X10_query sh ln μ v1 v2 v3 = some res) : Ct l D tc ro (faB oa aa sh) (feB tc oa aa sh ln) yX10_query cX10_query 4 (some .int) (rmq 6 146) [.ref (oa (0, 0)), .int v1, .int v2, .int v3] μ (some (.int res.1)) res.2 := by
  refine Ct.of (by decide) (Nat.le_of_ble_eq_true rfl) (fun p e s m args below meth c A C hr hk hW ls hl => ?_)
  have hx := C.1.1
  have hb := C.1.2.1
  obtain ⟨Q, hQ⟩ : ∃ Q, Q = MQ below (Ctq D (faB oa aa sh) (feB tc oa aa sh ln) (some (.int res.1)) res.2 A) args s 0 0 A := ⟨_, rfl⟩
  rw [← hQ]
  have hl : lv_has ls 4 [(0, .ref (oa (0, 0))), (1, .int v1), (2, .int v2), (3, .int v3)] := hl
  unfold f_X10_query at hf
  refine lv_aload_n hx hb dX10_query_0 rfl (lv_at hl 0 rfl) ?_
  refine lv_iload_n hx hb dX10_query_1 rfl (lv_at hl 1 rfl) ?_
  obtain ⟨x2, h2, hf⟩ := bd_of hf
  refine r_callV (k := ((0, 0) : Ky)) C hW hl lk_X10_141 (c_X10_needPerson hwf h2) ⟨rfl, rfl⟩ ⟨Nat.le_of_ble_eq_true rfl, Nat.le_of_ble_eq_true rfl⟩ rfl rfl rfl (As := [.int v1]) (rest := []) rfl rfl (Nat.le_of_ble_eq_true rfl) dX10_query_2 ⟨Nat.zero_le _, Nat.zero_le _⟩ (fun H locs hW => ?_)
  show W p l e (rmq 6 146) s m args below meth c H locs 0 0 Q (F0 m 5 ls [])
  refine lv_aload_n hx hb dX10_query_5 rfl (lv_at hl 0 rfl) ?_
  refine lv_iload_n hx hb dX10_query_6 rfl (lv_at hl 2 rfl) ?_
  obtain ⟨x7, h7, hf⟩ := bd_of hf
  refine r_callV (k := ((0, 0) : Ky)) C hW hl lk_X10_141 (c_X10_needPerson hwf h7) ⟨rfl, rfl⟩ ⟨Nat.le_of_ble_eq_true rfl, Nat.le_of_ble_eq_true rfl⟩ rfl rfl rfl (As := [.int v2]) (rest := []) rfl rfl (Nat.le_of_ble_eq_true rfl) dX10_query_7 ⟨Nat.zero_le _, Nat.zero_le _⟩ (fun H locs hW => ?_)
  show W p l e (rmq 6 146) s m args below meth c H locs 0 0 Q (F0 m 10 ls [])
  refine lv_aload_n hx hb dX10_query_10 rfl (lv_at hl 0 rfl) ?_
  refine lv_iload_n hx hb dX10_query_11 rfl (lv_at hl 3 rfl) ?_
  obtain ⟨x12, h12, hf⟩ := bd_of hf
  refine r_callV (k := ((0, 0) : Ky)) C hW hl lk_X10_230 (c_X10_needNotice hwf h12) ⟨rfl, rfl⟩ ⟨Nat.le_of_ble_eq_true rfl, Nat.le_of_ble_eq_true rfl⟩ rfl rfl rfl (As := [.int v3]) (rest := []) rfl rfl (Nat.le_of_ble_eq_true rfl) dX10_query_12 ⟨Nat.zero_le _, Nat.zero_le _⟩ (fun H locs hW => ?_)
  show W p l e (rmq 6 146) s m args below meth c H locs 0 0 Q (F0 m 15 ls [])
  refine lv_aload_n hx hb dX10_query_15 rfl (lv_at hl 0 rfl) ?_
  obtain ⟨x16, h16, hf⟩ := bd_of hf
  refine r_callV (k := ((0, 0) : Ky)) C hW hl lk_X10_208 (c_X10_remember hwf h16) ⟨rfl, rfl⟩ ⟨Nat.le_of_ble_eq_true rfl, Nat.le_of_ble_eq_true rfl⟩ rfl rfl rfl (As := []) (rest := []) rfl rfl (Nat.le_of_ble_eq_true rfl) dX10_query_16 ⟨Nat.zero_le _, Nat.zero_le _⟩ (fun H locs hW => ?_)
  show W p l e (rmq 6 146) s m args below meth c H locs 0 0 Q (F0 m 19 ls [])
  refine lv_aload_n hx hb dX10_query_19 rfl (lv_at hl 0 rfl) ?_
  refine gf_X10_28 C hW dX10_query_20 ?_
  refine lv_aload_n hx hb dX10_query_23 rfl (lv_at hl 0 rfl) ?_
  refine gf_X10_60 C hW dX10_query_24 ?_
  obtain ⟨hq1, hf⟩ := ce_of hf
  refine lv_iload_n hx hb dX10_query_27 rfl (lv_at hl 1 rfl) ?_
  refine lv_iload_n hx hb dX10_query_28 rfl (lv_at hl 2 rfl) ?_
  refine lv_iload_n hx hb dX10_query_29 rfl (lv_at hl 3 rfl) ?_
  obtain ⟨x30, h30, hf⟩ := bd_of hf
  refine r_callV (k := ((4, 0) : Ky)) C hW hl lk_X10_248 (c_X0_queryOne hwf hq1 h30) ⟨rfl, rfl⟩ ⟨Nat.le_of_ble_eq_true rfl, Nat.le_of_ble_eq_true rfl⟩ rfl rfl rfl (As := [.ref (oa (13, (x16 (0, 0) 9).toNatClampNeg)), .int v1, .int v2, .int v3]) (rest := []) rfl rfl (Nat.le_of_ble_eq_true rfl) dX10_query_30 ⟨Nat.zero_le _, Nat.zero_le _⟩ (fun H locs hW => ?_)
  show W p l e (rmq 6 146) s m args below meth c H locs 0 0 Q (F0 m 33 ls [.int x30.1])
  obtain rfl := Option.some.inj hf
  rw [hQ]
  exact r_iret C hr hk hW rfl rfl dX10_query_33
set_option maxHeartbeats 4000000 in
set_option maxRecDepth 100000 in
theorem c_X10_stroll {l : Launch} {D : va_G} {tc : Nat → ClassId} {ro : Ro} {oa : Ky → Nat} {aa : Nat → Nat} {sh : Sh} {ln : Nat → Nat} {μ : Mm} {v1 : Int32} {res : Int32 × Mm} (hwf : WfS sh) (hf : f_X10_stroll sh ln μ v1 = some res) : Ct l D tc ro (faB oa aa sh) (feB tc oa aa sh ln) yX10_stroll cX10_stroll 2 (some .int) (rmq 7 170) [.ref (oa (0, 0)), .int v1] μ (some (.int res.1)) res.2 := by
  refine Ct.of (by decide) (Nat.le_of_ble_eq_true rfl) (fun p e s m args below meth c A C hr hk hW ls hl => ?_)
  have hx := C.1.1
  have hb := C.1.2.1
  obtain ⟨Q, hQ⟩ : ∃ Q, Q = MQ below (Ctq D (faB oa aa sh) (feB tc oa aa sh ln) (some (.int res.1)) res.2 A) args s 0 0 A := ⟨_, rfl⟩
  rw [← hQ]
  have hl : lv_has ls 2 [(0, .ref (oa (0, 0))), (1, .int v1)] := hl
  unfold f_X10_stroll at hf
  refine lv_aload_n hx hb dX10_stroll_0 rfl (lv_at hl 0 rfl) ?_
  refine lv_iload_n hx hb dX10_stroll_1 rfl (lv_at hl 1 rfl) ?_
  refine lv_iconst (v := 1) hx hb dX10_stroll_2 (by decide) ?_
  refine lv_bipush (v := 30) hx hb dX10_stroll_3 (by decide) ?_
  obtain ⟨x5, h5, hf⟩ := bd_of hf
  refine r_callV (k := ((0, 0) : Ky)) C hW hl lk_X10_233 (c_X10_needNumber h5) ⟨rfl, rfl⟩ ⟨Nat.le_of_ble_eq_true rfl, Nat.le_of_ble_eq_true rfl⟩ rfl rfl rfl (As := [.int v1, .int (1 : Int32), .int (30 : Int32)]) (rest := []) rfl rfl (Nat.le_of_ble_eq_true rfl) dX10_stroll_5 ⟨Nat.zero_le _, Nat.zero_le _⟩ (fun H locs hW => ?_)
  show W p l e (rmq 7 170) s m args below meth c H locs 0 0 Q (F0 m 8 ls [])
  refine lv_aload_n hx hb dX10_stroll_8 rfl (lv_at hl 0 rfl) ?_
  obtain ⟨x9, h9, hf⟩ := bd_of hf
  refine r_callV (k := ((0, 0) : Ky)) C hW hl lk_X10_208 (c_X10_remember hwf h9) ⟨rfl, rfl⟩ ⟨Nat.le_of_ble_eq_true rfl, Nat.le_of_ble_eq_true rfl⟩ rfl rfl rfl (As := []) (rest := []) rfl rfl (Nat.le_of_ble_eq_true rfl) dX10_stroll_9 ⟨Nat.zero_le _, Nat.zero_le _⟩ (fun H locs hW => ?_)
  show W p l e (rmq 7 170) s m args below meth c H locs 0 0 Q (F0 m 12 ls [])
  refine lv_aload_n hx hb dX10_stroll_12 rfl (lv_at hl 0 rfl) ?_
  refine gf_X10_28 C hW dX10_stroll_13 ?_
  refine lv_aload_n hx hb dX10_stroll_16 rfl (lv_at hl 0 rfl) ?_
  refine gf_X10_60 C hW dX10_stroll_17 ?_
  obtain ⟨hq1, hf⟩ := ce_of hf
  refine lv_iload_n hx hb dX10_stroll_20 rfl (lv_at hl 1 rfl) ?_
  obtain ⟨x21, h21, hf⟩ := bd_of hf
  refine r_callV (k := ((4, 0) : Ky)) C hW hl lk_X10_252 (c_X0_strollBy hwf hq1 h21) ⟨rfl, rfl⟩ ⟨Nat.le_of_ble_eq_true rfl, Nat.le_of_ble_eq_true rfl⟩ rfl rfl rfl (As := [.ref (oa (13, (x9 (0, 0) 9).toNatClampNeg)), .int v1]) (rest := []) rfl rfl (Nat.le_of_ble_eq_true rfl) dX10_stroll_21 ⟨Nat.zero_le _, Nat.zero_le _⟩ (fun H locs hW => ?_)
  show W p l e (rmq 7 170) s m args below meth c H locs 0 0 Q (F0 m 24 ls [.int x21.1])
  obtain rfl := Option.some.inj hf
  rw [hQ]
  exact r_iret C hr hk hW rfl rfl dX10_stroll_24
set_option maxHeartbeats 4000000 in
set_option maxRecDepth 100000 in
theorem c_X10_possible {l : Launch} {D : va_G} {tc : Nat → ClassId} {ro : Ro} {oa : Ky → Nat} {aa : Nat → Nat} {sh : Sh} {ln : Nat → Nat} {μ : Mm} {v1 v2 : Int32} {res : Int32} (hwf : WfS sh) (hf : f_X10_possible sh ln μ v1 v2 = some res) : Ct l D tc ro (faB oa aa sh) (feB tc oa aa sh ln) yX10_possible cX10_possible 3 (some .int) (rmq 3 72) [.ref (oa (0, 0)), .int v1, .int v2] μ (some (.int res)) μ := by
  refine Ct.of (by decide) (Nat.le_of_ble_eq_true rfl) (fun p e s m args below meth c A C hr hk hW ls hl => ?_)
  have hx := C.1.1
  have hb := C.1.2.1
  obtain ⟨Q, hQ⟩ : ∃ Q, Q = MQ below (Ctq D (faB oa aa sh) (feB tc oa aa sh ln) (some (.int res)) μ A) args s 0 0 A := ⟨_, rfl⟩
  rw [← hQ]
  have hl : lv_has ls 3 [(0, .ref (oa (0, 0))), (1, .int v1), (2, .int v2)] := hl
  unfold f_X10_possible at hf
  refine lv_aload_n hx hb dX10_possible_0 rfl (lv_at hl 0 rfl) ?_
  refine lv_iload_n hx hb dX10_possible_1 rfl (lv_at hl 1 rfl) ?_
  obtain ⟨x2, h2, hf⟩ := bd_of hf
  refine r_callV (k := ((0, 0) : Ky)) C hW hl lk_X10_141 (c_X10_needPerson hwf h2) ⟨rfl, rfl⟩ ⟨Nat.le_of_ble_eq_true rfl, Nat.le_of_ble_eq_true rfl⟩ rfl rfl rfl (As := [.int v1]) (rest := []) rfl rfl (Nat.le_of_ble_eq_true rfl) dX10_possible_2 ⟨Nat.zero_le _, Nat.zero_le _⟩ (fun H locs hW => ?_)
  show W p l e (rmq 3 72) s m args below meth c H locs 0 0 Q (F0 m 5 ls [])
  refine lv_aload_n hx hb dX10_possible_5 rfl (lv_at hl 0 rfl) ?_
  refine lv_iload_n hx hb dX10_possible_6 rfl (lv_at hl 2 rfl) ?_
  obtain ⟨x7, h7, hf⟩ := bd_of hf
  refine r_callV (k := ((0, 0) : Ky)) C hW hl lk_X10_141 (c_X10_needPerson hwf h7) ⟨rfl, rfl⟩ ⟨Nat.le_of_ble_eq_true rfl, Nat.le_of_ble_eq_true rfl⟩ rfl rfl rfl (As := [.int v2]) (rest := []) rfl rfl (Nat.le_of_ble_eq_true rfl) dX10_possible_7 ⟨Nat.zero_le _, Nat.zero_le _⟩ (fun H locs hW => ?_)
  show W p l e (rmq 3 72) s m args below meth c H locs 0 0 Q (F0 m 10 ls [])
  refine lv_aload_n hx hb dX10_possible_10 rfl (lv_at hl 0 rfl) ?_
  refine gf_X10_19 C hW dX10_possible_11 ?_
  refine lv_aload_n hx hb dX10_possible_14 rfl (lv_at hl 0 rfl) ?_
  refine gf_X10_60 C hW dX10_possible_15 ?_
  obtain ⟨hq1, hf⟩ := ce_of hf
  refine lv_aload_n hx hb dX10_possible_18 rfl (lv_at hl 0 rfl) ?_
  refine gf_X10_60 C hW dX10_possible_19 ?_
  obtain ⟨hq2, hf⟩ := ce_of hf
  refine gf_X10_163 C hW hq2 dX10_possible_22 ?_
  refine lv_iload_n hx hb dX10_possible_25 rfl (lv_at hl 1 rfl) ?_
  refine lv_iload_n hx hb dX10_possible_26 rfl (lv_at hl 2 rfl) ?_
  refine lv_aload_n hx hb dX10_possible_27 rfl (lv_at hl 0 rfl) ?_
  refine gf_X10_60 C hW dX10_possible_28 ?_
  obtain ⟨hq3, hf⟩ := ce_of hf
  refine gf_X10_144 C hW hq3 dX10_possible_31 ?_
  obtain ⟨x34, h34, hf⟩ := bd_of hf
  refine r_callV (k := ((3, 0) : Ky)) C hW hl lk_X10_255 (c_X4_possibleBits hwf hq1 (cex_st hq2 (by decide)) h34) ⟨rfl, rfl⟩ ⟨Nat.le_of_ble_eq_true rfl, Nat.le_of_ble_eq_true rfl⟩ rfl rfl rfl (As := [.ref (oa (13, (μ (0, 0) 9).toNatClampNeg)), .ref (oa (11, 15 + 5 * ((μ (0, 0) 9).toNatClampNeg) + 2)), .int v1, .int v2, .int (μ (13, (μ (0, 0) 9).toNatClampNeg) 3)]) (rest := []) rfl rfl (Nat.le_of_ble_eq_true rfl) dX10_possible_34 ⟨Nat.zero_le _, Nat.zero_le _⟩ (fun H locs hW => ?_)
  show W p l e (rmq 3 72) s m args below meth c H locs 0 0 Q (F0 m 37 ls [.int x34])
  obtain rfl := Option.some.inj hf
  rw [hQ]
  exact r_iret C hr hk hW rfl rfl dX10_possible_37
set_option maxHeartbeats 4000000 in
set_option maxRecDepth 100000 in
theorem c_X10_knows {l : Launch} {D : va_G} {tc : Nat → ClassId} {ro : Ro} {oa : Ky → Nat} {aa : Nat → Nat} {sh : Sh} {ln : Nat → Nat} {μ : Mm} {v1 v2 : Int32} {res : Int32} (hwf : WfS sh) (hf : f_X10_knows sh ln μ v1 v2 = some res) : Ct l D tc ro (faB oa aa sh) (feB tc oa aa sh ln) yX10_knows cX10_knows 3 (some .int) (rmq 3 72) [.ref (oa (0, 0)), .int v1, .int v2] μ (some (.int res)) μ := by
  refine Ct.of (by decide) (Nat.le_of_ble_eq_true rfl) (fun p e s m args below meth c A C hr hk hW ls hl => ?_)
  have hx := C.1.1
  have hb := C.1.2.1
  obtain ⟨Q, hQ⟩ : ∃ Q, Q = MQ below (Ctq D (faB oa aa sh) (feB tc oa aa sh ln) (some (.int res)) μ A) args s 0 0 A := ⟨_, rfl⟩
  rw [← hQ]
  have hl : lv_has ls 3 [(0, .ref (oa (0, 0))), (1, .int v1), (2, .int v2)] := hl
  unfold f_X10_knows at hf
  refine lv_aload_n hx hb dX10_knows_0 rfl (lv_at hl 0 rfl) ?_
  refine lv_iload_n hx hb dX10_knows_1 rfl (lv_at hl 1 rfl) ?_
  obtain ⟨x2, h2, hf⟩ := bd_of hf
  refine r_callV (k := ((0, 0) : Ky)) C hW hl lk_X10_141 (c_X10_needPerson hwf h2) ⟨rfl, rfl⟩ ⟨Nat.le_of_ble_eq_true rfl, Nat.le_of_ble_eq_true rfl⟩ rfl rfl rfl (As := [.int v1]) (rest := []) rfl rfl (Nat.le_of_ble_eq_true rfl) dX10_knows_2 ⟨Nat.zero_le _, Nat.zero_le _⟩ (fun H locs hW => ?_)
  show W p l e (rmq 3 72) s m args below meth c H locs 0 0 Q (F0 m 5 ls [])
  refine lv_aload_n hx hb dX10_knows_5 rfl (lv_at hl 0 rfl) ?_
  refine lv_iload_n hx hb dX10_knows_6 rfl (lv_at hl 2 rfl) ?_
  obtain ⟨x7, h7, hf⟩ := bd_of hf
  refine r_callV (k := ((0, 0) : Ky)) C hW hl lk_X10_141 (c_X10_needPerson hwf h7) ⟨rfl, rfl⟩ ⟨Nat.le_of_ble_eq_true rfl, Nat.le_of_ble_eq_true rfl⟩ rfl rfl rfl (As := [.int v2]) (rest := []) rfl rfl (Nat.le_of_ble_eq_true rfl) dX10_knows_7 ⟨Nat.zero_le _, Nat.zero_le _⟩ (fun H locs hW => ?_)
  show W p l e (rmq 3 72) s m args below meth c H locs 0 0 Q (F0 m 10 ls [])
  refine lv_aload_n hx hb dX10_knows_10 rfl (lv_at hl 0 rfl) ?_
  refine gf_X10_19 C hW dX10_knows_11 ?_
  refine lv_aload_n hx hb dX10_knows_14 rfl (lv_at hl 0 rfl) ?_
  refine gf_X10_19 C hW dX10_knows_15 ?_
  refine lv_aload_n hx hb dX10_knows_18 rfl (lv_at hl 0 rfl) ?_
  refine gf_X10_60 C hW dX10_knows_19 ?_
  obtain ⟨hq1, hf⟩ := ce_of hf
  refine lv_aload_n hx hb dX10_knows_22 rfl (lv_at hl 0 rfl) ?_
  refine gf_X10_60 C hW dX10_knows_23 ?_
  obtain ⟨hq2, hf⟩ := ce_of hf
  refine gf_X10_163 C hW hq2 dX10_knows_26 ?_
  refine lv_iload_n hx hb dX10_knows_29 rfl (lv_at hl 1 rfl) ?_
  refine lv_iload_n hx hb dX10_knows_30 rfl (lv_at hl 2 rfl) ?_
  refine lv_aload_n hx hb dX10_knows_31 rfl (lv_at hl 0 rfl) ?_
  refine gf_X10_60 C hW dX10_knows_32 ?_
  obtain ⟨hq3, hf⟩ := ce_of hf
  refine gf_X10_144 C hW hq3 dX10_knows_35 ?_
  obtain ⟨x38, h38, hf⟩ := bd_of hf
  refine r_callV (k := ((3, 0) : Ky)) C hW hl lk_X10_255 (c_X4_possibleBits hwf hq1 (cex_st hq2 (by decide)) h38) ⟨rfl, rfl⟩ ⟨Nat.le_of_ble_eq_true rfl, Nat.le_of_ble_eq_true rfl⟩ rfl rfl rfl (As := [.ref (oa (13, (μ (0, 0) 9).toNatClampNeg)), .ref (oa (11, 15 + 5 * ((μ (0, 0) 9).toNatClampNeg) + 2)), .int v1, .int v2, .int (μ (13, (μ (0, 0) 9).toNatClampNeg) 3)]) (rest := [.ref (oa (3, 0))]) rfl rfl (Nat.le_of_ble_eq_true rfl) dX10_knows_38 ⟨Nat.zero_le _, Nat.zero_le _⟩ (fun H locs hW => ?_)
  show W p l e (rmq 3 72) s m args below meth c H locs 0 0 Q (F0 m 41 ls [.int x38, .ref (oa (3, 0))])
  obtain ⟨x41, h41, hf⟩ := bd_of hf
  refine r_callV (k := ((3, 0) : Ky)) C hW hl lk_X10_259 (c_X4_onlyOne h41) ⟨rfl, rfl⟩ ⟨Nat.le_of_ble_eq_true rfl, Nat.le_of_ble_eq_true rfl⟩ rfl rfl rfl (As := [.int x38]) (rest := []) rfl rfl (Nat.le_of_ble_eq_true rfl) dX10_knows_41 ⟨Nat.zero_le _, Nat.zero_le _⟩ (fun H locs hW => ?_)
  show W p l e (rmq 3 72) s m args below meth c H locs 0 0 Q (F0 m 44 ls [.int x41])
  obtain rfl := Option.some.inj hf
  rw [hQ]
  exact r_iret C hr hk hW rfl rfl dX10_knows_44
set_option maxHeartbeats 4000000 in
set_option maxRecDepth 100000 in
theorem c_X10_thinks {l : Launch} {D : va_G} {tc : Nat → ClassId} {ro : Ro} {oa : Ky → Nat} {aa : Nat → Nat} {sh : Sh} {ln : Nat → Nat} {μ : Mm} {v1 v2 v3 : Int32} {res : Int32 × Mm} (hwf : WfS sh) (hf : f_X10_thinks sh ln μ v1 v2 v3 = some res) : Ct l D tc ro (faB oa aa sh) (feB tc oa aa sh ln) yX10_thinks cX10_thinks 4 (some .boolean) (rmq 5 118) [.ref (oa (0, 0)), .int v1, .int v2, .int v3] μ (some (.int res.1)) res.2 := by
  refine Ct.of (by decide) (Nat.le_of_ble_eq_true rfl) (fun p e s m args below meth c A C hr hk hW ls hl => ?_)
  have hx := C.1.1
  have hb := C.1.2.1
  obtain ⟨Q, hQ⟩ : ∃ Q, Q = MQ below (Ctq D (faB oa aa sh) (feB tc oa aa sh ln) (some (.int res.1)) res.2 A) args s 0 0 A := ⟨_, rfl⟩
  rw [← hQ]
  have hl : lv_has ls 4 [(0, .ref (oa (0, 0))), (1, .int v1), (2, .int v2), (3, .int v3)] := hl
  unfold f_X10_thinks at hf
  refine lv_aload_n hx hb dX10_thinks_0 rfl (lv_at hl 0 rfl) ?_
  refine lv_iload_n hx hb dX10_thinks_1 rfl (lv_at hl 1 rfl) ?_
  obtain ⟨x2, h2, hf⟩ := bd_of hf
  refine r_callV (k := ((0, 0) : Ky)) C hW hl lk_X10_141 (c_X10_needPerson hwf h2) ⟨rfl, rfl⟩ ⟨Nat.le_of_ble_eq_true rfl, Nat.le_of_ble_eq_true rfl⟩ rfl rfl rfl (As := [.int v1]) (rest := []) rfl rfl (Nat.le_of_ble_eq_true rfl) dX10_thinks_2 ⟨Nat.zero_le _, Nat.zero_le _⟩ (fun H locs hW => ?_)
  show W p l e (rmq 5 118) s m args below meth c H locs 0 0 Q (F0 m 5 ls [])
  refine lv_aload_n hx hb dX10_thinks_5 rfl (lv_at hl 0 rfl) ?_
  refine lv_iload_n hx hb dX10_thinks_6 rfl (lv_at hl 2 rfl) ?_
  obtain ⟨x7, h7, hf⟩ := bd_of hf
  refine r_callV (k := ((0, 0) : Ky)) C hW hl lk_X10_141 (c_X10_needPerson hwf h7) ⟨rfl, rfl⟩ ⟨Nat.le_of_ble_eq_true rfl, Nat.le_of_ble_eq_true rfl⟩ rfl rfl rfl (As := [.int v2]) (rest := []) rfl rfl (Nat.le_of_ble_eq_true rfl) dX10_thinks_7 ⟨Nat.zero_le _, Nat.zero_le _⟩ (fun H locs hW => ?_)
  show W p l e (rmq 5 118) s m args below meth c H locs 0 0 Q (F0 m 10 ls [])
  refine lv_aload_n hx hb dX10_thinks_10 rfl (lv_at hl 0 rfl) ?_
  refine lv_iload_n hx hb dX10_thinks_11 rfl (lv_at hl 3 rfl) ?_
  obtain ⟨x12, h12, hf⟩ := bd_of hf
  refine r_callV (k := ((0, 0) : Ky)) C hW hl lk_X10_141 (c_X10_needPerson hwf h12) ⟨rfl, rfl⟩ ⟨Nat.le_of_ble_eq_true rfl, Nat.le_of_ble_eq_true rfl⟩ rfl rfl rfl (As := [.int v3]) (rest := []) rfl rfl (Nat.le_of_ble_eq_true rfl) dX10_thinks_12 ⟨Nat.zero_le _, Nat.zero_le _⟩ (fun H locs hW => ?_)
  show W p l e (rmq 5 118) s m args below meth c H locs 0 0 Q (F0 m 15 ls [])
  refine lv_aload_n hx hb dX10_thinks_15 rfl (lv_at hl 0 rfl) ?_
  refine gf_X10_19 C hW dX10_thinks_16 ?_
  refine lv_aload_n hx hb dX10_thinks_19 rfl (lv_at hl 0 rfl) ?_
  refine gf_X10_60 C hW dX10_thinks_20 ?_
  obtain ⟨hq1, hf⟩ := ce_of hf
  refine lv_iload_n hx hb dX10_thinks_23 rfl (lv_at hl 1 rfl) ?_
  refine lv_iload_n hx hb dX10_thinks_24 rfl (lv_at hl 2 rfl) ?_
  refine lv_iload_n hx hb dX10_thinks_25 rfl (lv_at hl 3 rfl) ?_
  obtain ⟨x26, h26, hf⟩ := bd_of hf
  refine r_callV (k := ((3, 0) : Ky)) C hW hl lk_X10_262 (c_X4_knowsThat hwf hq1 h26) ⟨rfl, rfl⟩ ⟨Nat.le_of_ble_eq_true rfl, Nat.le_of_ble_eq_true rfl⟩ rfl rfl rfl (As := [.ref (oa (13, (μ (0, 0) 9).toNatClampNeg)), .int v1, .int v2, .int v3]) (rest := []) rfl rfl (Nat.le_of_ble_eq_true rfl) dX10_thinks_26 ⟨Nat.zero_le _, Nat.zero_le _⟩ (fun H locs hW => ?_)
  show W p l e (rmq 5 118) s m args below meth c H locs 0 0 Q (F0 m 29 ls [.int x26.1])
  obtain ⟨hz2, hf⟩ := cb_of hf
  obtain rfl := Option.some.inj hf
  rw [hQ]
  exact r_zret C hr hk hW hz2 rfl rfl dX10_thinks_29
set_option maxHeartbeats 4000000 in
set_option maxRecDepth 100000 in
theorem c_X10_common {l : Launch} {D : va_G} {tc : Nat → ClassId} {ro : Ro} {oa : Ky → Nat} {aa : Nat → Nat} {sh : Sh} {ln : Nat → Nat} {μ : Mm} {v1 : Int32} {res : Int32 × Mm} (hwf : WfS sh) (hf : f_X10_common sh ln μ v1 = some res) : Ct l D tc ro (faB oa aa sh) (feB tc oa aa sh ln) yX10_common cX10_common 2 (some .int) (rmq 5 117) [.ref (oa (0, 0)), .int v1] μ (some (.int res.1)) res.2 := by
  refine Ct.of (by decide) (Nat.le_of_ble_eq_true rfl) (fun p e s m args below meth c A C hr hk hW ls hl => ?_)
  have hx := C.1.1
  have hb := C.1.2.1
  obtain ⟨Q, hQ⟩ : ∃ Q, Q = MQ below (Ctq D (faB oa aa sh) (feB tc oa aa sh ln) (some (.int res.1)) res.2 A) args s 0 0 A := ⟨_, rfl⟩
  rw [← hQ]
  have hl : lv_has ls 2 [(0, .ref (oa (0, 0))), (1, .int v1)] := hl
  unfold f_X10_common at hf
  refine lv_aload_n hx hb dX10_common_0 rfl (lv_at hl 0 rfl) ?_
  refine lv_iload_n hx hb dX10_common_1 rfl (lv_at hl 1 rfl) ?_
  obtain ⟨x2, h2, hf⟩ := bd_of hf
  refine r_callV (k := ((0, 0) : Ky)) C hW hl lk_X10_141 (c_X10_needPerson hwf h2) ⟨rfl, rfl⟩ ⟨Nat.le_of_ble_eq_true rfl, Nat.le_of_ble_eq_true rfl⟩ rfl rfl rfl (As := [.int v1]) (rest := []) rfl rfl (Nat.le_of_ble_eq_true rfl) dX10_common_2 ⟨Nat.zero_le _, Nat.zero_le _⟩ (fun H locs hW => ?_)
  show W p l e (rmq 5 117) s m args below meth c H locs 0 0 Q (F0 m 5 ls [])
  refine lv_aload_n hx hb dX10_common_5 rfl (lv_at hl 0 rfl) ?_
  refine gf_X10_19 C hW dX10_common_6 ?_
  refine lv_aload_n hx hb dX10_common_9 rfl (lv_at hl 0 rfl) ?_
  refine gf_X10_60 C hW dX10_common_10 ?_
  obtain ⟨hq1, hf⟩ := ce_of hf
  refine lv_iload_n hx hb dX10_common_13 rfl (lv_at hl 1 rfl) ?_
  obtain ⟨x14, h14, hf⟩ := bd_of hf
  refine r_callV (k := ((3, 0) : Ky)) C hW hl lk_X10_266 (c_X4_knownByAll hwf hq1 h14) ⟨rfl, rfl⟩ ⟨Nat.le_of_ble_eq_true rfl, Nat.le_of_ble_eq_true rfl⟩ rfl rfl rfl (As := [.ref (oa (13, (μ (0, 0) 9).toNatClampNeg)), .int v1]) (rest := []) rfl rfl (Nat.le_of_ble_eq_true rfl) dX10_common_14 ⟨Nat.zero_le _, Nat.zero_le _⟩ (fun H locs hW => ?_)
  show W p l e (rmq 5 117) s m args below meth c H locs 0 0 Q (F0 m 17 ls [.int x14.1])
  obtain rfl := Option.some.inj hf
  rw [hQ]
  exact r_iret C hr hk hW rfl rfl dX10_common_17
set_option maxHeartbeats 4000000 in
set_option maxRecDepth 100000 in
theorem c_X10_needPersonOrNone {l : Launch} {D : va_G} {tc : Nat → ClassId} {ro : Ro} {oa : Ky → Nat} {aa : Nat → Nat} {sh : Sh} {ln : Nat → Nat} {μ : Mm} {v1 : Int32} {res : Unit} (hwf : WfS sh) (hf : f_X10_needPersonOrNone sh ln μ v1 = some res) : Ct l D tc ro (faB oa aa sh) (feB tc oa aa sh ln) yX10_needPersonOrNone cX10_needPersonOrNone 2 none (rmq 2 42) [.ref (oa (0, 0)), .int v1] μ none μ := by
  refine Ct.of (by decide) (Nat.le_of_ble_eq_true rfl) (fun p e s m args below meth c A C hr hk hW ls hl => ?_)
  have hx := C.1.1
  have hb := C.1.2.1
  obtain ⟨Q, hQ⟩ : ∃ Q, Q = MQ below (Ctq D (faB oa aa sh) (feB tc oa aa sh ln) none μ A) args s 0 0 A := ⟨_, rfl⟩
  rw [← hQ]
  have hl : lv_has ls 2 [(0, .ref (oa (0, 0))), (1, .int v1)] := hl
  unfold f_X10_needPersonOrNone at hf
  refine lv_iload_n hx hb dX10_needPersonOrNone_0 rfl (lv_at hl 1 rfl) ?_
  refine lv_iconst (v := -1) hx hb dX10_needPersonOrNone_1 (by decide) ?_
  refine lv_icmp_eq (tgt := 10) hx hb dX10_needPersonOrNone_2 (by decide) (fun c1 => ?_) (fun c1 => ?_)
  · have hf := (if_pos c1).symm.trans hf
    obtain rfl := Option.some.inj hf
    rw [hQ]
    exact r_vret C hr hk hW rfl rfl dX10_needPersonOrNone_10
  · have hf := (if_neg c1).symm.trans hf
    refine lv_aload_n hx hb dX10_needPersonOrNone_5 rfl (lv_at hl 0 rfl) ?_
    refine lv_iload_n hx hb dX10_needPersonOrNone_6 rfl (lv_at hl 1 rfl) ?_
    obtain ⟨x7, h7, hf⟩ := bd_of hf
    refine r_callV (k := ((0, 0) : Ky)) C hW hl lk_X10_141 (c_X10_needPerson hwf h7) ⟨rfl, rfl⟩ ⟨Nat.le_of_ble_eq_true rfl, Nat.le_of_ble_eq_true rfl⟩ rfl rfl rfl (As := [.int v1]) (rest := []) rfl rfl (Nat.le_of_ble_eq_true rfl) dX10_needPersonOrNone_7 ⟨Nat.zero_le _, Nat.zero_le _⟩ (fun H locs hW => ?_)
    show W p l e (rmq 2 42) s m args below meth c H locs 0 0 Q (F0 m 10 ls [])
    obtain rfl := Option.some.inj hf
    rw [hQ]
    exact r_vret C hr hk hW rfl rfl dX10_needPersonOrNone_10
set_option maxHeartbeats 4000000 in
set_option maxRecDepth 100000 in
theorem c_X10_muddy {l : Launch} {D : va_G} {tc : Nat → ClassId} {ro : Ro} {oa : Ky → Nat} {aa : Nat → Nat} {sh : Sh} {ln : Nat → Nat} {μ : Mm} {v1 : Int32} {res : Int32 × Mm} (hwf : WfS sh) (hf : f_X10_muddy sh ln μ v1 = some res) : Ct l D tc ro (faB oa aa sh) (feB tc oa aa sh ln) yX10_muddy cX10_muddy 2 (some .int) (rmq 6 141) [.ref (oa (0, 0)), .int v1] μ (some (.int res.1)) res.2 := by
  refine Ct.of (by decide) (Nat.le_of_ble_eq_true rfl) (fun p e s m args below meth c A C hr hk hW ls hl => ?_)
  have hx := C.1.1
  have hb := C.1.2.1
  obtain ⟨Q, hQ⟩ : ∃ Q, Q = MQ below (Ctq D (faB oa aa sh) (feB tc oa aa sh ln) (some (.int res.1)) res.2 A) args s 0 0 A := ⟨_, rfl⟩
  rw [← hQ]
  have hl : lv_has ls 2 [(0, .ref (oa (0, 0))), (1, .int v1)] := hl
  unfold f_X10_muddy at hf
  refine lv_aload_n hx hb dX10_muddy_0 rfl (lv_at hl 0 rfl) ?_
  refine lv_iload_n hx hb dX10_muddy_1 rfl (lv_at hl 1 rfl) ?_
  obtain ⟨x2, h2, hf⟩ := bd_of hf
  refine r_callV (k := ((0, 0) : Ky)) C hW hl lk_X10_269 (c_X10_needPersonOrNone hwf h2) ⟨rfl, rfl⟩ ⟨Nat.le_of_ble_eq_true rfl, Nat.le_of_ble_eq_true rfl⟩ rfl rfl rfl (As := [.int v1]) (rest := []) rfl rfl (Nat.le_of_ble_eq_true rfl) dX10_muddy_2 ⟨Nat.zero_le _, Nat.zero_le _⟩ (fun H locs hW => ?_)
  show W p l e (rmq 6 141) s m args below meth c H locs 0 0 Q (F0 m 5 ls [])
  refine lv_aload_n hx hb dX10_muddy_5 rfl (lv_at hl 0 rfl) ?_
  refine gf_X10_19 C hW dX10_muddy_6 ?_
  refine lv_aload_n hx hb dX10_muddy_9 rfl (lv_at hl 0 rfl) ?_
  refine gf_X10_60 C hW dX10_muddy_10 ?_
  obtain ⟨hq1, hf⟩ := ce_of hf
  refine lv_iload_n hx hb dX10_muddy_13 rfl (lv_at hl 1 rfl) ?_
  obtain ⟨x14, h14, hf⟩ := bd_of hf
  refine r_callV (k := ((3, 0) : Ky)) C hW hl lk_X10_272 (c_X4_daysUntilSure hwf hq1 h14) ⟨rfl, rfl⟩ ⟨Nat.le_of_ble_eq_true rfl, Nat.le_of_ble_eq_true rfl⟩ rfl rfl rfl (As := [.ref (oa (13, (μ (0, 0) 9).toNatClampNeg)), .int v1]) (rest := []) rfl rfl (Nat.le_of_ble_eq_true rfl) dX10_muddy_14 ⟨Nat.zero_le _, Nat.zero_le _⟩ (fun H locs hW => ?_)
  show W p l e (rmq 6 141) s m args below meth c H locs 0 0 Q (F0 m 17 ls [.int x14.1])
  obtain rfl := Option.some.inj hf
  rw [hQ]
  exact r_iret C hr hk hW rfl rfl dX10_muddy_17
set_option maxHeartbeats 4000000 in
set_option maxRecDepth 100000 in
theorem c_X10_backs {l : Launch} {D : va_G} {tc : Nat → ClassId} {ro : Ro} {oa : Ky → Nat} {aa : Nat → Nat} {sh : Sh} {ln : Nat → Nat} {μ : Mm} {v1 : Int32} {res : Int32 × Mm} (hwf : WfS sh) (hf : f_X10_backs sh ln μ v1 = some res) : Ct l D tc ro (faB oa aa sh) (feB tc oa aa sh ln) yX10_backs cX10_backs 2 (some .int) (rmq 5 117) [.ref (oa (0, 0)), .int v1] μ (some (.int res.1)) res.2 := by
  refine Ct.of (by decide) (Nat.le_of_ble_eq_true rfl) (fun p e s m args below meth c A C hr hk hW ls hl => ?_)
  have hx := C.1.1
  have hb := C.1.2.1
  obtain ⟨Q, hQ⟩ : ∃ Q, Q = MQ below (Ctq D (faB oa aa sh) (feB tc oa aa sh ln) (some (.int res.1)) res.2 A) args s 0 0 A := ⟨_, rfl⟩
  rw [← hQ]
  have hl : lv_has ls 2 [(0, .ref (oa (0, 0))), (1, .int v1)] := hl
  unfold f_X10_backs at hf
  refine lv_aload_n hx hb dX10_backs_0 rfl (lv_at hl 0 rfl) ?_
  refine lv_iload_n hx hb dX10_backs_1 rfl (lv_at hl 1 rfl) ?_
  obtain ⟨x2, h2, hf⟩ := bd_of hf
  refine r_callV (k := ((0, 0) : Ky)) C hW hl lk_X10_141 (c_X10_needPerson hwf h2) ⟨rfl, rfl⟩ ⟨Nat.le_of_ble_eq_true rfl, Nat.le_of_ble_eq_true rfl⟩ rfl rfl rfl (As := [.int v1]) (rest := []) rfl rfl (Nat.le_of_ble_eq_true rfl) dX10_backs_2 ⟨Nat.zero_le _, Nat.zero_le _⟩ (fun H locs hW => ?_)
  show W p l e (rmq 5 117) s m args below meth c H locs 0 0 Q (F0 m 5 ls [])
  refine lv_aload_n hx hb dX10_backs_5 rfl (lv_at hl 0 rfl) ?_
  refine gf_X10_35 C hW dX10_backs_6 ?_
  refine lv_aload_n hx hb dX10_backs_9 rfl (lv_at hl 0 rfl) ?_
  refine gf_X10_60 C hW dX10_backs_10 ?_
  obtain ⟨hq1, hf⟩ := ce_of hf
  refine lv_iload_n hx hb dX10_backs_13 rfl (lv_at hl 1 rfl) ?_
  obtain ⟨x14, h14, hf⟩ := bd_of hf
  refine r_callV (k := ((5, 0) : Ky)) C hW hl lk_X10_275 (c_X5_fewestBacks hwf hq1 h14) ⟨rfl, rfl⟩ ⟨Nat.le_of_ble_eq_true rfl, Nat.le_of_ble_eq_true rfl⟩ rfl rfl rfl (As := [.ref (oa (13, (μ (0, 0) 9).toNatClampNeg)), .int v1]) (rest := []) rfl rfl (Nat.le_of_ble_eq_true rfl) dX10_backs_14 ⟨Nat.zero_le _, Nat.zero_le _⟩ (fun H locs hW => ?_)
  show W p l e (rmq 5 117) s m args below meth c H locs 0 0 Q (F0 m 17 ls [.int x14.1])
  obtain rfl := Option.some.inj hf
  rw [hQ]
  exact r_iret C hr hk hW rfl rfl dX10_backs_17
set_option maxHeartbeats 4000000 in
set_option maxRecDepth 100000 in
theorem c_X10_gives {l : Launch} {D : va_G} {tc : Nat → ClassId} {ro : Ro} {oa : Ky → Nat} {aa : Nat → Nat} {sh : Sh} {ln : Nat → Nat} {μ : Mm} {v1 : Int32} {res : Int32 × Mm} (hwf : WfS sh) (hf : f_X10_gives sh ln μ v1 = some res) : Ct l D tc ro (faB oa aa sh) (feB tc oa aa sh ln) yX10_gives cX10_gives 2 (some .int) (rmq 7 166) [.ref (oa (0, 0)), .int v1] μ (some (.int res.1)) res.2 := by
  refine Ct.of (by decide) (Nat.le_of_ble_eq_true rfl) (fun p e s m args below meth c A C hr hk hW ls hl => ?_)
  have hx := C.1.1
  have hb := C.1.2.1
  obtain ⟨Q, hQ⟩ : ∃ Q, Q = MQ below (Ctq D (faB oa aa sh) (feB tc oa aa sh ln) (some (.int res.1)) res.2 A) args s 0 0 A := ⟨_, rfl⟩
  rw [← hQ]
  have hl : lv_has ls 2 [(0, .ref (oa (0, 0))), (1, .int v1)] := hl
  unfold f_X10_gives at hf
  refine lv_aload_n hx hb dX10_gives_0 rfl (lv_at hl 0 rfl) ?_
  refine lv_iload_n hx hb dX10_gives_1 rfl (lv_at hl 1 rfl) ?_
  obtain ⟨x2, h2, hf⟩ := bd_of hf
  refine r_callV (k := ((0, 0) : Ky)) C hW hl lk_X10_141 (c_X10_needPerson hwf h2) ⟨rfl, rfl⟩ ⟨Nat.le_of_ble_eq_true rfl, Nat.le_of_ble_eq_true rfl⟩ rfl rfl rfl (As := [.int v1]) (rest := []) rfl rfl (Nat.le_of_ble_eq_true rfl) dX10_gives_2 ⟨Nat.zero_le _, Nat.zero_le _⟩ (fun H locs hW => ?_)
  show W p l e (rmq 7 166) s m args below meth c H locs 0 0 Q (F0 m 5 ls [])
  refine lv_aload_n hx hb dX10_gives_5 rfl (lv_at hl 0 rfl) ?_
  refine gf_X10_19 C hW dX10_gives_6 ?_
  refine lv_aload_n hx hb dX10_gives_9 rfl (lv_at hl 0 rfl) ?_
  refine gf_X10_60 C hW dX10_gives_10 ?_
  obtain ⟨hq1, hf⟩ := ce_of hf
  refine lv_iload_n hx hb dX10_gives_13 rfl (lv_at hl 1 rfl) ?_
  obtain ⟨x14, h14, hf⟩ := bd_of hf
  refine r_callV (k := ((3, 0) : Ky)) C hW hl lk_X10_278 (c_X4_whoGivesAway hwf hq1 h14) ⟨rfl, rfl⟩ ⟨Nat.le_of_ble_eq_true rfl, Nat.le_of_ble_eq_true rfl⟩ rfl rfl rfl (As := [.ref (oa (13, (μ (0, 0) 9).toNatClampNeg)), .int v1]) (rest := []) rfl rfl (Nat.le_of_ble_eq_true rfl) dX10_gives_14 ⟨Nat.zero_le _, Nat.zero_le _⟩ (fun H locs hW => ?_)
  show W p l e (rmq 7 166) s m args below meth c H locs 0 0 Q (F0 m 17 ls [.int x14.1])
  obtain rfl := Option.some.inj hf
  rw [hQ]
  exact r_iret C hr hk hW rfl rfl dX10_gives_17
set_option maxHeartbeats 4000000 in
set_option maxRecDepth 100000 in
theorem c_X10_never {l : Launch} {D : va_G} {tc : Nat → ClassId} {ro : Ro} {oa : Ky → Nat} {aa : Nat → Nat} {sh : Sh} {ln : Nat → Nat} {μ : Mm} {v1 : Int32} {res : Int32 × Mm} (hwf : WfS sh) (hf : f_X10_never sh ln μ v1 = some res) : Ct l D tc ro (faB oa aa sh) (feB tc oa aa sh ln) yX10_never cX10_never 2 (some .int) (rmq 7 166) [.ref (oa (0, 0)), .int v1] μ (some (.int res.1)) res.2 := by
  refine Ct.of (by decide) (Nat.le_of_ble_eq_true rfl) (fun p e s m args below meth c A C hr hk hW ls hl => ?_)
  have hx := C.1.1
  have hb := C.1.2.1
  obtain ⟨Q, hQ⟩ : ∃ Q, Q = MQ below (Ctq D (faB oa aa sh) (feB tc oa aa sh ln) (some (.int res.1)) res.2 A) args s 0 0 A := ⟨_, rfl⟩
  rw [← hQ]
  have hl : lv_has ls 2 [(0, .ref (oa (0, 0))), (1, .int v1)] := hl
  unfold f_X10_never at hf
  refine lv_aload_n hx hb dX10_never_0 rfl (lv_at hl 0 rfl) ?_
  refine lv_iload_n hx hb dX10_never_1 rfl (lv_at hl 1 rfl) ?_
  obtain ⟨x2, h2, hf⟩ := bd_of hf
  refine r_callV (k := ((0, 0) : Ky)) C hW hl lk_X10_141 (c_X10_needPerson hwf h2) ⟨rfl, rfl⟩ ⟨Nat.le_of_ble_eq_true rfl, Nat.le_of_ble_eq_true rfl⟩ rfl rfl rfl (As := [.int v1]) (rest := []) rfl rfl (Nat.le_of_ble_eq_true rfl) dX10_never_2 ⟨Nat.zero_le _, Nat.zero_le _⟩ (fun H locs hW => ?_)
  show W p l e (rmq 7 166) s m args below meth c H locs 0 0 Q (F0 m 5 ls [])
  refine lv_aload_n hx hb dX10_never_5 rfl (lv_at hl 0 rfl) ?_
  refine gf_X10_19 C hW dX10_never_6 ?_
  refine lv_aload_n hx hb dX10_never_9 rfl (lv_at hl 0 rfl) ?_
  refine gf_X10_60 C hW dX10_never_10 ?_
  obtain ⟨hq1, hf⟩ := ce_of hf
  refine lv_iload_n hx hb dX10_never_13 rfl (lv_at hl 1 rfl) ?_
  obtain ⟨x14, h14, hf⟩ := bd_of hf
  refine r_callV (k := ((3, 0) : Ky)) C hW hl lk_X10_281 (c_X4_whoNeverGivesAway hwf hq1 h14) ⟨rfl, rfl⟩ ⟨Nat.le_of_ble_eq_true rfl, Nat.le_of_ble_eq_true rfl⟩ rfl rfl rfl (As := [.ref (oa (13, (μ (0, 0) 9).toNatClampNeg)), .int v1]) (rest := []) rfl rfl (Nat.le_of_ble_eq_true rfl) dX10_never_14 ⟨Nat.zero_le _, Nat.zero_le _⟩ (fun H locs hW => ?_)
  show W p l e (rmq 7 166) s m args below meth c H locs 0 0 Q (F0 m 17 ls [.int x14.1])
  obtain rfl := Option.some.inj hf
  rw [hQ]
  exact r_iret C hr hk hW rfl rfl dX10_never_17
set_option maxHeartbeats 4000000 in
set_option maxRecDepth 100000 in
theorem c_X10_question {l : Launch} {D : va_G} {tc : Nat → ClassId} {ro : Ro} {oa : Ky → Nat} {aa : Nat → Nat} {sh : Sh} {ln : Nat → Nat} {μ : Mm} {v1 : Int32} {res : Int32 × Mm} (hwf : WfS sh) (hf : f_X10_question sh ln μ v1 = some res) : Ct l D tc ro (faB oa aa sh) (feB tc oa aa sh ln) yX10_question cX10_question 2 (some .int) (rmq 7 169) [.ref (oa (0, 0)), .int v1] μ (some (.int res.1)) res.2 := by
  refine Ct.of (by decide) (Nat.le_of_ble_eq_true rfl) (fun p e s m args below meth c A C hr hk hW ls hl => ?_)
  have hx := C.1.1
  have hb := C.1.2.1
  obtain ⟨Q, hQ⟩ : ∃ Q, Q = MQ below (Ctq D (faB oa aa sh) (feB tc oa aa sh ln) (some (.int res.1)) res.2 A) args s 0 0 A := ⟨_, rfl⟩
  rw [← hQ]
  have hl : lv_has ls 2 [(0, .ref (oa (0, 0))), (1, .int v1)] := hl
  unfold f_X10_question at hf
  refine lv_aload_n hx hb dX10_question_0 rfl (lv_at hl 0 rfl) ?_
  refine lv_iload_n hx hb dX10_question_1 rfl (lv_at hl 1 rfl) ?_
  obtain ⟨x2, h2, hf⟩ := bd_of hf
  refine r_callV (k := ((0, 0) : Ky)) C hW hl lk_X10_141 (c_X10_needPerson hwf h2) ⟨rfl, rfl⟩ ⟨Nat.le_of_ble_eq_true rfl, Nat.le_of_ble_eq_true rfl⟩ rfl rfl rfl (As := [.int v1]) (rest := []) rfl rfl (Nat.le_of_ble_eq_true rfl) dX10_question_2 ⟨Nat.zero_le _, Nat.zero_le _⟩ (fun H locs hW => ?_)
  show W p l e (rmq 7 169) s m args below meth c H locs 0 0 Q (F0 m 5 ls [])
  refine lv_aload_n hx hb dX10_question_5 rfl (lv_at hl 0 rfl) ?_
  refine gf_X10_35 C hW dX10_question_6 ?_
  refine lv_aload_n hx hb dX10_question_9 rfl (lv_at hl 0 rfl) ?_
  refine gf_X10_60 C hW dX10_question_10 ?_
  obtain ⟨hq1, hf⟩ := ce_of hf
  refine lv_iload_n hx hb dX10_question_13 rfl (lv_at hl 1 rfl) ?_
  obtain ⟨x14, h14, hf⟩ := bd_of hf
  refine r_callV (k := ((5, 0) : Ky)) C hW hl lk_X10_284 (c_X5_firstQuestion hwf hq1 h14) ⟨rfl, rfl⟩ ⟨Nat.le_of_ble_eq_true rfl, Nat.le_of_ble_eq_true rfl⟩ rfl rfl rfl (As := [.ref (oa (13, (μ (0, 0) 9).toNatClampNeg)), .int v1]) (rest := []) rfl rfl (Nat.le_of_ble_eq_true rfl) dX10_question_14 ⟨Nat.zero_le _, Nat.zero_le _⟩ (fun H locs hW => ?_)
  show W p l e (rmq 7 169) s m args below meth c H locs 0 0 Q (F0 m 17 ls [.int x14.1])
  obtain rfl := Option.some.inj hf
  rw [hQ]
  exact r_iret C hr hk hW rfl rfl dX10_question_17
set_option maxHeartbeats 4000000 in
set_option maxRecDepth 100000 in
theorem c_X10_queries {l : Launch} {D : va_G} {tc : Nat → ClassId} {ro : Ro} {oa : Ky → Nat} {aa : Nat → Nat} {sh : Sh} {ln : Nat → Nat} {μ : Mm} {v1 : Int32} {res : Int32 × Mm} (hwf : WfS sh) (hf : f_X10_queries sh ln μ v1 = some res) : Ct l D tc ro (faB oa aa sh) (feB tc oa aa sh ln) yX10_queries cX10_queries 2 (some .int) (rmq 8 194) [.ref (oa (0, 0)), .int v1] μ (some (.int res.1)) res.2 := by
  refine Ct.of (by decide) (Nat.le_of_ble_eq_true rfl) (fun p e s m args below meth c A C hr hk hW ls hl => ?_)
  have hx := C.1.1
  have hb := C.1.2.1
  obtain ⟨Q, hQ⟩ : ∃ Q, Q = MQ below (Ctq D (faB oa aa sh) (feB tc oa aa sh ln) (some (.int res.1)) res.2 A) args s 0 0 A := ⟨_, rfl⟩
  rw [← hQ]
  have hl : lv_has ls 2 [(0, .ref (oa (0, 0))), (1, .int v1)] := hl
  unfold f_X10_queries at hf
  refine lv_aload_n hx hb dX10_queries_0 rfl (lv_at hl 0 rfl) ?_
  refine lv_iload_n hx hb dX10_queries_1 rfl (lv_at hl 1 rfl) ?_
  obtain ⟨x2, h2, hf⟩ := bd_of hf
  refine r_callV (k := ((0, 0) : Ky)) C hW hl lk_X10_141 (c_X10_needPerson hwf h2) ⟨rfl, rfl⟩ ⟨Nat.le_of_ble_eq_true rfl, Nat.le_of_ble_eq_true rfl⟩ rfl rfl rfl (As := [.int v1]) (rest := []) rfl rfl (Nat.le_of_ble_eq_true rfl) dX10_queries_2 ⟨Nat.zero_le _, Nat.zero_le _⟩ (fun H locs hW => ?_)
  show W p l e (rmq 8 194) s m args below meth c H locs 0 0 Q (F0 m 5 ls [])
  refine lv_aload_n hx hb dX10_queries_5 rfl (lv_at hl 0 rfl) ?_
  refine gf_X10_35 C hW dX10_queries_6 ?_
  refine lv_aload_n hx hb dX10_queries_9 rfl (lv_at hl 0 rfl) ?_
  refine gf_X10_60 C hW dX10_queries_10 ?_
  obtain ⟨hq1, hf⟩ := ce_of hf
  refine lv_iload_n hx hb dX10_queries_13 rfl (lv_at hl 1 rfl) ?_
  obtain ⟨x14, h14, hf⟩ := bd_of hf
  refine r_callV (k := ((5, 0) : Ky)) C hW hl lk_X10_287 (c_X5_fewestQueries hwf hq1 h14) ⟨rfl, rfl⟩ ⟨Nat.le_of_ble_eq_true rfl, Nat.le_of_ble_eq_true rfl⟩ rfl rfl rfl (As := [.ref (oa (13, (μ (0, 0) 9).toNatClampNeg)), .int v1]) (rest := []) rfl rfl (Nat.le_of_ble_eq_true rfl) dX10_queries_14 ⟨Nat.zero_le _, Nat.zero_le _⟩ (fun H locs hW => ?_)
  show W p l e (rmq 8 194) s m args below meth c H locs 0 0 Q (F0 m 17 ls [.int x14.1])
  obtain rfl := Option.some.inj hf
  rw [hQ]
  exact r_iret C hr hk hW rfl rfl dX10_queries_17
set_option maxHeartbeats 4000000 in
set_option maxRecDepth 100000 in
theorem c_X10_spill {l : Launch} {D : va_G} {tc : Nat → ClassId} {ro : Ro} {oa : Ky → Nat} {aa : Nat → Nat} {sh : Sh} {ln : Nat → Nat} {μ : Mm} {v1 : Int32} {res : Int32 × Mm} (hwf : WfS sh) (hf : f_X10_spill sh ln μ v1 = some res) : Ct l D tc ro (faB oa aa sh) (feB tc oa aa sh ln) yX10_spill cX10_spill 2 (some .int) (rmq 5 120) [.ref (oa (0, 0)), .int v1] μ (some (.int res.1)) res.2 := by
  refine Ct.of (by decide) (Nat.le_of_ble_eq_true rfl) (fun p e s m args below meth c A C hr hk hW ls hl => ?_)
  have hx := C.1.1
  have hb := C.1.2.1
  obtain ⟨Q, hQ⟩ : ∃ Q, Q = MQ below (Ctq D (faB oa aa sh) (feB tc oa aa sh ln) (some (.int res.1)) res.2 A) args s 0 0 A := ⟨_, rfl⟩
  rw [← hQ]
  have hl : lv_has ls 2 [(0, .ref (oa (0, 0))), (1, .int v1)] := hl
  unfold f_X10_spill at hf
  refine lv_aload_n hx hb dX10_spill_0 rfl (lv_at hl 0 rfl) ?_
  refine lv_iload_n hx hb dX10_spill_1 rfl (lv_at hl 1 rfl) ?_
  obtain ⟨x2, h2, hf⟩ := bd_of hf
  refine r_callV (k := ((0, 0) : Ky)) C hW hl lk_X10_141 (c_X10_needPerson hwf h2) ⟨rfl, rfl⟩ ⟨Nat.le_of_ble_eq_true rfl, Nat.le_of_ble_eq_true rfl⟩ rfl rfl rfl (As := [.int v1]) (rest := []) rfl rfl (Nat.le_of_ble_eq_true rfl) dX10_spill_2 ⟨Nat.zero_le _, Nat.zero_le _⟩ (fun H locs hW => ?_)
  show W p l e (rmq 5 120) s m args below meth c H locs 0 0 Q (F0 m 5 ls [])
  refine lv_aload_n hx hb dX10_spill_5 rfl (lv_at hl 0 rfl) ?_
  refine gf_X10_19 C hW dX10_spill_6 ?_
  refine lv_aload_n hx hb dX10_spill_9 rfl (lv_at hl 0 rfl) ?_
  refine gf_X10_60 C hW dX10_spill_10 ?_
  obtain ⟨hq1, hf⟩ := ce_of hf
  refine lv_iload_n hx hb dX10_spill_13 rfl (lv_at hl 1 rfl) ?_
  obtain ⟨x14, h14, hf⟩ := bd_of hf
  refine r_callV (k := ((3, 0) : Ky)) C hW hl lk_X10_290 (c_X4_spilledBy hwf hq1 h14) ⟨rfl, rfl⟩ ⟨Nat.le_of_ble_eq_true rfl, Nat.le_of_ble_eq_true rfl⟩ rfl rfl rfl (As := [.ref (oa (13, (μ (0, 0) 9).toNatClampNeg)), .int v1]) (rest := []) rfl rfl (Nat.le_of_ble_eq_true rfl) dX10_spill_14 ⟨Nat.zero_le _, Nat.zero_le _⟩ (fun H locs hW => ?_)
  show W p l e (rmq 5 120) s m args below meth c H locs 0 0 Q (F0 m 17 ls [.int x14.1])
  obtain rfl := Option.some.inj hf
  rw [hQ]
  exact r_iret C hr hk hW rfl rfl dX10_spill_17
set_option maxHeartbeats 4000000 in
set_option maxRecDepth 100000 in
theorem c_X10_quiet {l : Launch} {D : va_G} {tc : Nat → ClassId} {ro : Ro} {oa : Ky → Nat} {aa : Nat → Nat} {sh : Sh} {ln : Nat → Nat} {μ : Mm} {res : Int32 × Mm} (hwf : WfS sh) (hf : f_X10_quiet sh ln μ = some res) : Ct l D tc ro (faB oa aa sh) (feB tc oa aa sh ln) yX10_quiet cX10_quiet 3 (some .int) (rmq 5 120) [.ref (oa (0, 0))] μ (some (.int res.1)) res.2 := by
  refine Ct.of (by decide) (Nat.le_of_ble_eq_true rfl) (fun p e s m args below meth c A C hr hk hW ls hl => ?_)
  have hx := C.1.1
  have hb := C.1.2.1
  obtain ⟨Q, hQ⟩ : ∃ Q, Q = MQ below (Ctq D (faB oa aa sh) (feB tc oa aa sh ln) (some (.int res.1)) res.2 A) args s 0 0 A := ⟨_, rfl⟩
  rw [← hQ]
  have hl : lv_has ls 3 [(0, .ref (oa (0, 0)))] := hl
  unfold f_X10_quiet at hf
  refine lv_iconst (v := 0) hx hb dX10_quiet_0 (by decide) ?_
  refine lv_istore_n (lv' := [(1, .int (0 : Int32)), (0, .ref (oa (0, 0)))]) hx hb dX10_quiet_1 rfl hl (by decide) rfl (fun ls hl => ?_)
  refine lv_iconst (v := 0) hx hb dX10_quiet_2 (by decide) ?_
  refine lv_istore_n (lv' := [(2, .int (0 : Int32)), (1, .int (0 : Int32)), (0, .ref (oa (0, 0)))]) hx hb dX10_quiet_3 rfl hl (by decide) rfl (fun ls hl => ?_)
  have L4 : ∀ (μ : Mm) (v1 v2 : Int32) (H : Heap) (locs : List Loc) (ls : Array Slot), Wh (fun z : Mm × Int32 × Int32 => f_X10_quiet_L4 sh ln z.1 z.2.1 z.2.2) (μ, v1, v2) = some res → Wd D (faB oa aa sh) (feB tc oa aa sh ln) A s.heap μ H locs → lv_has ls 3 [(0, .ref (oa (0, 0))), (1, .int v1), (2, .int v2)] → W p l e (rmq 5 120) s m args below meth c H locs 0 0 Q (F0 m 4 ls []) := by
    intro μ v1 v2 H locs ls hf hW hl
    refine Wh_rule hf (fun z : Mm × Int32 × Int32 => ∀ (H : Heap) (locs : List Loc) (ls : Array Slot), Wd D (faB oa aa sh) (feB tc oa aa sh ln) A s.heap z.1 H locs → lv_has ls 3 [(0, .ref (oa (0, 0))), (1, .int z.2.1), (2, .int z.2.2)] → W p l e (rmq 5 120) s m args below meth c H locs 0 0 Q (F0 m 4 ls [])) (fun z o1 hf Kl1 Kr1 => ?_) _ _ _ hW hl
    obtain ⟨μ, v1, v2⟩ := z
    intro H locs ls hW hl
    have hf : f_X10_quiet_L4 sh ln μ v1 v2 = some o1 := hf
    unfold f_X10_quiet_L4 at hf
    have hW : Wd D (faB oa aa sh) (feB tc oa aa sh ln) A s.heap μ H locs := hW
    have hl : lv_has ls 3 [(0, .ref (oa (0, 0))), (1, .int v1), (2, .int v2)] := hl
    refine lv_iload_n hx hb dX10_quiet_4 rfl (lv_at hl 2 rfl) ?_
    refine lv_aload_n hx hb dX10_quiet_5 rfl (lv_at hl 0 rfl) ?_
    refine gf_X10_60 C hW dX10_quiet_6 ?_
    obtain ⟨hq1, hf⟩ := ce_of hf
    refine gf_X10_293 C hW hq1 dX10_quiet_9 ?_
    refine lv_icmp_ge (tgt := 42) hx hb dX10_quiet_12 (by decide) (fun c2 => ?_) (fun c2 => ?_)
    · have hf := (if_pos c2).symm.trans hf
      obtain ⟨x9003, hf, hx9003⟩ := map_of hf
      have e9003 := (Kr1 _ hx9003.symm).symm
      subst e9003
      refine lv_iload_n hx hb dX10_quiet_42 rfl (lv_at hl 1 rfl) ?_
      obtain rfl := Option.some.inj hf
      rw [hQ]
      exact r_iret C hr hk hW rfl rfl dX10_quiet_43
    · have hf := (if_neg c2).symm.trans hf
      refine lv_aload_n hx hb dX10_quiet_15 rfl (lv_at hl 0 rfl) ?_
      refine gf_X10_19 C hW dX10_quiet_16 ?_
      refine lv_aload_n hx hb dX10_quiet_19 rfl (lv_at hl 0 rfl) ?_
      refine gf_X10_60 C hW dX10_quiet_20 ?_
      obtain ⟨hq4, hf⟩ := ce_of hf
      refine lv_iload_n hx hb dX10_quiet_23 rfl (lv_at hl 2 rfl) ?_
      obtain ⟨x24, h24, hf⟩ := bd_of hf
      refine r_callV (k := ((3, 0) : Ky)) C hW hl lk_X10_290 (c_X4_spilledBy hwf hq4 h24) ⟨rfl, rfl⟩ ⟨Nat.le_of_ble_eq_true rfl, Nat.le_of_ble_eq_true rfl⟩ rfl rfl rfl (As := [.ref (oa (13, (μ (0, 0) 9).toNatClampNeg)), .int v2]) (rest := []) rfl rfl (Nat.le_of_ble_eq_true rfl) dX10_quiet_24 ⟨Nat.zero_le _, Nat.zero_le _⟩ (fun H locs hW => ?_)
      show W p l e (rmq 5 120) s m args below meth c H locs 0 0 Q (F0 m 27 ls [.int x24.1])
      refine lv_if_ne (tgt := 36) hx hb dX10_quiet_27 (by decide) (fun c5 => ?_) (fun c5 => ?_)
      · have hf := (if_neg c5).symm.trans hf
        refine lv_iinc (v := (v2 + (1 : Int32))) (lv' := [(2, .int (v2 + (1 : Int32))), (0, .ref (oa (0, 0))), (1, .int v1)]) hx hb dX10_quiet_36 hl (k := 2) rfl rfl (by decide) rfl (fun ls hl => ?_)
        refine lv_goto (tgt := 4) hx hb dX10_quiet_39 (by decide) ?_
        obtain rfl := Option.some.inj hf
        exact Kl1 _ rfl _ _ _ hW (lv_sub hl [1, 2, 0] rfl)
      · have hf := (if_pos c5).symm.trans hf
        refine lv_iload_n hx hb dX10_quiet_30 rfl (lv_at hl 1 rfl) ?_
        refine lv_iconst (v := 1) hx hb dX10_quiet_31 (by decide) ?_
        refine lv_iload_n hx hb dX10_quiet_32 rfl (lv_at hl 2 rfl) ?_
        refine lv_ishl hx hb dX10_quiet_33 ?_
        refine lv_ior hx hb dX10_quiet_34 ?_
        refine lv_istore_n (lv' := [(1, .int (v1 ||| ((1 : Int32) <<< (v2 &&& 31)))), (0, .ref (oa (0, 0))), (2, .int v2)]) hx hb dX10_quiet_35 rfl hl (by decide) rfl (fun ls hl => ?_)
        refine lv_iinc (v := (v2 + (1 : Int32))) (lv' := [(2, .int (v2 + (1 : Int32))), (1, .int (v1 ||| ((1 : Int32) <<< (v2 &&& 31)))), (0, .ref (oa (0, 0)))]) hx hb dX10_quiet_36 hl (k := 2) rfl rfl (by decide) rfl (fun ls hl => ?_)
        refine lv_goto (tgt := 4) hx hb dX10_quiet_39 (by decide) ?_
        obtain rfl := Option.some.inj hf
        exact Kl1 _ rfl _ _ _ hW (lv_sub hl [2, 1, 0] rfl)
  exact L4 μ (0 : Int32) (0 : Int32) _ _ _ hf hW (lv_sub hl [2, 1, 0] rfl)
set_option maxHeartbeats 4000000 in
set_option maxRecDepth 100000 in
theorem c_X10_game {l : Launch} {D : va_G} {tc : Nat → ClassId} {ro : Ro} {oa : Ky → Nat} {aa : Nat → Nat} {sh : Sh} {ln : Nat → Nat} {μ : Mm} {v1 v2 : Int32} {res : Int32 × Mm} (hwf : WfS sh) (hf : f_X10_game sh ln μ v1 v2 = some res) : Ct l D tc ro (faB oa aa sh) (feB tc oa aa sh ln) yX10_game cX10_game 3 (some .int) (rmq 5 118) [.ref (oa (0, 0)), .int v1, .int v2] μ (some (.int res.1)) res.2 := by
  refine Ct.of (by decide) (Nat.le_of_ble_eq_true rfl) (fun p e s m args below meth c A C hr hk hW ls hl => ?_)
  have hx := C.1.1
  have hb := C.1.2.1
  obtain ⟨Q, hQ⟩ : ∃ Q, Q = MQ below (Ctq D (faB oa aa sh) (feB tc oa aa sh ln) (some (.int res.1)) res.2 A) args s 0 0 A := ⟨_, rfl⟩
  rw [← hQ]
  have hl : lv_has ls 3 [(0, .ref (oa (0, 0))), (1, .int v1), (2, .int v2)] := hl
  unfold f_X10_game at hf
  refine lv_aload_n hx hb dX10_game_0 rfl (lv_at hl 0 rfl) ?_
  refine lv_iload_n hx hb dX10_game_1 rfl (lv_at hl 1 rfl) ?_
  obtain ⟨x2, h2, hf⟩ := bd_of hf
  refine r_callV (k := ((0, 0) : Ky)) C hW hl lk_X10_141 (c_X10_needPerson hwf h2) ⟨rfl, rfl⟩ ⟨Nat.le_of_ble_eq_true rfl, Nat.le_of_ble_eq_true rfl⟩ rfl rfl rfl (As := [.int v1]) (rest := []) rfl rfl (Nat.le_of_ble_eq_true rfl) dX10_game_2 ⟨Nat.zero_le _, Nat.zero_le _⟩ (fun H locs hW => ?_)
  show W p l e (rmq 5 118) s m args below meth c H locs 0 0 Q (F0 m 5 ls [])
  refine lv_aload_n hx hb dX10_game_5 rfl (lv_at hl 0 rfl) ?_
  refine gf_X10_35 C hW dX10_game_6 ?_
  refine lv_aload_n hx hb dX10_game_9 rfl (lv_at hl 0 rfl) ?_
  refine gf_X10_60 C hW dX10_game_10 ?_
  obtain ⟨hq1, hf⟩ := ce_of hf
  refine lv_iload_n hx hb dX10_game_13 rfl (lv_at hl 1 rfl) ?_
  refine lv_iload_n hx hb dX10_game_14 rfl (lv_at hl 2 rfl) ?_
  obtain ⟨x15, h15, hf⟩ := bd_of hf
  refine r_callV (k := ((5, 0) : Ky)) C hW hl lk_X10_296 (c_X5_playGame hwf hq1 h15) ⟨rfl, rfl⟩ ⟨Nat.le_of_ble_eq_true rfl, Nat.le_of_ble_eq_true rfl⟩ rfl rfl rfl (As := [.ref (oa (13, (μ (0, 0) 9).toNatClampNeg)), .int v1, .int v2]) (rest := []) rfl rfl (Nat.le_of_ble_eq_true rfl) dX10_game_15 ⟨Nat.zero_le _, Nat.zero_le _⟩ (fun H locs hW => ?_)
  show W p l e (rmq 5 118) s m args below meth c H locs 0 0 Q (F0 m 18 ls [.int x15.1])
  obtain rfl := Option.some.inj hf
  rw [hQ]
  exact r_iret C hr hk hW rfl rfl dX10_game_18
set_option maxHeartbeats 4000000 in
set_option maxRecDepth 100000 in
theorem c_X10_steps {l : Launch} {D : va_G} {tc : Nat → ClassId} {ro : Ro} {oa : Ky → Nat} {aa : Nat → Nat} {sh : Sh} {ln : Nat → Nat} {μ : Mm} {v1 v2 : Int32} {res : Int32} (hwf : WfS sh) (hf : f_X10_steps sh ln μ v1 v2 = some res) : Ct l D tc ro (faB oa aa sh) (feB tc oa aa sh ln) yX10_steps cX10_steps 3 (some .int) (rmq 2 48) [.ref (oa (0, 0)), .int v1, .int v2] μ (some (.int res)) μ := by
  refine Ct.of (by decide) (Nat.le_of_ble_eq_true rfl) (fun p e s m args below meth c A C hr hk hW ls hl => ?_)
  have hx := C.1.1
  have hb := C.1.2.1
  obtain ⟨Q, hQ⟩ : ∃ Q, Q = MQ below (Ctq D (faB oa aa sh) (feB tc oa aa sh ln) (some (.int res)) μ A) args s 0 0 A := ⟨_, rfl⟩
  rw [← hQ]
  have hl : lv_has ls 3 [(0, .ref (oa (0, 0))), (1, .int v1), (2, .int v2)] := hl
  unfold f_X10_steps at hf
  refine lv_aload_n hx hb dX10_steps_0 rfl (lv_at hl 0 rfl) ?_
  refine lv_iload_n hx hb dX10_steps_1 rfl (lv_at hl 1 rfl) ?_
  obtain ⟨x2, h2, hf⟩ := bd_of hf
  refine r_callV (k := ((0, 0) : Ky)) C hW hl lk_X10_141 (c_X10_needPerson hwf h2) ⟨rfl, rfl⟩ ⟨Nat.le_of_ble_eq_true rfl, Nat.le_of_ble_eq_true rfl⟩ rfl rfl rfl (As := [.int v1]) (rest := []) rfl rfl (Nat.le_of_ble_eq_true rfl) dX10_steps_2 ⟨Nat.zero_le _, Nat.zero_le _⟩ (fun H locs hW => ?_)
  show W p l e (rmq 2 48) s m args below meth c H locs 0 0 Q (F0 m 5 ls [])
  refine lv_aload_n hx hb dX10_steps_5 rfl (lv_at hl 0 rfl) ?_
  refine lv_iload_n hx hb dX10_steps_6 rfl (lv_at hl 2 rfl) ?_
  obtain ⟨x7, h7, hf⟩ := bd_of hf
  refine r_callV (k := ((0, 0) : Ky)) C hW hl lk_X10_141 (c_X10_needPerson hwf h7) ⟨rfl, rfl⟩ ⟨Nat.le_of_ble_eq_true rfl, Nat.le_of_ble_eq_true rfl⟩ rfl rfl rfl (As := [.int v2]) (rest := []) rfl rfl (Nat.le_of_ble_eq_true rfl) dX10_steps_7 ⟨Nat.zero_le _, Nat.zero_le _⟩ (fun H locs hW => ?_)
  show W p l e (rmq 2 48) s m args below meth c H locs 0 0 Q (F0 m 10 ls [])
  refine lv_aload_n hx hb dX10_steps_10 rfl (lv_at hl 0 rfl) ?_
  refine gf_X10_35 C hW dX10_steps_11 ?_
  refine lv_aload_n hx hb dX10_steps_14 rfl (lv_at hl 0 rfl) ?_
  refine gf_X10_60 C hW dX10_steps_15 ?_
  obtain ⟨hq1, hf⟩ := ce_of hf
  refine lv_iload_n hx hb dX10_steps_18 rfl (lv_at hl 1 rfl) ?_
  refine lv_iload_n hx hb dX10_steps_19 rfl (lv_at hl 2 rfl) ?_
  obtain ⟨x20, h20, hf⟩ := bd_of hf
  refine r_callV (k := ((5, 0) : Ky)) C hW hl lk_X10_300 (c_X5_stepsBetween hwf hq1 h20) ⟨rfl, rfl⟩ ⟨Nat.le_of_ble_eq_true rfl, Nat.le_of_ble_eq_true rfl⟩ rfl rfl rfl (As := [.ref (oa (13, (μ (0, 0) 9).toNatClampNeg)), .int v1, .int v2]) (rest := []) rfl rfl (Nat.le_of_ble_eq_true rfl) dX10_steps_20 ⟨Nat.zero_le _, Nat.zero_le _⟩ (fun H locs hW => ?_)
  show W p l e (rmq 2 48) s m args below meth c H locs 0 0 Q (F0 m 23 ls [.int x20])
  obtain rfl := Option.some.inj hf
  rw [hQ]
  exact r_iret C hr hk hW rfl rfl dX10_steps_23
set_option maxHeartbeats 4000000 in
set_option maxRecDepth 100000 in
theorem c_X10_sureBehindStroll {l : Launch} {D : va_G} {tc : Nat → ClassId} {ro : Ro} {oa : Ky → Nat} {aa : Nat → Nat} {sh : Sh} {ln : Nat → Nat} {μ : Mm} {v1 v2 : Int32} {res : Int32 × Mm} (hwf : WfS sh) (hf : f_X10_sureBehindStroll sh ln μ v1 v2 = some res) : Ct l D tc ro (faB oa aa sh) (feB tc oa aa sh ln) yX10_sureBehindStroll cX10_sureBehindStroll 3 (some .int) (rmq 7 170) [.ref (oa (0, 0)), .int v1, .int v2] μ (some (.int res.1)) res.2 := by
  refine Ct.of (by decide) (Nat.le_of_ble_eq_true rfl) (fun p e s m args below meth c A C hr hk hW ls hl => ?_)
  have hx := C.1.1
  have hb := C.1.2.1
  obtain ⟨Q, hQ⟩ : ∃ Q, Q = MQ below (Ctq D (faB oa aa sh) (feB tc oa aa sh ln) (some (.int res.1)) res.2 A) args s 0 0 A := ⟨_, rfl⟩
  rw [← hQ]
  have hl : lv_has ls 3 [(0, .ref (oa (0, 0))), (1, .int v1), (2, .int v2)] := hl
  unfold f_X10_sureBehindStroll at hf
  refine lv_aload_n hx hb dX10_sureBehindStroll_0 rfl (lv_at hl 0 rfl) ?_
  refine gf_X10_64 C hW dX10_sureBehindStroll_1 ?_
  obtain ⟨hq1, hf⟩ := ce_of hf
  refine lv_aload_n hx hb dX10_sureBehindStroll_4 rfl (lv_at hl 0 rfl) ?_
  refine gf_X10_60 C hW dX10_sureBehindStroll_5 ?_
  obtain ⟨hq2, hf⟩ := ce_of hf
  obtain ⟨x8, h8, hf⟩ := bd_of hf
  refine r_callV (k := ((13, (μ (0, 0) 10).toNatClampNeg) : Ky)) C hW hl lk_X10_89 (c_X6_become hwf hq1 hq2 h8) ⟨rfl, rfl⟩ ⟨Nat.le_of_ble_eq_true rfl, Nat.le_of_ble_eq_true rfl⟩ rfl (faB_13 hq1) rfl (As := [.ref (oa (13, (μ (0, 0) 9).toNatClampNeg))]) (rest := []) rfl rfl (Nat.le_of_ble_eq_true rfl) dX10_sureBehindStroll_8 ⟨Nat.zero_le _, Nat.zero_le _⟩ (fun H locs hW => ?_)
  show W p l e (rmq 7 170) s m args below meth c H locs 0 0 Q (F0 m 11 ls [])
  refine lv_aload_n hx hb dX10_sureBehindStroll_11 rfl (lv_at hl 0 rfl) ?_
  refine gf_X10_64 C hW dX10_sureBehindStroll_12 ?_
  obtain ⟨hq3, hf⟩ := ce_of hf
  refine lv_iload_n hx hb dX10_sureBehindStroll_15 rfl (lv_at hl 2 rfl) ?_
  refine pf_X10_303 C hW hq3 dX10_sureBehindStroll_16 (fun H locs hW => ?_)
  refine lv_aload_n hx hb dX10_sureBehindStroll_19 rfl (lv_at hl 0 rfl) ?_
  refine gf_X10_28 C hW dX10_sureBehindStroll_20 ?_
  refine lv_aload_n hx hb dX10_sureBehindStroll_23 rfl (lv_at hl 0 rfl) ?_
  refine gf_X10_64 C hW dX10_sureBehindStroll_24 ?_
  obtain ⟨hq4, hf⟩ := ce_of hf
  refine lv_iload_n hx hb dX10_sureBehindStroll_27 rfl (lv_at hl 1 rfl) ?_
  obtain ⟨x28, h28, hf⟩ := bd_of hf
  refine r_callV (k := ((4, 0) : Ky)) C hW hl lk_X10_252 (c_X0_strollBy hwf hq4 h28) ⟨rfl, rfl⟩ ⟨Nat.le_of_ble_eq_true rfl, Nat.le_of_ble_eq_true rfl⟩ rfl rfl rfl (As := [.ref (oa (13, ((mst x8 (13, (x8 (0, 0) 10).toNatClampNeg) 5 v2) (0, 0) 10).toNatClampNeg)), .int v1]) (rest := []) rfl rfl (Nat.le_of_ble_eq_true rfl) dX10_sureBehindStroll_28 ⟨Nat.zero_le _, Nat.zero_le _⟩ (fun H locs hW => ?_)
  show W p l e (rmq 7 170) s m args below meth c H locs 0 0 Q (F0 m 31 ls [.int x28.1])
  refine lv_pop hx hb dX10_sureBehindStroll_31 rfl ?_
  refine lv_aload_n hx hb dX10_sureBehindStroll_32 rfl (lv_at hl 0 rfl) ?_
  refine gf_X10_19 C hW dX10_sureBehindStroll_33 ?_
  refine lv_aload_n hx hb dX10_sureBehindStroll_36 rfl (lv_at hl 0 rfl) ?_
  refine gf_X10_64 C hW dX10_sureBehindStroll_37 ?_
  obtain ⟨hq5, hf⟩ := ce_of hf
  refine lv_aload_n hx hb dX10_sureBehindStroll_40 rfl (lv_at hl 0 rfl) ?_
  refine gf_X10_64 C hW dX10_sureBehindStroll_41 ?_
  obtain ⟨hq6, hf⟩ := ce_of hf
  refine gf_X10_163 C hW hq6 dX10_sureBehindStroll_44 ?_
  obtain ⟨x47, h47, hf⟩ := bd_of hf
  refine r_callV (k := ((3, 0) : Ky)) C hW hl lk_X10_398 (c_X4_sureBits hwf hq5 (cex_st hq6 (by decide)) h47) ⟨rfl, rfl⟩ ⟨Nat.le_of_ble_eq_true rfl, Nat.le_of_ble_eq_true rfl⟩ rfl rfl rfl (As := [.ref (oa (13, (x28.2 (0, 0) 10).toNatClampNeg)), .ref (oa (11, 15 + 5 * ((x28.2 (0, 0) 10).toNatClampNeg) + 2))]) (rest := []) rfl rfl (Nat.le_of_ble_eq_true rfl) dX10_sureBehindStroll_47 ⟨Nat.zero_le _, Nat.zero_le _⟩ (fun H locs hW => ?_)
  show W p l e (rmq 7 170) s m args below meth c H locs 0 0 Q (F0 m 50 ls [.int x47])
  obtain rfl := Option.some.inj hf
  rw [hQ]
  exact r_iret C hr hk hW rfl rfl dX10_sureBehindStroll_50
set_option maxHeartbeats 4000000 in
set_option maxRecDepth 100000 in
theorem c_X10_trial {l : Launch} {D : va_G} {tc : Nat → ClassId} {ro : Ro} {oa : Ky → Nat} {aa : Nat → Nat} {sh : Sh} {ln : Nat → Nat} {μ : Mm} {v1 : Int32} {res : Int32 × Mm} (hwf : WfS sh) (hf : f_X10_trial sh ln μ v1 = some res) : Ct l D tc ro (faB oa aa sh) (feB tc oa aa sh ln) yX10_trial cX10_trial 2 (some .int) (rmq 8 192) [.ref (oa (0, 0)), .int v1] μ (some (.int res.1)) res.2 := by
  refine Ct.of (by decide) (Nat.le_of_ble_eq_true rfl) (fun p e s m args below meth c A C hr hk hW ls hl => ?_)
  have hx := C.1.1
  have hb := C.1.2.1
  obtain ⟨Q, hQ⟩ : ∃ Q, Q = MQ below (Ctq D (faB oa aa sh) (feB tc oa aa sh ln) (some (.int res.1)) res.2 A) args s 0 0 A := ⟨_, rfl⟩
  rw [← hQ]
  have hl : lv_has ls 2 [(0, .ref (oa (0, 0))), (1, .int v1)] := hl
  unfold f_X10_trial at hf
  refine lv_aload_n hx hb dX10_trial_0 rfl (lv_at hl 0 rfl) ?_
  refine lv_iload_n hx hb dX10_trial_1 rfl (lv_at hl 1 rfl) ?_
  refine lv_iconst (v := 0) hx hb dX10_trial_2 (by decide) ?_
  refine lv_bipush (v := 30) hx hb dX10_trial_3 (by decide) ?_
  obtain ⟨x5, h5, hf⟩ := bd_of hf
  refine r_callV (k := ((0, 0) : Ky)) C hW hl lk_X10_233 (c_X10_needNumber h5) ⟨rfl, rfl⟩ ⟨Nat.le_of_ble_eq_true rfl, Nat.le_of_ble_eq_true rfl⟩ rfl rfl rfl (As := [.int v1, .int (0 : Int32), .int (30 : Int32)]) (rest := []) rfl rfl (Nat.le_of_ble_eq_true rfl) dX10_trial_5 ⟨Nat.zero_le _, Nat.zero_le _⟩ (fun H locs hW => ?_)
  show W p l e (rmq 8 192) s m args below meth c H locs 0 0 Q (F0 m 8 ls [])
  refine lv_aload_n hx hb dX10_trial_8 rfl (lv_at hl 0 rfl) ?_
  refine lv_iload_n hx hb dX10_trial_9 rfl (lv_at hl 1 rfl) ?_
  refine lv_aload_n hx hb dX10_trial_10 rfl (lv_at hl 0 rfl) ?_
  refine gf_X10_60 C hW dX10_trial_11 ?_
  obtain ⟨hq1, hf⟩ := ce_of hf
  refine gf_X10_303 C hW hq1 dX10_trial_14 ?_
  obtain ⟨x17, h17, hf⟩ := bd_of hf
  refine r_callV (k := ((0, 0) : Ky)) C hW hl lk_X10_306 (c_X10_sureBehindStroll hwf h17) ⟨rfl, rfl⟩ ⟨Nat.le_of_ble_eq_true rfl, Nat.le_of_ble_eq_true rfl⟩ rfl rfl rfl (As := [.int v1, .int (μ (13, (μ (0, 0) 9).toNatClampNeg) 5)]) (rest := []) rfl rfl (Nat.le_of_ble_eq_true rfl) dX10_trial_17 ⟨Nat.zero_le _, Nat.zero_le _⟩ (fun H locs hW => ?_)
  show W p l e (rmq 8 192) s m args below meth c H locs 0 0 Q (F0 m 20 ls [.int x17.1])
  obtain rfl := Option.some.inj hf
  rw [hQ]
  exact r_iret C hr hk hW rfl rfl dX10_trial_20
set_option maxHeartbeats 4000000 in
set_option maxRecDepth 100000 in
theorem c_X10_span {l : Launch} {D : va_G} {tc : Nat → ClassId} {ro : Ro} {oa : Ky → Nat} {aa : Nat → Nat} {sh : Sh} {ln : Nat → Nat} {μ : Mm} {v1 v2 : Int32} {res : Int32 × Mm} (hwf : WfS sh) (hf : f_X10_span sh ln μ v1 v2 = some res) : Ct l D tc ro (faB oa aa sh) (feB tc oa aa sh ln) yX10_span cX10_span 6 (some .int) (rmq 8 192) [.ref (oa (0, 0)), .int v1, .int v2] μ (some (.int res.1)) res.2 := by
  refine Ct.of (by decide) (Nat.le_of_ble_eq_true rfl) (fun p e s m args below meth c A C hr hk hW ls hl => ?_)
  have hx := C.1.1
  have hb := C.1.2.1
  obtain ⟨Q, hQ⟩ : ∃ Q, Q = MQ below (Ctq D (faB oa aa sh) (feB tc oa aa sh ln) (some (.int res.1)) res.2 A) args s 0 0 A := ⟨_, rfl⟩
  rw [← hQ]
  have hl : lv_has ls 6 [(0, .ref (oa (0, 0))), (1, .int v1), (2, .int v2)] := hl
  unfold f_X10_span at hf
  refine lv_aload_n hx hb dX10_span_0 rfl (lv_at hl 0 rfl) ?_
  refine lv_iload_n hx hb dX10_span_1 rfl (lv_at hl 1 rfl) ?_
  refine lv_iconst (v := 0) hx hb dX10_span_2 (by decide) ?_
  refine lv_bipush (v := 30) hx hb dX10_span_3 (by decide) ?_
  obtain ⟨x5, h5, hf⟩ := bd_of hf
  refine r_callV (k := ((0, 0) : Ky)) C hW hl lk_X10_233 (c_X10_needNumber h5) ⟨rfl, rfl⟩ ⟨Nat.le_of_ble_eq_true rfl, Nat.le_of_ble_eq_true rfl⟩ rfl rfl rfl (As := [.int v1, .int (0 : Int32), .int (30 : Int32)]) (rest := []) rfl rfl (Nat.le_of_ble_eq_true rfl) dX10_span_5 ⟨Nat.zero_le _, Nat.zero_le _⟩ (fun H locs hW => ?_)
  show W p l e (rmq 8 192) s m args below meth c H locs 0 0 Q (F0 m 8 ls [])
  refine lv_aload_n hx hb dX10_span_8 rfl (lv_at hl 0 rfl) ?_
  refine lv_iload_n hx hb dX10_span_9 rfl (lv_at hl 1 rfl) ?_
  refine lv_iconst (v := 1) hx hb dX10_span_10 (by decide) ?_
  obtain ⟨x11, h11, hf⟩ := bd_of hf
  refine r_callV (k := ((0, 0) : Ky)) C hW hl lk_X10_306 (c_X10_sureBehindStroll hwf h11) ⟨rfl, rfl⟩ ⟨Nat.le_of_ble_eq_true rfl, Nat.le_of_ble_eq_true rfl⟩ rfl rfl rfl (As := [.int v1, .int (1 : Int32)]) (rest := []) rfl rfl (Nat.le_of_ble_eq_true rfl) dX10_span_11 ⟨Nat.zero_le _, Nat.zero_le _⟩ (fun H locs hW => ?_)
  show W p l e (rmq 8 192) s m args below meth c H locs 0 0 Q (F0 m 14 ls [.int x11.1])
  obtain ⟨x14, h14, hf⟩ := bd_of hf
  refine r_callS C hW hl lk_X10_309 (c_J6_bitCount_0f7a4 h14) ⟨rfl, rfl⟩ ⟨Nat.le_of_ble_eq_true rfl, Nat.le_of_ble_eq_true rfl⟩ (As := [.int x11.1]) (rest := []) rfl rfl (Nat.le_of_ble_eq_true rfl) dX10_span_14 ⟨Nat.zero_le _, Nat.zero_le _⟩ (fun H locs hW => ?_)
  show W p l e (rmq 8 192) s m args below meth c H locs 0 0 Q (F0 m 17 ls [.int x14])
  refine lv_istore_n (lv' := [(3, .int x14), (0, .ref (oa (0, 0))), (1, .int v1), (2, .int v2)]) hx hb dX10_span_17 rfl hl (by decide) rfl (fun ls hl => ?_)
  refine lv_iconst (v := 2) hx hb dX10_span_18 (by decide) ?_
  refine lv_istore (lv' := [(4, .int (2 : Int32)), (3, .int x14), (0, .ref (oa (0, 0))), (1, .int v1), (2, .int v2)]) hx hb dX10_span_19 hl (by decide) rfl (fun ls hl => ?_)
  have L21 : ∀ (μ : Mm) (v3 v4 : Int32) (H : Heap) (locs : List Loc) (ls : Array Slot), Wh (fun z : Mm × Int32 × Int32 => f_X10_span_L21 sh ln v1 v2 z.1 z.2.1 z.2.2) (μ, v3, v4) = some res → Wd D (faB oa aa sh) (feB tc oa aa sh ln) A s.heap μ H locs → lv_has ls 6 [(0, .ref (oa (0, 0))), (1, .int v1), (2, .int v2), (3, .int v3), (4, .int v4)] → W p l e (rmq 8 192) s m args below meth c H locs 0 0 Q (F0 m 21 ls []) := by
    intro μ v3 v4 H locs ls hf hW hl
    refine Wh_rule hf (fun z : Mm × Int32 × Int32 => ∀ (H : Heap) (locs : List Loc) (ls : Array Slot), Wd D (faB oa aa sh) (feB tc oa aa sh ln) A s.heap z.1 H locs → lv_has ls 6 [(0, .ref (oa (0, 0))), (1, .int v1), (2, .int v2), (3, .int z.2.1), (4, .int z.2.2)] → W p l e (rmq 8 192) s m args below meth c H locs 0 0 Q (F0 m 21 ls [])) (fun z o1 hf Kl1 Kr1 => ?_) _ _ _ hW hl
    obtain ⟨μ, v3, v4⟩ := z
    intro H locs ls hW hl
    have hf : f_X10_span_L21 sh ln v1 v2 μ v3 v4 = some o1 := hf
    unfold f_X10_span_L21 at hf
    have hW : Wd D (faB oa aa sh) (feB tc oa aa sh ln) A s.heap μ H locs := hW
    have hl : lv_has ls 6 [(0, .ref (oa (0, 0))), (1, .int v1), (2, .int v2), (3, .int v3), (4, .int v4)] := hl
    refine lv_iload hx hb dX10_span_21 (lv_at hl 4 rfl) ?_
    refine lv_bipush (v := 6) hx hb dX10_span_23 (by decide) ?_
    refine lv_icmp_gt (tgt := 66) hx hb dX10_span_25 (by decide) (fun c1 => ?_) (fun c1 => ?_)
    · have hf := (if_pos c1).symm.trans hf
      obtain ⟨x9002, hf, hx9002⟩ := map_of hf
      have e9002 := (Kr1 _ hx9002.symm).symm
      subst e9002
      refine lv_iload_n hx hb dX10_span_66 rfl (lv_at hl 3 rfl) ?_
      obtain rfl := Option.some.inj hf
      rw [hQ]
      exact r_iret C hr hk hW rfl rfl dX10_span_67
    · have hf := (if_neg c1).symm.trans hf
      refine lv_aload_n hx hb dX10_span_28 rfl (lv_at hl 0 rfl) ?_
      refine lv_iload_n hx hb dX10_span_29 rfl (lv_at hl 1 rfl) ?_
      refine lv_iload hx hb dX10_span_30 (lv_at hl 4 rfl) ?_
      obtain ⟨x32, h32, hf⟩ := bd_of hf
      refine r_callV (k := ((0, 0) : Ky)) C hW hl lk_X10_306 (c_X10_sureBehindStroll hwf h32) ⟨rfl, rfl⟩ ⟨Nat.le_of_ble_eq_true rfl, Nat.le_of_ble_eq_true rfl⟩ rfl rfl rfl (As := [.int v1, .int v4]) (rest := []) rfl rfl (Nat.le_of_ble_eq_true rfl) dX10_span_32 ⟨Nat.zero_le _, Nat.zero_le _⟩ (fun H locs hW => ?_)
      show W p l e (rmq 8 192) s m args below meth c H locs 0 0 Q (F0 m 35 ls [.int x32.1])
      obtain ⟨x35, h35, hf⟩ := bd_of hf
      refine r_callS C hW hl lk_X10_309 (c_J6_bitCount_0f7a4 h35) ⟨rfl, rfl⟩ ⟨Nat.le_of_ble_eq_true rfl, Nat.le_of_ble_eq_true rfl⟩ (As := [.int x32.1]) (rest := []) rfl rfl (Nat.le_of_ble_eq_true rfl) dX10_span_35 ⟨Nat.zero_le _, Nat.zero_le _⟩ (fun H locs hW => ?_)
      show W p l e (rmq 8 192) s m args below meth c H locs 0 0 Q (F0 m 38 ls [.int x35])
      refine lv_istore (lv' := [(5, .int x35), (0, .ref (oa (0, 0))), (1, .int v1), (2, .int v2), (3, .int v3), (4, .int v4)]) hx hb dX10_span_38 hl (by decide) rfl (fun ls hl => ?_)
      refine lv_iload_n hx hb dX10_span_40 rfl (lv_at hl 3 rfl) ?_
      refine lv_if_eq (tgt := 53) hx hb dX10_span_41 (by decide) (fun c3 => ?_) (fun c3 => ?_)
      · have hf := (if_pos c3).symm.trans hf
        refine lv_iload_n hx hb dX10_span_53 rfl (lv_at hl 4 rfl) ?_
        refine lv_iload hx hb dX10_span_54 (lv_at hl 0 rfl) ?_
        refine r_mmin C hl kw_581 kw_560 kw_140 kw_561 (Nat.le_of_ble_eq_true rfl) (Nat.le_of_ble_eq_true rfl) ⟨Nat.zero_le _, Nat.zero_le _⟩ dX10_span_56 ?_
        refine lv_istore_n (lv' := [(3, .int (if x35 < v3 then x35 else v3)), (5, .int x35), (0, .ref (oa (0, 0))), (1, .int v1), (2, .int v2), (4, .int v4)]) hx hb dX10_span_59 rfl hl (by decide) rfl (fun ls hl => ?_)
        refine lv_iinc (v := (v4 + (1 : Int32))) (lv' := [(4, .int (v4 + (1 : Int32))), (3, .int (if x35 < v3 then x35 else v3)), (5, .int x35), (0, .ref (oa (0, 0))), (1, .int v1), (2, .int v2)]) hx hb dX10_span_60 hl (k := 5) rfl rfl (by decide) rfl (fun ls hl => ?_)
        refine lv_goto (tgt := 21) hx hb dX10_span_63 (by decide) ?_
        obtain rfl := Option.some.inj hf
        exact Kl1 _ rfl _ _ _ hW (lv_sub hl [3, 4, 5, 1, 0] rfl)
      · have hf := (if_neg c3).symm.trans hf
        refine lv_iload_n hx hb dX10_span_44 rfl (lv_at hl 4 rfl) ?_
        refine lv_iload hx hb dX10_span_45 (lv_at hl 0 rfl) ?_
        refine r_mmax C hl kw_1868 kw_191 kw_140 kw_192 (Nat.le_of_ble_eq_true rfl) (Nat.le_of_ble_eq_true rfl) ⟨Nat.zero_le _, Nat.zero_le _⟩ dX10_span_47 ?_
        refine lv_goto (tgt := 59) hx hb dX10_span_50 (by decide) ?_
        refine lv_istore_n (lv' := [(3, .int (if v3 < x35 then x35 else v3)), (5, .int x35), (0, .ref (oa (0, 0))), (1, .int v1), (2, .int v2), (4, .int v4)]) hx hb dX10_span_59 rfl hl (by decide) rfl (fun ls hl => ?_)
        refine lv_iinc (v := (v4 + (1 : Int32))) (lv' := [(4, .int (v4 + (1 : Int32))), (3, .int (if v3 < x35 then x35 else v3)), (5, .int x35), (0, .ref (oa (0, 0))), (1, .int v1), (2, .int v2)]) hx hb dX10_span_60 hl (k := 5) rfl rfl (by decide) rfl (fun ls hl => ?_)
        refine lv_goto (tgt := 21) hx hb dX10_span_63 (by decide) ?_
        obtain rfl := Option.some.inj hf
        exact Kl1 _ rfl _ _ _ hW (lv_sub hl [3, 4, 5, 1, 0] rfl)
  exact L21 x11.2 x14 (2 : Int32) _ _ _ hf hW (lv_sub hl [2, 3, 4, 1, 0] rfl)
set_option maxHeartbeats 4000000 in
set_option maxRecDepth 100000 in
theorem c_X10_nth {l : Launch} {D : va_G} {tc : Nat → ClassId} {ro : Ro} {oa : Ky → Nat} {aa : Nat → Nat} {sh : Sh} {ln : Nat → Nat} {μ : Mm} {v1 v2 : Int32} {res : Int32} (hwf : WfS sh) (hf : f_X10_nth sh ln μ v1 v2 = some res) : Ct l D tc ro (faB oa aa sh) (feB tc oa aa sh ln) yX10_nth cX10_nth 3 (some .int) (rmq 4 91) [.ref (oa (0, 0)), .int v1, .int v2] μ (some (.int res)) μ := by
  refine Ct.of (by decide) (Nat.le_of_ble_eq_true rfl) (fun p e s m args below meth c A C hr hk hW ls hl => ?_)
  have hx := C.1.1
  have hb := C.1.2.1
  obtain ⟨Q, hQ⟩ : ∃ Q, Q = MQ below (Ctq D (faB oa aa sh) (feB tc oa aa sh ln) (some (.int res)) μ A) args s 0 0 A := ⟨_, rfl⟩
  rw [← hQ]
  have hl : lv_has ls 3 [(0, .ref (oa (0, 0))), (1, .int v1), (2, .int v2)] := hl
  unfold f_X10_nth at hf
  refine lv_aload_n hx hb dX10_nth_0 rfl (lv_at hl 0 rfl) ?_
  refine lv_iload_n hx hb dX10_nth_1 rfl (lv_at hl 1 rfl) ?_
  obtain ⟨x2, h2, hf⟩ := bd_of hf
  refine r_callV (k := ((0, 0) : Ky)) C hW hl lk_X10_269 (c_X10_needPersonOrNone hwf h2) ⟨rfl, rfl⟩ ⟨Nat.le_of_ble_eq_true rfl, Nat.le_of_ble_eq_true rfl⟩ rfl rfl rfl (As := [.int v1]) (rest := []) rfl rfl (Nat.le_of_ble_eq_true rfl) dX10_nth_2 ⟨Nat.zero_le _, Nat.zero_le _⟩ (fun H locs hW => ?_)
  show W p l e (rmq 4 91) s m args below meth c H locs 0 0 Q (F0 m 5 ls [])
  refine lv_aload_n hx hb dX10_nth_5 rfl (lv_at hl 0 rfl) ?_
  refine gf_X10_19 C hW dX10_nth_6 ?_
  refine lv_aload_n hx hb dX10_nth_9 rfl (lv_at hl 0 rfl) ?_
  refine gf_X10_60 C hW dX10_nth_10 ?_
  obtain ⟨hq1, hf⟩ := ce_of hf
  refine lv_iload_n hx hb dX10_nth_13 rfl (lv_at hl 1 rfl) ?_
  refine lv_iload_n hx hb dX10_nth_14 rfl (lv_at hl 2 rfl) ?_
  obtain ⟨x15, h15, hf⟩ := bd_of hf
  refine r_callV (k := ((3, 0) : Ky)) C hW hl lk_X10_322 (c_X4_heldAt hwf hq1 h15) ⟨rfl, rfl⟩ ⟨Nat.le_of_ble_eq_true rfl, Nat.le_of_ble_eq_true rfl⟩ rfl rfl rfl (As := [.ref (oa (13, (μ (0, 0) 9).toNatClampNeg)), .int v1, .int v2]) (rest := []) rfl rfl (Nat.le_of_ble_eq_true rfl) dX10_nth_15 ⟨Nat.zero_le _, Nat.zero_le _⟩ (fun H locs hW => ?_)
  show W p l e (rmq 4 91) s m args below meth c H locs 0 0 Q (F0 m 18 ls [.int x15])
  obtain rfl := Option.some.inj hf
  rw [hQ]
  exact r_iret C hr hk hW rfl rfl dX10_nth_18
set_option maxHeartbeats 4000000 in
set_option maxRecDepth 100000 in
theorem c_X10_guess {l : Launch} {D : va_G} {tc : Nat → ClassId} {ro : Ro} {oa : Ky → Nat} {aa : Nat → Nat} {sh : Sh} {ln : Nat → Nat} {μ : Mm} {v1 : Int32} {res : Int32 × Mm} (hwf : WfS sh) (hf : f_X10_guess sh ln μ v1 = some res) : Ct l D tc ro (faB oa aa sh) (feB tc oa aa sh ln) yX10_guess cX10_guess 2 (some .int) (rmq 5 115) [.ref (oa (0, 0)), .int v1] μ (some (.int res.1)) res.2 := by
  refine Ct.of (by decide) (Nat.le_of_ble_eq_true rfl) (fun p e s m args below meth c A C hr hk hW ls hl => ?_)
  have hx := C.1.1
  have hb := C.1.2.1
  obtain ⟨Q, hQ⟩ : ∃ Q, Q = MQ below (Ctq D (faB oa aa sh) (feB tc oa aa sh ln) (some (.int res.1)) res.2 A) args s 0 0 A := ⟨_, rfl⟩
  rw [← hQ]
  have hl : lv_has ls 2 [(0, .ref (oa (0, 0))), (1, .int v1)] := hl
  unfold f_X10_guess at hf
  refine lv_aload_n hx hb dX10_guess_0 rfl (lv_at hl 0 rfl) ?_
  refine lv_iload_n hx hb dX10_guess_1 rfl (lv_at hl 1 rfl) ?_
  obtain ⟨x2, h2, hf⟩ := bd_of hf
  refine r_callV (k := ((0, 0) : Ky)) C hW hl lk_X10_141 (c_X10_needPerson hwf h2) ⟨rfl, rfl⟩ ⟨Nat.le_of_ble_eq_true rfl, Nat.le_of_ble_eq_true rfl⟩ rfl rfl rfl (As := [.int v1]) (rest := []) rfl rfl (Nat.le_of_ble_eq_true rfl) dX10_guess_2 ⟨Nat.zero_le _, Nat.zero_le _⟩ (fun H locs hW => ?_)
  show W p l e (rmq 5 115) s m args below meth c H locs 0 0 Q (F0 m 5 ls [])
  refine lv_aload_n hx hb dX10_guess_5 rfl (lv_at hl 0 rfl) ?_
  refine gf_X10_19 C hW dX10_guess_6 ?_
  refine lv_aload_n hx hb dX10_guess_9 rfl (lv_at hl 0 rfl) ?_
  refine gf_X10_60 C hW dX10_guess_10 ?_
  obtain ⟨hq1, hf⟩ := ce_of hf
  refine lv_iload_n hx hb dX10_guess_13 rfl (lv_at hl 1 rfl) ?_
  refine lv_aload_n hx hb dX10_guess_14 rfl (lv_at hl 0 rfl) ?_
  refine gf_X10_60 C hW dX10_guess_15 ?_
  obtain ⟨hq2, hf⟩ := ce_of hf
  refine gf_X10_144 C hW hq2 dX10_guess_18 ?_
  obtain ⟨x21, h21, hf⟩ := bd_of hf
  refine r_callV (k := ((3, 0) : Ky)) C hW hl lk_X10_325 (c_X4_guessIn hwf hq1 h21) ⟨rfl, rfl⟩ ⟨Nat.le_of_ble_eq_true rfl, Nat.le_of_ble_eq_true rfl⟩ rfl rfl rfl (As := [.ref (oa (13, (μ (0, 0) 9).toNatClampNeg)), .int v1, .int (μ (13, (μ (0, 0) 9).toNatClampNeg) 3)]) (rest := []) rfl rfl (Nat.le_of_ble_eq_true rfl) dX10_guess_21 ⟨Nat.zero_le _, Nat.zero_le _⟩ (fun H locs hW => ?_)
  show W p l e (rmq 5 115) s m args below meth c H locs 0 0 Q (F0 m 24 ls [.int x21.1])
  obtain rfl := Option.some.inj hf
  rw [hQ]
  exact r_iret C hr hk hW rfl rfl dX10_guess_24
set_option maxHeartbeats 4000000 in
set_option maxRecDepth 100000 in
theorem c_X10_right {l : Launch} {D : va_G} {tc : Nat → ClassId} {ro : Ro} {oa : Ky → Nat} {aa : Nat → Nat} {sh : Sh} {ln : Nat → Nat} {μ : Mm} {v1 : Int32} {res : Int32 × Mm} (hwf : WfS sh) (hf : f_X10_right sh ln μ v1 = some res) : Ct l D tc ro (faB oa aa sh) (feB tc oa aa sh ln) yX10_right cX10_right 2 (some .int) (rmq 5 116) [.ref (oa (0, 0)), .int v1] μ (some (.int res.1)) res.2 := by
  refine Ct.of (by decide) (Nat.le_of_ble_eq_true rfl) (fun p e s m args below meth c A C hr hk hW ls hl => ?_)
  have hx := C.1.1
  have hb := C.1.2.1
  obtain ⟨Q, hQ⟩ : ∃ Q, Q = MQ below (Ctq D (faB oa aa sh) (feB tc oa aa sh ln) (some (.int res.1)) res.2 A) args s 0 0 A := ⟨_, rfl⟩
  rw [← hQ]
  have hl : lv_has ls 2 [(0, .ref (oa (0, 0))), (1, .int v1)] := hl
  unfold f_X10_right at hf
  refine lv_aload_n hx hb dX10_right_0 rfl (lv_at hl 0 rfl) ?_
  refine lv_iload_n hx hb dX10_right_1 rfl (lv_at hl 1 rfl) ?_
  obtain ⟨x2, h2, hf⟩ := bd_of hf
  refine r_callV (k := ((0, 0) : Ky)) C hW hl lk_X10_269 (c_X10_needPersonOrNone hwf h2) ⟨rfl, rfl⟩ ⟨Nat.le_of_ble_eq_true rfl, Nat.le_of_ble_eq_true rfl⟩ rfl rfl rfl (As := [.int v1]) (rest := []) rfl rfl (Nat.le_of_ble_eq_true rfl) dX10_right_2 ⟨Nat.zero_le _, Nat.zero_le _⟩ (fun H locs hW => ?_)
  show W p l e (rmq 5 116) s m args below meth c H locs 0 0 Q (F0 m 5 ls [])
  refine lv_aload_n hx hb dX10_right_5 rfl (lv_at hl 0 rfl) ?_
  refine gf_X10_19 C hW dX10_right_6 ?_
  refine lv_aload_n hx hb dX10_right_9 rfl (lv_at hl 0 rfl) ?_
  refine gf_X10_60 C hW dX10_right_10 ?_
  obtain ⟨hq1, hf⟩ := ce_of hf
  refine lv_iload_n hx hb dX10_right_13 rfl (lv_at hl 1 rfl) ?_
  obtain ⟨x14, h14, hf⟩ := bd_of hf
  refine r_callV (k := ((3, 0) : Ky)) C hW hl lk_X10_328 (c_X4_rightGuesses hwf hq1 h14) ⟨rfl, rfl⟩ ⟨Nat.le_of_ble_eq_true rfl, Nat.le_of_ble_eq_true rfl⟩ rfl rfl rfl (As := [.ref (oa (13, (μ (0, 0) 9).toNatClampNeg)), .int v1]) (rest := []) rfl rfl (Nat.le_of_ble_eq_true rfl) dX10_right_14 ⟨Nat.zero_le _, Nat.zero_le _⟩ (fun H locs hW => ?_)
  show W p l e (rmq 5 116) s m args below meth c H locs 0 0 Q (F0 m 17 ls [.int x14.1])
  obtain rfl := Option.some.inj hf
  rw [hQ]
  exact r_iret C hr hk hW rfl rfl dX10_right_17
set_option maxHeartbeats 4000000 in
set_option maxRecDepth 100000 in
theorem c_X10_rows {l : Launch} {D : va_G} {tc : Nat → ClassId} {ro : Ro} {oa : Ky → Nat} {aa : Nat → Nat} {sh : Sh} {ln : Nat → Nat} {μ : Mm} {v1 : Int32} {res : Int32 × Mm} (hwf : WfS sh) (hf : f_X10_rows sh ln μ v1 = some res) : Ct l D tc ro (faB oa aa sh) (feB tc oa aa sh ln) yX10_rows cX10_rows 3 (some .int) (rmq 5 122) [.ref (oa (0, 0)), .int v1] μ (some (.int res.1)) res.2 := by
  refine Ct.of (by decide) (Nat.le_of_ble_eq_true rfl) (fun p e s m args below meth c A C hr hk hW ls hl => ?_)
  have hx := C.1.1
  have hb := C.1.2.1
  obtain ⟨Q, hQ⟩ : ∃ Q, Q = MQ below (Ctq D (faB oa aa sh) (feB tc oa aa sh ln) (some (.int res.1)) res.2 A) args s 0 0 A := ⟨_, rfl⟩
  rw [← hQ]
  have hl : lv_has ls 3 [(0, .ref (oa (0, 0))), (1, .int v1)] := hl
  unfold f_X10_rows at hf
  refine lv_aload_n hx hb dX10_rows_0 rfl (lv_at hl 0 rfl) ?_
  refine gf_X10_10 C hW dX10_rows_1 ?_
  obtain ⟨x4, h4, hf⟩ := bd_of hf
  refine r_callV (k := ((2, 0) : Ky)) C hW hl lk_X10_86 (c_X7_use hwf h4) ⟨rfl, rfl⟩ ⟨Nat.le_of_ble_eq_true rfl, Nat.le_of_ble_eq_true rfl⟩ rfl rfl rfl (As := []) (rest := []) rfl rfl (Nat.le_of_ble_eq_true rfl) dX10_rows_4 ⟨Nat.zero_le _, Nat.zero_le _⟩ (fun H locs hW => ?_)
  show W p l e (rmq 5 122) s m args below meth c H locs 0 0 Q (F0 m 7 ls [.int x4.1])
  refine lv_istore_n (lv' := [(2, .int x4.1), (0, .ref (oa (0, 0))), (1, .int v1)]) hx hb dX10_rows_7 rfl hl (by decide) rfl (fun ls hl => ?_)
  refine lv_aload_n hx hb dX10_rows_8 rfl (lv_at hl 1 rfl) ?_
  refine gf_X10_35 C hW dX10_rows_9 ?_
  refine lv_aload_n hx hb dX10_rows_12 rfl (lv_at hl 1 rfl) ?_
  refine gf_X10_60 C hW dX10_rows_13 ?_
  obtain ⟨hq1, hf⟩ := ce_of hf
  refine lv_aload_n hx hb dX10_rows_16 rfl (lv_at hl 1 rfl) ?_
  refine gf_X10_10 C hW dX10_rows_17 ?_
  refine lv_iload_n hx hb dX10_rows_20 rfl (lv_at hl 0 rfl) ?_
  obtain ⟨x21, h21, hf⟩ := bd_of hf
  refine r_callV (k := ((5, 0) : Ky)) C hW hl lk_X10_331 (c_X5_tellsPairs hwf hq1 h21) ⟨rfl, rfl⟩ ⟨Nat.le_of_ble_eq_true rfl, Nat.le_of_ble_eq_true rfl⟩ rfl rfl rfl (As := [.ref (oa (13, (x4.2 (0, 0) 9).toNatClampNeg)), .ref (oa (2, 0)), .int x4.1]) (rest := []) rfl rfl (Nat.le_of_ble_eq_true rfl) dX10_rows_21 ⟨Nat.zero_le _, Nat.zero_le _⟩ (fun H locs hW => ?_)
  show W p l e (rmq 5 122) s m args below meth c H locs 0 0 Q (F0 m 24 ls [.int x21])
  refine lv_if_eq (tgt := 32) hx hb dX10_rows_24 (by decide) (fun c2 => ?_) (fun c2 => ?_)
  · have hf := (if_pos c2).symm.trans hf
    cases hf
  · have hf := (if_neg c2).symm.trans hf
    refine lv_iload_n hx hb dX10_rows_27 rfl (lv_at hl 2 rfl) ?_
    refine lv_iconst (v := -1) hx hb dX10_rows_28 (by decide) ?_
    refine lv_icmp_ge (tgt := 43) hx hb dX10_rows_29 (by decide) (fun c3 => ?_) (fun c3 => ?_)
    · have hf := (if_pos c3).symm.trans hf
      refine lv_aload_n hx hb dX10_rows_43 rfl (lv_at hl 1 rfl) ?_
      refine gf_X10_35 C hW dX10_rows_44 ?_
      refine lv_aload_n hx hb dX10_rows_47 rfl (lv_at hl 1 rfl) ?_
      refine gf_X10_60 C hW dX10_rows_48 ?_
      obtain ⟨hq4, hf⟩ := ce_of hf
      refine lv_aload_n hx hb dX10_rows_51 rfl (lv_at hl 1 rfl) ?_
      refine gf_X10_10 C hW dX10_rows_52 ?_
      refine lv_iload_n hx hb dX10_rows_55 rfl (lv_at hl 0 rfl) ?_
      refine lv_iload_n hx hb dX10_rows_56 rfl (lv_at hl 2 rfl) ?_
      obtain ⟨x57, h57, hf⟩ := bd_of hf
      refine r_callV (k := ((5, 0) : Ky)) C hW hl lk_X10_337 (c_X5_standInRow hwf hq4 h57) ⟨rfl, rfl⟩ ⟨Nat.le_of_ble_eq_true rfl, Nat.le_of_ble_eq_true rfl⟩ rfl rfl rfl (As := [.ref (oa (13, (x4.2 (0, 0) 9).toNatClampNeg)), .ref (oa (2, 0)), .int x4.1, .int v1]) (rest := []) rfl rfl (Nat.le_of_ble_eq_true rfl) dX10_rows_57 ⟨Nat.zero_le _, Nat.zero_le _⟩ (fun H locs hW => ?_)
      show W p l e (rmq 5 122) s m args below meth c H locs 0 0 Q (F0 m 60 ls [.int x57.1])
      obtain rfl := Option.some.inj hf
      rw [hQ]
      exact r_iret C hr hk hW rfl rfl dX10_rows_60
    · have hf := (if_neg c3).symm.trans hf
      cases hf
set_option maxHeartbeats 4000000 in
set_option maxRecDepth 100000 in
theorem c_X10_liars {l : Launch} {D : va_G} {tc : Nat → ClassId} {ro : Ro} {oa : Ky → Nat} {aa : Nat → Nat} {sh : Sh} {ln : Nat → Nat} {μ : Mm} {v1 v2 : Int32} {res : Int32 × Mm} (hwf : WfS sh) (hf : f_X10_liars sh ln μ v1 v2 = some res) : Ct l D tc ro (faB oa aa sh) (feB tc oa aa sh ln) yX10_liars cX10_liars 4 (some .int) (rmq 5 119) [.ref (oa (0, 0)), .int v1, .int v2] μ (some (.int res.1)) res.2 := by
  refine Ct.of (by decide) (Nat.le_of_ble_eq_true rfl) (fun p e s m args below meth c A C hr hk hW ls hl => ?_)
  have hx := C.1.1
  have hb := C.1.2.1
  obtain ⟨Q, hQ⟩ : ∃ Q, Q = MQ below (Ctq D (faB oa aa sh) (feB tc oa aa sh ln) (some (.int res.1)) res.2 A) args s 0 0 A := ⟨_, rfl⟩
  rw [← hQ]
  have hl : lv_has ls 4 [(0, .ref (oa (0, 0))), (1, .int v1), (2, .int v2)] := hl
  unfold f_X10_liars at hf
  refine lv_aload_n hx hb dX10_liars_0 rfl (lv_at hl 0 rfl) ?_
  refine gf_X10_10 C hW dX10_liars_1 ?_
  obtain ⟨x4, h4, hf⟩ := bd_of hf
  refine r_callV (k := ((2, 0) : Ky)) C hW hl lk_X10_86 (c_X7_use hwf h4) ⟨rfl, rfl⟩ ⟨Nat.le_of_ble_eq_true rfl, Nat.le_of_ble_eq_true rfl⟩ rfl rfl rfl (As := []) (rest := []) rfl rfl (Nat.le_of_ble_eq_true rfl) dX10_liars_4 ⟨Nat.zero_le _, Nat.zero_le _⟩ (fun H locs hW => ?_)
  show W p l e (rmq 5 119) s m args below meth c H locs 0 0 Q (F0 m 7 ls [.int x4.1])
  refine lv_istore_n (lv' := [(3, .int x4.1), (0, .ref (oa (0, 0))), (1, .int v1), (2, .int v2)]) hx hb dX10_liars_7 rfl hl (by decide) rfl (fun ls hl => ?_)
  refine lv_aload_n hx hb dX10_liars_8 rfl (lv_at hl 1 rfl) ?_
  refine gf_X10_35 C hW dX10_liars_9 ?_
  refine lv_aload_n hx hb dX10_liars_12 rfl (lv_at hl 1 rfl) ?_
  refine gf_X10_60 C hW dX10_liars_13 ?_
  obtain ⟨hq1, hf⟩ := ce_of hf
  refine lv_aload_n hx hb dX10_liars_16 rfl (lv_at hl 1 rfl) ?_
  refine gf_X10_10 C hW dX10_liars_17 ?_
  refine lv_iload_n hx hb dX10_liars_20 rfl (lv_at hl 0 rfl) ?_
  obtain ⟨x21, h21, hf⟩ := bd_of hf
  refine r_callV (k := ((5, 0) : Ky)) C hW hl lk_X10_341 (c_X5_tellsSayings hwf hq1 h21) ⟨rfl, rfl⟩ ⟨Nat.le_of_ble_eq_true rfl, Nat.le_of_ble_eq_true rfl⟩ rfl rfl rfl (As := [.ref (oa (13, (x4.2 (0, 0) 9).toNatClampNeg)), .ref (oa (2, 0)), .int x4.1]) (rest := []) rfl rfl (Nat.le_of_ble_eq_true rfl) dX10_liars_21 ⟨Nat.zero_le _, Nat.zero_le _⟩ (fun H locs hW => ?_)
  show W p l e (rmq 5 119) s m args below meth c H locs 0 0 Q (F0 m 24 ls [.int x21])
  refine lv_if_eq (tgt := 37) hx hb dX10_liars_24 (by decide) (fun c2 => ?_) (fun c2 => ?_)
  · have hf := (if_pos c2).symm.trans hf
    cases hf
  · have hf := (if_neg c2).symm.trans hf
    refine lv_iload_n hx hb dX10_liars_27 rfl (lv_at hl 2 rfl) ?_
    refine lv_if_lt (tgt := 37) hx hb dX10_liars_28 (by decide) (fun c3 => ?_) (fun c3 => ?_)
    · have hf := (if_pos c3).symm.trans hf
      cases hf
    · have hf := (if_neg c3).symm.trans hf
      refine lv_iload_n hx hb dX10_liars_31 rfl (lv_at hl 2 rfl) ?_
      refine lv_bipush (v := 9) hx hb dX10_liars_32 (by decide) ?_
      refine lv_icmp_le (tgt := 48) hx hb dX10_liars_34 (by decide) (fun c4 => ?_) (fun c4 => ?_)
      · have hf := (if_pos c4).symm.trans hf
        refine lv_aload_n hx hb dX10_liars_48 rfl (lv_at hl 1 rfl) ?_
        refine gf_X10_35 C hW dX10_liars_49 ?_
        refine lv_aload_n hx hb dX10_liars_52 rfl (lv_at hl 1 rfl) ?_
        refine gf_X10_60 C hW dX10_liars_53 ?_
        obtain ⟨hq5, hf⟩ := ce_of hf
        refine lv_aload_n hx hb dX10_liars_56 rfl (lv_at hl 1 rfl) ?_
        refine gf_X10_10 C hW dX10_liars_57 ?_
        refine lv_iload_n hx hb dX10_liars_60 rfl (lv_at hl 0 rfl) ?_
        refine lv_iload_n hx hb dX10_liars_61 rfl (lv_at hl 2 rfl) ?_
        refine lv_iload_n hx hb dX10_liars_62 rfl (lv_at hl 3 rfl) ?_
        obtain ⟨x63, h63, hf⟩ := bd_of hf
        refine r_callV (k := ((5, 0) : Ky)) C hW hl lk_X10_346 (c_X5_whoLied hwf hq5 h63) ⟨rfl, rfl⟩ ⟨Nat.le_of_ble_eq_true rfl, Nat.le_of_ble_eq_true rfl⟩ rfl rfl rfl (As := [.ref (oa (13, (x4.2 (0, 0) 9).toNatClampNeg)), .ref (oa (2, 0)), .int x4.1, .int v1, .int v2]) (rest := []) rfl rfl (Nat.le_of_ble_eq_true rfl) dX10_liars_63 ⟨Nat.zero_le _, Nat.zero_le _⟩ (fun H locs hW => ?_)
        show W p l e (rmq 5 119) s m args below meth c H locs 0 0 Q (F0 m 66 ls [.int x63])
        obtain rfl := Option.some.inj hf
        rw [hQ]
        exact r_iret C hr hk hW rfl rfl dX10_liars_66
      · have hf := (if_neg c4).symm.trans hf
        cases hf
set_option maxHeartbeats 4000000 in
set_option maxRecDepth 100000 in
theorem c_X10_married {l : Launch} {D : va_G} {tc : Nat → ClassId} {ro : Ro} {oa : Ky → Nat} {aa : Nat → Nat} {sh : Sh} {ln : Nat → Nat} {μ : Mm} {v1 : Int32} {res : Int32 × Mm} (hwf : WfS sh) (hf : f_X10_married sh ln μ v1 = some res) : Ct l D tc ro (faB oa aa sh) (feB tc oa aa sh ln) yX10_married cX10_married 2 (some .int) (rmq 6 145) [.ref (oa (0, 0)), .int v1] μ (some (.int res.1)) res.2 := by
  refine Ct.of (by decide) (Nat.le_of_ble_eq_true rfl) (fun p e s m args below meth c A C hr hk hW ls hl => ?_)
  have hx := C.1.1
  have hb := C.1.2.1
  obtain ⟨Q, hQ⟩ : ∃ Q, Q = MQ below (Ctq D (faB oa aa sh) (feB tc oa aa sh ln) (some (.int res.1)) res.2 A) args s 0 0 A := ⟨_, rfl⟩
  rw [← hQ]
  have hl : lv_has ls 2 [(0, .ref (oa (0, 0))), (1, .int v1)] := hl
  unfold f_X10_married at hf
  refine lv_aload_n hx hb dX10_married_0 rfl (lv_at hl 0 rfl) ?_
  refine lv_iload_n hx hb dX10_married_1 rfl (lv_at hl 1 rfl) ?_
  obtain ⟨x2, h2, hf⟩ := bd_of hf
  refine r_callV (k := ((0, 0) : Ky)) C hW hl lk_X10_269 (c_X10_needPersonOrNone hwf h2) ⟨rfl, rfl⟩ ⟨Nat.le_of_ble_eq_true rfl, Nat.le_of_ble_eq_true rfl⟩ rfl rfl rfl (As := [.int v1]) (rest := []) rfl rfl (Nat.le_of_ble_eq_true rfl) dX10_married_2 ⟨Nat.zero_le _, Nat.zero_le _⟩ (fun H locs hW => ?_)
  show W p l e (rmq 6 145) s m args below meth c H locs 0 0 Q (F0 m 5 ls [])
  refine lv_aload_n hx hb dX10_married_5 rfl (lv_at hl 0 rfl) ?_
  refine gf_X10_35 C hW dX10_married_6 ?_
  refine lv_aload_n hx hb dX10_married_9 rfl (lv_at hl 0 rfl) ?_
  refine gf_X10_60 C hW dX10_married_10 ?_
  obtain ⟨hq1, hf⟩ := ce_of hf
  refine lv_iload_n hx hb dX10_married_13 rfl (lv_at hl 1 rfl) ?_
  obtain ⟨x14, h14, hf⟩ := bd_of hf
  refine r_callV (k := ((5, 0) : Ky)) C hW hl lk_X10_350 (c_X5_marry hwf hq1 h14) ⟨rfl, rfl⟩ ⟨Nat.le_of_ble_eq_true rfl, Nat.le_of_ble_eq_true rfl⟩ rfl rfl rfl (As := [.ref (oa (13, (μ (0, 0) 9).toNatClampNeg)), .int v1]) (rest := []) rfl rfl (Nat.le_of_ble_eq_true rfl) dX10_married_14 ⟨Nat.zero_le _, Nat.zero_le _⟩ (fun H locs hW => ?_)
  show W p l e (rmq 6 145) s m args below meth c H locs 0 0 Q (F0 m 17 ls [.int x14.1])
  obtain rfl := Option.some.inj hf
  rw [hQ]
  exact r_iret C hr hk hW rfl rfl dX10_married_17
set_option maxHeartbeats 4000000 in
set_option maxRecDepth 100000 in
theorem c_X10_led {l : Launch} {D : va_G} {tc : Nat → ClassId} {ro : Ro} {oa : Ky → Nat} {aa : Nat → Nat} {sh : Sh} {ln : Nat → Nat} {μ : Mm} {v1 : Int32} {res : Int32} (hwf : WfS sh) (hf : f_X10_led sh ln μ v1 = some res) : Ct l D tc ro (faB oa aa sh) (feB tc oa aa sh ln) yX10_led cX10_led 4 (some .int) (rmq 2 44) [.ref (oa (0, 0)), .int v1] μ (some (.int res)) μ := by
  refine Ct.of (by decide) (Nat.le_of_ble_eq_true rfl) (fun p e s m args below meth c A C hr hk hW ls hl => ?_)
  have hx := C.1.1
  have hb := C.1.2.1
  obtain ⟨Q, hQ⟩ : ∃ Q, Q = MQ below (Ctq D (faB oa aa sh) (feB tc oa aa sh ln) (some (.int res)) μ A) args s 0 0 A := ⟨_, rfl⟩
  rw [← hQ]
  have hl : lv_has ls 4 [(0, .ref (oa (0, 0))), (1, .int v1)] := hl
  unfold f_X10_led at hf
  refine lv_aload_n hx hb dX10_led_0 rfl (lv_at hl 0 rfl) ?_
  refine lv_iload_n hx hb dX10_led_1 rfl (lv_at hl 1 rfl) ?_
  obtain ⟨x2, h2, hf⟩ := bd_of hf
  refine r_callV (k := ((0, 0) : Ky)) C hW hl lk_X10_141 (c_X10_needPerson hwf h2) ⟨rfl, rfl⟩ ⟨Nat.le_of_ble_eq_true rfl, Nat.le_of_ble_eq_true rfl⟩ rfl rfl rfl (As := [.int v1]) (rest := []) rfl rfl (Nat.le_of_ble_eq_true rfl) dX10_led_2 ⟨Nat.zero_le _, Nat.zero_le _⟩ (fun H locs hW => ?_)
  show W p l e (rmq 2 44) s m args below meth c H locs 0 0 Q (F0 m 5 ls [])
  refine lv_iconst (v := -1) hx hb dX10_led_5 (by decide) ?_
  refine lv_istore_n (lv' := [(2, .int (-1 : Int32)), (0, .ref (oa (0, 0))), (1, .int v1)]) hx hb dX10_led_6 rfl hl (by decide) rfl (fun ls hl => ?_)
  refine lv_iconst (v := 0) hx hb dX10_led_7 (by decide) ?_
  refine lv_istore_n (lv' := [(3, .int (0 : Int32)), (2, .int (-1 : Int32)), (0, .ref (oa (0, 0))), (1, .int v1)]) hx hb dX10_led_8 rfl hl (by decide) rfl (fun ls hl => ?_)
  have L9 : ∀ (v2 v3 : Int32) (H : Heap) (locs : List Loc) (ls : Array Slot), Wh (fun z : Int32 × Int32 => f_X10_led_L9 sh ln v1 μ z.1 z.2) (v2, v3) = some res → Wd D (faB oa aa sh) (feB tc oa aa sh ln) A s.heap μ H locs → lv_has ls 4 [(0, .ref (oa (0, 0))), (1, .int v1), (2, .int v2), (3, .int v3)] → W p l e (rmq 2 44) s m args below meth c H locs 0 0 Q (F0 m 9 ls []) := by
    intro v2 v3 H locs ls hf hW hl
    refine Wh_rule hf (fun z : Int32 × Int32 => ∀ (H : Heap) (locs : List Loc) (ls : Array Slot), Wd D (faB oa aa sh) (feB tc oa aa sh ln) A s.heap μ H locs → lv_has ls 4 [(0, .ref (oa (0, 0))), (1, .int v1), (2, .int z.1), (3, .int z.2)] → W p l e (rmq 2 44) s m args below meth c H locs 0 0 Q (F0 m 9 ls [])) (fun z o1 hf Kl1 Kr1 => ?_) _ _ _ hW hl
    obtain ⟨v2, v3⟩ := z
    intro H locs ls hW hl
    have hf : f_X10_led_L9 sh ln v1 μ v2 v3 = some o1 := hf
    unfold f_X10_led_L9 at hf
    have hW : Wd D (faB oa aa sh) (feB tc oa aa sh ln) A s.heap μ H locs := hW
    have hl : lv_has ls 4 [(0, .ref (oa (0, 0))), (1, .int v1), (2, .int v2), (3, .int v3)] := hl
    refine lv_iload_n hx hb dX10_led_9 rfl (lv_at hl 3 rfl) ?_
    refine lv_aload_n hx hb dX10_led_10 rfl (lv_at hl 0 rfl) ?_
    refine gf_X10_60 C hW dX10_led_11 ?_
    obtain ⟨hq1, hf⟩ := ce_of hf
    refine gf_X10_353 C hW hq1 dX10_led_14 ?_
    refine lv_icmp_ge (tgt := 46) hx hb dX10_led_17 (by decide) (fun c2 => ?_) (fun c2 => ?_)
    · have hf := (if_pos c2).symm.trans hf
      obtain ⟨x9003, hf, hx9003⟩ := map_of hf
      have e9003 := (Kr1 _ hx9003.symm).symm
      subst e9003
      refine lv_iload_n hx hb dX10_led_46 rfl (lv_at hl 2 rfl) ?_
      obtain rfl := Option.some.inj hf
      rw [hQ]
      exact r_iret C hr hk hW rfl rfl dX10_led_47
    · have hf := (if_neg c2).symm.trans hf
      refine lv_aload_n hx hb dX10_led_20 rfl (lv_at hl 0 rfl) ?_
      refine gf_X10_60 C hW dX10_led_21 ?_
      obtain ⟨hq4, hf⟩ := ce_of hf
      refine lv_iload_n hx hb dX10_led_24 rfl (lv_at hl 3 rfl) ?_
      refine lv_iconst (v := 4) hx hb dX10_led_25 (by decide) ?_
      obtain ⟨x26, h26, hf⟩ := bd_of hf
      refine r_callV (k := ((13, (μ (0, 0) 9).toNatClampNeg) : Ky)) C hW hl lk_X10_356 (c_X6_noted hwf hq4 h26) ⟨rfl, rfl⟩ ⟨Nat.le_of_ble_eq_true rfl, Nat.le_of_ble_eq_true rfl⟩ rfl (faB_13 hq4) rfl (As := [.int v3, .int (4 : Int32)]) (rest := []) rfl rfl (Nat.le_of_ble_eq_true rfl) dX10_led_26 ⟨Nat.zero_le _, Nat.zero_le _⟩ (fun H locs hW => ?_)
      show W p l e (rmq 2 44) s m args below meth c H locs 0 0 Q (F0 m 29 ls [.int x26])
      refine lv_iload_n hx hb dX10_led_29 rfl (lv_at hl 1 rfl) ?_
      refine lv_ishr hx hb dX10_led_30 ?_
      refine lv_iconst (v := 1) hx hb dX10_led_31 (by decide) ?_
      refine lv_iand hx hb dX10_led_32 ?_
      refine lv_if_ne (tgt := 38) hx hb dX10_led_33 (by decide) (fun c5 => ?_) (fun c5 => ?_)
      · have hf := (if_neg c5).symm.trans hf
        refine lv_iload_n hx hb dX10_led_38 rfl (lv_at hl 3 rfl) ?_
        refine lv_istore_n (lv' := [(2, .int v3), (0, .ref (oa (0, 0))), (1, .int v1), (3, .int v3)]) hx hb dX10_led_39 rfl hl (by decide) rfl (fun ls hl => ?_)
        refine lv_iinc (v := (v3 + (1 : Int32))) (lv' := [(3, .int (v3 + (1 : Int32))), (2, .int v3), (0, .ref (oa (0, 0))), (1, .int v1)]) hx hb dX10_led_40 hl (k := 3) rfl rfl (by decide) rfl (fun ls hl => ?_)
        refine lv_goto (tgt := 9) hx hb dX10_led_43 (by decide) ?_
        obtain rfl := Option.some.inj hf
        exact Kl1 _ rfl _ _ _ hW (lv_sub hl [2, 3, 1, 0] rfl)
      · have hf := (if_pos c5).symm.trans hf
        obtain ⟨x9006, hf, hx9006⟩ := map_of hf
        have e9006 := (Kr1 _ hx9006.symm).symm
        subst e9006
        refine lv_iload_n hx hb dX10_led_36 rfl (lv_at hl 2 rfl) ?_
        obtain rfl := Option.some.inj hf
        rw [hQ]
        exact r_iret C hr hk hW rfl rfl dX10_led_37
  exact L9 (-1 : Int32) (0 : Int32) _ _ _ hf hW (lv_sub hl [2, 3, 1, 0] rfl)
set_option maxHeartbeats 4000000 in
set_option maxRecDepth 100000 in
theorem c_X10_widest {l : Launch} {D : va_G} {tc : Nat → ClassId} {ro : Ro} {oa : Ky → Nat} {aa : Nat → Nat} {sh : Sh} {ln : Nat → Nat} {μ : Mm} {res : Int32} (hwf : WfS sh) (hf : f_X10_widest sh ln μ = some res) : Ct l D tc ro (faB oa aa sh) (feB tc oa aa sh ln) yX10_widest cX10_widest 5 (some .int) (rmq 4 90) [.ref (oa (0, 0))] μ (some (.int res)) μ := by
  refine Ct.of (by decide) (Nat.le_of_ble_eq_true rfl) (fun p e s m args below meth c A C hr hk hW ls hl => ?_)
  have hx := C.1.1
  have hb := C.1.2.1
  obtain ⟨Q, hQ⟩ : ∃ Q, Q = MQ below (Ctq D (faB oa aa sh) (feB tc oa aa sh ln) (some (.int res)) μ A) args s 0 0 A := ⟨_, rfl⟩
  rw [← hQ]
  have hl : lv_has ls 5 [(0, .ref (oa (0, 0)))] := hl
  unfold f_X10_widest at hf
  refine lv_iconst (v := -1) hx hb dX10_widest_0 (by decide) ?_
  refine lv_istore_n (lv' := [(1, .int (-1 : Int32)), (0, .ref (oa (0, 0)))]) hx hb dX10_widest_1 rfl hl (by decide) rfl (fun ls hl => ?_)
  refine lv_iconst (v := 0) hx hb dX10_widest_2 (by decide) ?_
  refine lv_istore_n (lv' := [(2, .int (0 : Int32)), (1, .int (-1 : Int32)), (0, .ref (oa (0, 0)))]) hx hb dX10_widest_3 rfl hl (by decide) rfl (fun ls hl => ?_)
  refine lv_iconst (v := 0) hx hb dX10_widest_4 (by decide) ?_
  refine lv_istore_n (lv' := [(3, .int (0 : Int32)), (2, .int (0 : Int32)), (1, .int (-1 : Int32)), (0, .ref (oa (0, 0)))]) hx hb dX10_widest_5 rfl hl (by decide) rfl (fun ls hl => ?_)
  have L6 : ∀ (v1 v2 v3 : Int32) (H : Heap) (locs : List Loc) (ls : Array Slot), Wh (fun z : Int32 × Int32 × Int32 => f_X10_widest_L6 sh ln μ z.1 z.2.1 z.2.2) (v1, v2, v3) = some res → Wd D (faB oa aa sh) (feB tc oa aa sh ln) A s.heap μ H locs → lv_has ls 5 [(0, .ref (oa (0, 0))), (1, .int v1), (2, .int v2), (3, .int v3)] → W p l e (rmq 4 90) s m args below meth c H locs 0 0 Q (F0 m 6 ls []) := by
    intro v1 v2 v3 H locs ls hf hW hl
    refine Wh_rule hf (fun z : Int32 × Int32 × Int32 => ∀ (H : Heap) (locs : List Loc) (ls : Array Slot), Wd D (faB oa aa sh) (feB tc oa aa sh ln) A s.heap μ H locs → lv_has ls 5 [(0, .ref (oa (0, 0))), (1, .int z.1), (2, .int z.2.1), (3, .int z.2.2)] → W p l e (rmq 4 90) s m args below meth c H locs 0 0 Q (F0 m 6 ls [])) (fun z o1 hf Kl1 Kr1 => ?_) _ _ _ hW hl
    obtain ⟨v1, v2, v3⟩ := z
    intro H locs ls hW hl
    have hf : f_X10_widest_L6 sh ln μ v1 v2 v3 = some o1 := hf
    unfold f_X10_widest_L6 at hf
    have hW : Wd D (faB oa aa sh) (feB tc oa aa sh ln) A s.heap μ H locs := hW
    have hl : lv_has ls 5 [(0, .ref (oa (0, 0))), (1, .int v1), (2, .int v2), (3, .int v3)] := hl
    refine lv_iload_n hx hb dX10_widest_6 rfl (lv_at hl 3 rfl) ?_
    refine lv_aload_n hx hb dX10_widest_7 rfl (lv_at hl 0 rfl) ?_
    refine gf_X10_60 C hW dX10_widest_8 ?_
    obtain ⟨hq1, hf⟩ := ce_of hf
    refine gf_X10_293 C hW hq1 dX10_widest_11 ?_
    refine lv_icmp_ge (tgt := 48) hx hb dX10_widest_14 (by decide) (fun c2 => ?_) (fun c2 => ?_)
    · have hf := (if_pos c2).symm.trans hf
      obtain ⟨x9003, hf, hx9003⟩ := map_of hf
      have e9003 := (Kr1 _ hx9003.symm).symm
      subst e9003
      refine lv_iload_n hx hb dX10_widest_48 rfl (lv_at hl 1 rfl) ?_
      obtain rfl := Option.some.inj hf
      rw [hQ]
      exact r_iret C hr hk hW rfl rfl dX10_widest_49
    · have hf := (if_neg c2).symm.trans hf
      refine lv_aload_n hx hb dX10_widest_17 rfl (lv_at hl 0 rfl) ?_
      refine gf_X10_19 C hW dX10_widest_18 ?_
      refine lv_aload_n hx hb dX10_widest_21 rfl (lv_at hl 0 rfl) ?_
      refine gf_X10_60 C hW dX10_widest_22 ?_
      obtain ⟨hq4, hf⟩ := ce_of hf
      refine lv_iload_n hx hb dX10_widest_25 rfl (lv_at hl 3 rfl) ?_
      obtain ⟨x26, h26, hf⟩ := bd_of hf
      refine r_callV (k := ((3, 0) : Ky)) C hW hl lk_X10_170 (c_X4_holds hwf hq4 h26) ⟨rfl, rfl⟩ ⟨Nat.le_of_ble_eq_true rfl, Nat.le_of_ble_eq_true rfl⟩ rfl rfl rfl (As := [.ref (oa (13, (μ (0, 0) 9).toNatClampNeg)), .int v3]) (rest := []) rfl rfl (Nat.le_of_ble_eq_true rfl) dX10_widest_26 ⟨Nat.zero_le _, Nat.zero_le _⟩ (fun H locs hW => ?_)
      show W p l e (rmq 4 90) s m args below meth c H locs 0 0 Q (F0 m 29 ls [.int x26])
      refine lv_istore (lv' := [(4, .int x26), (0, .ref (oa (0, 0))), (1, .int v1), (2, .int v2), (3, .int v3)]) hx hb dX10_widest_29 hl (by decide) rfl (fun ls hl => ?_)
      refine lv_iload hx hb dX10_widest_31 (lv_at hl 0 rfl) ?_
      refine lv_iload_n hx hb dX10_widest_33 rfl (lv_at hl 3 rfl) ?_
      refine lv_icmp_le (tgt := 42) hx hb dX10_widest_34 (by decide) (fun c5 => ?_) (fun c5 => ?_)
      · have hf := (if_pos c5).symm.trans hf
        refine lv_iinc (v := (v3 + (1 : Int32))) (lv' := [(3, .int (v3 + (1 : Int32))), (4, .int x26), (0, .ref (oa (0, 0))), (1, .int v1), (2, .int v2)]) hx hb dX10_widest_42 hl (k := 4) rfl rfl (by decide) rfl (fun ls hl => ?_)
        refine lv_goto (tgt := 6) hx hb dX10_widest_45 (by decide) ?_
        obtain rfl := Option.some.inj hf
        exact Kl1 _ rfl _ _ _ hW (lv_sub hl [2, 3, 4, 0] rfl)
      · have hf := (if_neg c5).symm.trans hf
        refine lv_iload hx hb dX10_widest_37 (lv_at hl 0 rfl) ?_
        refine lv_istore_n (lv' := [(2, .int x26), (4, .int x26), (0, .ref (oa (0, 0))), (1, .int v1), (3, .int v3)]) hx hb dX10_widest_39 rfl hl (by decide) rfl (fun ls hl => ?_)
        refine lv_iload_n hx hb dX10_widest_40 rfl (lv_at hl 4 rfl) ?_
        refine lv_istore_n (lv' := [(1, .int v3), (2, .int x26), (4, .int x26), (0, .ref (oa (0, 0))), (3, .int v3)]) hx hb dX10_widest_41 rfl hl (by decide) rfl (fun ls hl => ?_)
        refine lv_iinc (v := (v3 + (1 : Int32))) (lv' := [(3, .int (v3 + (1 : Int32))), (1, .int v3), (2, .int x26), (4, .int x26), (0, .ref (oa (0, 0)))]) hx hb dX10_widest_42 hl (k := 4) rfl rfl (by decide) rfl (fun ls hl => ?_)
        refine lv_goto (tgt := 6) hx hb dX10_widest_45 (by decide) ?_
        obtain rfl := Option.some.inj hf
        exact Kl1 _ rfl _ _ _ hW (lv_sub hl [4, 1, 2, 0] rfl)
  exact L6 (-1 : Int32) (0 : Int32) (0 : Int32) _ _ _ hf hW (lv_sub hl [3, 2, 1, 0] rfl)
set_option maxHeartbeats 4000000 in
set_option maxRecDepth 100000 in
theorem c_X10_under {l : Launch} {D : va_G} {tc : Nat → ClassId} {ro : Ro} {oa : Ky → Nat} {aa : Nat → Nat} {sh : Sh} {ln : Nat → Nat} {μ : Mm} {res : Int32} (hwf : WfS sh) (hf : f_X10_under sh ln μ = some res) : Ct l D tc ro (faB oa aa sh) (feB tc oa aa sh ln) yX10_under cX10_under 5 (some .int) (rmq 4 96) [.ref (oa (0, 0))] μ (some (.int res)) μ := by
  refine Ct.of (by decide) (Nat.le_of_ble_eq_true rfl) (fun p e s m args below meth c A C hr hk hW ls hl => ?_)
  have hx := C.1.1
  have hb := C.1.2.1
  obtain ⟨Q, hQ⟩ : ∃ Q, Q = MQ below (Ctq D (faB oa aa sh) (feB tc oa aa sh ln) (some (.int res)) μ A) args s 0 0 A := ⟨_, rfl⟩
  rw [← hQ]
  have hl : lv_has ls 5 [(0, .ref (oa (0, 0)))] := hl
  unfold f_X10_under at hf
  refine lv_iconst (v := -1) hx hb dX10_under_0 (by decide) ?_
  refine lv_istore_n (lv' := [(1, .int (-1 : Int32)), (0, .ref (oa (0, 0)))]) hx hb dX10_under_1 rfl hl (by decide) rfl (fun ls hl => ?_)
  refine lv_iconst (v := 0) hx hb dX10_under_2 (by decide) ?_
  refine lv_istore_n (lv' := [(2, .int (0 : Int32)), (1, .int (-1 : Int32)), (0, .ref (oa (0, 0)))]) hx hb dX10_under_3 rfl hl (by decide) rfl (fun ls hl => ?_)
  refine lv_iconst (v := 0) hx hb dX10_under_4 (by decide) ?_
  refine lv_istore_n (lv' := [(3, .int (0 : Int32)), (2, .int (0 : Int32)), (1, .int (-1 : Int32)), (0, .ref (oa (0, 0)))]) hx hb dX10_under_5 rfl hl (by decide) rfl (fun ls hl => ?_)
  have L6 : ∀ (v1 v2 v3 : Int32) (H : Heap) (locs : List Loc) (ls : Array Slot), Wh (fun z : Int32 × Int32 × Int32 => f_X10_under_L6 sh ln μ z.1 z.2.1 z.2.2) (v1, v2, v3) = some res → Wd D (faB oa aa sh) (feB tc oa aa sh ln) A s.heap μ H locs → lv_has ls 5 [(0, .ref (oa (0, 0))), (1, .int v1), (2, .int v2), (3, .int v3)] → W p l e (rmq 4 96) s m args below meth c H locs 0 0 Q (F0 m 6 ls []) := by
    intro v1 v2 v3 H locs ls hf hW hl
    refine Wh_rule hf (fun z : Int32 × Int32 × Int32 => ∀ (H : Heap) (locs : List Loc) (ls : Array Slot), Wd D (faB oa aa sh) (feB tc oa aa sh ln) A s.heap μ H locs → lv_has ls 5 [(0, .ref (oa (0, 0))), (1, .int z.1), (2, .int z.2.1), (3, .int z.2.2)] → W p l e (rmq 4 96) s m args below meth c H locs 0 0 Q (F0 m 6 ls [])) (fun z o1 hf Kl1 Kr1 => ?_) _ _ _ hW hl
    obtain ⟨v1, v2, v3⟩ := z
    intro H locs ls hW hl
    have hf : f_X10_under_L6 sh ln μ v1 v2 v3 = some o1 := hf
    unfold f_X10_under_L6 at hf
    have hW : Wd D (faB oa aa sh) (feB tc oa aa sh ln) A s.heap μ H locs := hW
    have hl : lv_has ls 5 [(0, .ref (oa (0, 0))), (1, .int v1), (2, .int v2), (3, .int v3)] := hl
    refine lv_iload_n hx hb dX10_under_6 rfl (lv_at hl 3 rfl) ?_
    refine lv_aload_n hx hb dX10_under_7 rfl (lv_at hl 0 rfl) ?_
    refine gf_X10_60 C hW dX10_under_8 ?_
    obtain ⟨hq1, hf⟩ := ce_of hf
    refine gf_X10_293 C hW hq1 dX10_under_11 ?_
    refine lv_icmp_ge (tgt := 53) hx hb dX10_under_14 (by decide) (fun c2 => ?_) (fun c2 => ?_)
    · have hf := (if_pos c2).symm.trans hf
      obtain ⟨x9003, hf, hx9003⟩ := map_of hf
      have e9003 := (Kr1 _ hx9003.symm).symm
      subst e9003
      refine lv_iload_n hx hb dX10_under_53 rfl (lv_at hl 1 rfl) ?_
      obtain rfl := Option.some.inj hf
      rw [hQ]
      exact r_iret C hr hk hW rfl rfl dX10_under_54
    · have hf := (if_neg c2).symm.trans hf
      refine lv_aload_n hx hb dX10_under_17 rfl (lv_at hl 0 rfl) ?_
      refine gf_X10_19 C hW dX10_under_18 ?_
      refine lv_aload_n hx hb dX10_under_21 rfl (lv_at hl 0 rfl) ?_
      refine gf_X10_60 C hW dX10_under_22 ?_
      obtain ⟨hq4, hf⟩ := ce_of hf
      refine lv_iload_n hx hb dX10_under_25 rfl (lv_at hl 3 rfl) ?_
      obtain ⟨x26, h26, hf⟩ := bd_of hf
      refine r_callV (k := ((3, 0) : Ky)) C hW hl lk_X10_359 (c_X4_manyPossible hwf hq4 h26) ⟨rfl, rfl⟩ ⟨Nat.le_of_ble_eq_true rfl, Nat.le_of_ble_eq_true rfl⟩ rfl rfl rfl (As := [.ref (oa (13, (μ (0, 0) 9).toNatClampNeg)), .int v3]) (rest := []) rfl rfl (Nat.le_of_ble_eq_true rfl) dX10_under_26 ⟨Nat.zero_le _, Nat.zero_le _⟩ (fun H locs hW => ?_)
      show W p l e (rmq 4 96) s m args below meth c H locs 0 0 Q (F0 m 29 ls [.int x26])
      refine lv_istore (lv' := [(4, .int x26), (0, .ref (oa (0, 0))), (1, .int v1), (2, .int v2), (3, .int v3)]) hx hb dX10_under_29 hl (by decide) rfl (fun ls hl => ?_)
      refine lv_iload_n hx hb dX10_under_31 rfl (lv_at hl 2 rfl) ?_
      refine lv_iconst (v := -1) hx hb dX10_under_32 (by decide) ?_
      refine lv_icmp_eq (tgt := 42) hx hb dX10_under_33 (by decide) (fun c5 => ?_) (fun c5 => ?_)
      · have hf := (if_pos c5).symm.trans hf
        refine lv_iload hx hb dX10_under_42 (lv_at hl 0 rfl) ?_
        refine lv_istore_n (lv' := [(2, .int x26), (4, .int x26), (0, .ref (oa (0, 0))), (1, .int v1), (3, .int v3)]) hx hb dX10_under_44 rfl hl (by decide) rfl (fun ls hl => ?_)
        refine lv_iload_n hx hb dX10_under_45 rfl (lv_at hl 4 rfl) ?_
        refine lv_istore_n (lv' := [(1, .int v3), (2, .int x26), (4, .int x26), (0, .ref (oa (0, 0))), (3, .int v3)]) hx hb dX10_under_46 rfl hl (by decide) rfl (fun ls hl => ?_)
        refine lv_iinc (v := (v3 + (1 : Int32))) (lv' := [(3, .int (v3 + (1 : Int32))), (1, .int v3), (2, .int x26), (4, .int x26), (0, .ref (oa (0, 0)))]) hx hb dX10_under_47 hl (k := 4) rfl rfl (by decide) rfl (fun ls hl => ?_)
        refine lv_goto (tgt := 6) hx hb dX10_under_50 (by decide) ?_
        obtain rfl := Option.some.inj hf
        exact Kl1 _ rfl _ _ _ hW (lv_sub hl [4, 1, 2, 0] rfl)
      · have hf := (if_neg c5).symm.trans hf
        refine lv_iload hx hb dX10_under_36 (lv_at hl 0 rfl) ?_
        refine lv_iload_n hx hb dX10_under_38 rfl (lv_at hl 3 rfl) ?_
        refine lv_icmp_ge (tgt := 47) hx hb dX10_under_39 (by decide) (fun c6 => ?_) (fun c6 => ?_)
        · have hf := (if_pos c6).symm.trans hf
          refine lv_iinc (v := (v3 + (1 : Int32))) (lv' := [(3, .int (v3 + (1 : Int32))), (4, .int x26), (0, .ref (oa (0, 0))), (1, .int v1), (2, .int v2)]) hx hb dX10_under_47 hl (k := 4) rfl rfl (by decide) rfl (fun ls hl => ?_)
          refine lv_goto (tgt := 6) hx hb dX10_under_50 (by decide) ?_
          obtain rfl := Option.some.inj hf
          exact Kl1 _ rfl _ _ _ hW (lv_sub hl [2, 3, 4, 0] rfl)
        · have hf := (if_neg c6).symm.trans hf
          refine lv_iload hx hb dX10_under_42 (lv_at hl 0 rfl) ?_
          refine lv_istore_n (lv' := [(2, .int x26), (4, .int x26), (0, .ref (oa (0, 0))), (1, .int v1), (3, .int v3)]) hx hb dX10_under_44 rfl hl (by decide) rfl (fun ls hl => ?_)
          refine lv_iload_n hx hb dX10_under_45 rfl (lv_at hl 4 rfl) ?_
          refine lv_istore_n (lv' := [(1, .int v3), (2, .int x26), (4, .int x26), (0, .ref (oa (0, 0))), (3, .int v3)]) hx hb dX10_under_46 rfl hl (by decide) rfl (fun ls hl => ?_)
          refine lv_iinc (v := (v3 + (1 : Int32))) (lv' := [(3, .int (v3 + (1 : Int32))), (1, .int v3), (2, .int x26), (4, .int x26), (0, .ref (oa (0, 0)))]) hx hb dX10_under_47 hl (k := 4) rfl rfl (by decide) rfl (fun ls hl => ?_)
          refine lv_goto (tgt := 6) hx hb dX10_under_50 (by decide) ?_
          obtain rfl := Option.some.inj hf
          exact Kl1 _ rfl _ _ _ hW (lv_sub hl [4, 1, 2, 0] rfl)
  exact L6 (-1 : Int32) (0 : Int32) (0 : Int32) _ _ _ hf hW (lv_sub hl [3, 2, 1, 0] rfl)
set_option maxHeartbeats 4000000 in
set_option maxRecDepth 100000 in
theorem c_X10_log {l : Launch} {D : va_G} {tc : Nat → ClassId} {ro : Ro} {oa : Ky → Nat} {aa : Nat → Nat} {sh : Sh} {ln : Nat → Nat} {μ : Mm} {v1 v2 : Int32} {res : Int32} (hwf : WfS sh) (hf : f_X10_log sh ln μ v1 v2 = some res) : Ct l D tc ro (faB oa aa sh) (feB tc oa aa sh ln) yX10_log cX10_log 3 (some .int) (rmq 2 44) [.ref (oa (0, 0)), .int v1, .int v2] μ (some (.int res)) μ := by
  refine Ct.of (by decide) (Nat.le_of_ble_eq_true rfl) (fun p e s m args below meth c A C hr hk hW ls hl => ?_)
  have hx := C.1.1
  have hb := C.1.2.1
  obtain ⟨Q, hQ⟩ : ∃ Q, Q = MQ below (Ctq D (faB oa aa sh) (feB tc oa aa sh ln) (some (.int res)) μ A) args s 0 0 A := ⟨_, rfl⟩
  rw [← hQ]
  have hl : lv_has ls 3 [(0, .ref (oa (0, 0))), (1, .int v1), (2, .int v2)] := hl
  unfold f_X10_log at hf
  refine lv_iload_n hx hb dX10_log_0 rfl (lv_at hl 2 rfl) ?_
  refine lv_if_lt (tgt := 9) hx hb dX10_log_1 (by decide) (fun c1 => ?_) (fun c1 => ?_)
  · have hf := (if_pos c1).symm.trans hf
    cases hf
  · have hf := (if_neg c1).symm.trans hf
    refine lv_iload_n hx hb dX10_log_4 rfl (lv_at hl 2 rfl) ?_
    refine lv_iconst (v := 5) hx hb dX10_log_5 (by decide) ?_
    refine lv_icmp_lt (tgt := 20) hx hb dX10_log_6 (by decide) (fun c2 => ?_) (fun c2 => ?_)
    · have hf := (if_pos c2).symm.trans hf
      refine lv_aload_n hx hb dX10_log_20 rfl (lv_at hl 0 rfl) ?_
      refine gf_X10_60 C hW dX10_log_21 ?_
      obtain ⟨hq3, hf⟩ := ce_of hf
      refine lv_iload_n hx hb dX10_log_24 rfl (lv_at hl 1 rfl) ?_
      refine lv_iload_n hx hb dX10_log_25 rfl (lv_at hl 2 rfl) ?_
      obtain ⟨x26, h26, hf⟩ := bd_of hf
      refine r_callV (k := ((13, (μ (0, 0) 9).toNatClampNeg) : Ky)) C hW hl lk_X10_356 (c_X6_noted hwf hq3 h26) ⟨rfl, rfl⟩ ⟨Nat.le_of_ble_eq_true rfl, Nat.le_of_ble_eq_true rfl⟩ rfl (faB_13 hq3) rfl (As := [.int v1, .int v2]) (rest := []) rfl rfl (Nat.le_of_ble_eq_true rfl) dX10_log_26 ⟨Nat.zero_le _, Nat.zero_le _⟩ (fun H locs hW => ?_)
      show W p l e (rmq 2 44) s m args below meth c H locs 0 0 Q (F0 m 29 ls [.int x26])
      obtain rfl := Option.some.inj hf
      rw [hQ]
      exact r_iret C hr hk hW rfl rfl dX10_log_29
    · have hf := (if_neg c2).symm.trans hf
      cases hf
set_option maxHeartbeats 4000000 in
set_option maxRecDepth 100000 in
theorem c_X10_seed {l : Launch} {D : va_G} {tc : Nat → ClassId} {ro : Ro} {oa : Ky → Nat} {aa : Nat → Nat} {sh : Sh} {ln : Nat → Nat} {μ : Mm} {v1 : Int32} {res : Int32 × Mm} (hwf : WfS sh) (hf : f_X10_seed sh ln μ v1 = some res) : Ct l D tc ro (faB oa aa sh) (feB tc oa aa sh ln) yX10_seed cX10_seed 3 (some .int) (rmq 0 0) [.ref (oa (0, 0)), .int v1] μ (some (.int res.1)) res.2 := by
  refine Ct.of (by decide) (Nat.le_of_ble_eq_true rfl) (fun p e s m args below meth c A C hr hk hW ls hl => ?_)
  have hx := C.1.1
  have hb := C.1.2.1
  obtain ⟨Q, hQ⟩ : ∃ Q, Q = MQ below (Ctq D (faB oa aa sh) (feB tc oa aa sh ln) (some (.int res.1)) res.2 A) args s 0 0 A := ⟨_, rfl⟩
  rw [← hQ]
  have hl : lv_has ls 3 [(0, .ref (oa (0, 0))), (1, .int v1)] := hl
  unfold f_X10_seed at hf
  refine lv_aload_n hx hb dX10_seed_0 rfl (lv_at hl 0 rfl) ?_
  refine gf_X10_60 C hW dX10_seed_1 ?_
  obtain ⟨hq1, hf⟩ := ce_of hf
  refine gf_X10_303 C hW hq1 dX10_seed_4 ?_
  refine lv_istore_n (lv' := [(2, .int (μ (13, (μ (0, 0) 9).toNatClampNeg) 5)), (0, .ref (oa (0, 0))), (1, .int v1)]) hx hb dX10_seed_7 rfl hl (by decide) rfl (fun ls hl => ?_)
  refine lv_aload_n hx hb dX10_seed_8 rfl (lv_at hl 1 rfl) ?_
  refine gf_X10_60 C hW dX10_seed_9 ?_
  obtain ⟨hq2, hf⟩ := ce_of hf
  refine lv_iload_n hx hb dX10_seed_12 rfl (lv_at hl 2 rfl) ?_
  refine pf_X10_303 C hW hq2 dX10_seed_13 (fun H locs hW => ?_)
  refine lv_iload_n hx hb dX10_seed_16 rfl (lv_at hl 0 rfl) ?_
  obtain rfl := Option.some.inj hf
  rw [hQ]
  exact r_iret C hr hk hW rfl rfl dX10_seed_17
set_option maxHeartbeats 4000000 in
set_option maxRecDepth 100000 in
theorem c_X10_undo {l : Launch} {D : va_G} {tc : Nat → ClassId} {ro : Ro} {oa : Ky → Nat} {aa : Nat → Nat} {sh : Sh} {ln : Nat → Nat} {μ : Mm} {res : Int32 × Mm} (hwf : WfS sh) (hf : f_X10_undo sh ln μ = some res) : Ct l D tc ro (faB oa aa sh) (feB tc oa aa sh ln) yX10_undo cX10_undo 1 (some .boolean) (rmq 4 104) [.ref (oa (0, 0))] μ (some (.int res.1)) res.2 := by
  refine Ct.of (by decide) (Nat.le_of_ble_eq_true rfl) (fun p e s m args below meth c A C hr hk hW ls hl => ?_)
  have hx := C.1.1
  have hb := C.1.2.1
  obtain ⟨Q, hQ⟩ : ∃ Q, Q = MQ below (Ctq D (faB oa aa sh) (feB tc oa aa sh ln) (some (.int res.1)) res.2 A) args s 0 0 A := ⟨_, rfl⟩
  rw [← hQ]
  have hl : lv_has ls 1 [(0, .ref (oa (0, 0)))] := hl
  unfold f_X10_undo at hf
  refine lv_aload_n hx hb dX10_undo_0 rfl (lv_at hl 0 rfl) ?_
  refine gf_X10_364 C hW dX10_undo_1 ?_
  refine lv_iconst (v := 1) hx hb dX10_undo_4 (by decide) ?_
  refine lv_icmp_ge (tgt := 10) hx hb dX10_undo_5 (by decide) (fun c1 => ?_) (fun c1 => ?_)
  · have hf := (if_pos c1).symm.trans hf
    refine lv_aload_n hx hb dX10_undo_10 rfl (lv_at hl 0 rfl) ?_
    refine lv_dup hx hb dX10_undo_11 rfl ?_
    refine gf_X10_364 C hW dX10_undo_12 ?_
    refine lv_iconst (v := 1) hx hb dX10_undo_15 (by decide) ?_
    refine lv_isub hx hb dX10_undo_16 ?_
    refine pf_X10_364 C hW dX10_undo_17 (fun H locs hW => ?_)
    refine lv_aload_n hx hb dX10_undo_20 rfl (lv_at hl 0 rfl) ?_
    refine lv_aload_n hx hb dX10_undo_21 rfl (lv_at hl 0 rfl) ?_
    refine gf_X10_367 C hW dX10_undo_22 ?_
    refine lv_if_le (tgt := 37) hx hb dX10_undo_25 (by decide) (fun c2 => ?_) (fun c2 => ?_)
    · have hf := (if_pos c2).symm.trans hf
      refine lv_bipush (v := 7) hx hb dX10_undo_37 (by decide) ?_
      refine pf_X10_367 C hW dX10_undo_39 (fun H locs hW => ?_)
      refine lv_aload_n hx hb dX10_undo_42 rfl (lv_at hl 0 rfl) ?_
      refine gf_X10_60 C hW dX10_undo_43 ?_
      obtain ⟨hq3, hf⟩ := ce_of hf
      refine lv_aload_n hx hb dX10_undo_46 rfl (lv_at hl 0 rfl) ?_
      refine lv_aload_n hx hb dX10_undo_47 rfl (lv_at hl 0 rfl) ?_
      refine gf_X10_367 C hW dX10_undo_48 ?_
      obtain ⟨x51, h51, hf⟩ := bd_of hf
      refine r_callV (k := ((0, 0) : Ky)) C hW hl lk_X10_370 (c_X10_pastAt hwf h51) ⟨rfl, rfl⟩ ⟨Nat.le_of_ble_eq_true rfl, Nat.le_of_ble_eq_true rfl⟩ rfl rfl rfl (As := [.int ((mst (mst μ (0, 0) 8 ((μ (0, 0) 8) - (1 : Int32))) (0, 0) 7 (7 : Int32)) (0, 0) 7)]) (rest := [.ref (oa (13, ((mst (mst μ (0, 0) 8 ((μ (0, 0) 8) - (1 : Int32))) (0, 0) 7 (7 : Int32)) (0, 0) 9).toNatClampNeg))]) rfl rfl (Nat.le_of_ble_eq_true rfl) dX10_undo_51 ⟨Nat.zero_le _, Nat.zero_le _⟩ (fun H locs hW => ?_)
      show W p l e (rmq 4 104) s m args below meth c H locs 0 0 Q (F0 m 54 ls [.ref (oa (13, x51.1)), .ref (oa (13, ((mst (mst μ (0, 0) 8 ((μ (0, 0) 8) - (1 : Int32))) (0, 0) 7 (7 : Int32)) (0, 0) 9).toNatClampNeg))])
      obtain ⟨hq4, hf⟩ := ce_of hf
      obtain ⟨x54, h54, hf⟩ := bd_of hf
      refine r_callV (k := ((13, ((mst (mst μ (0, 0) 8 ((μ (0, 0) 8) - (1 : Int32))) (0, 0) 7 (7 : Int32)) (0, 0) 9).toNatClampNeg) : Ky)) C hW hl lk_X10_89 (c_X6_become hwf hq3 hq4 h54) ⟨rfl, rfl⟩ ⟨Nat.le_of_ble_eq_true rfl, Nat.le_of_ble_eq_true rfl⟩ rfl (faB_13 hq3) rfl (As := [.ref (oa (13, x51.1))]) (rest := []) rfl rfl (Nat.le_of_ble_eq_true rfl) dX10_undo_54 ⟨Nat.zero_le _, Nat.zero_le _⟩ (fun H locs hW => ?_)
      show W p l e (rmq 4 104) s m args below meth c H locs 0 0 Q (F0 m 57 ls [])
      refine lv_aload_n hx hb dX10_undo_57 rfl (lv_at hl 0 rfl) ?_
      refine gf_X10_60 C hW dX10_undo_58 ?_
      obtain ⟨hq5, hf⟩ := ce_of hf
      refine lv_iconst (v := 1) hx hb dX10_undo_61 (by decide) ?_
      refine pf_X10_374 C hW hq5 rfl rfl dX10_undo_62 (fun H locs hW => ?_)
      refine lv_iconst (v := 1) hx hb dX10_undo_65 (by decide) ?_
      obtain rfl := Option.some.inj hf
      rw [hQ]
      exact r_zret C hr hk hW (Or.inr rfl) rfl rfl dX10_undo_66
    · have hf := (if_neg c2).symm.trans hf
      refine lv_aload_n hx hb dX10_undo_28 rfl (lv_at hl 0 rfl) ?_
      refine gf_X10_367 C hW dX10_undo_29 ?_
      refine lv_iconst (v := 1) hx hb dX10_undo_32 (by decide) ?_
      refine lv_isub hx hb dX10_undo_33 ?_
      refine lv_goto (tgt := 39) hx hb dX10_undo_34 (by decide) ?_
      refine pf_X10_367 C hW dX10_undo_39 (fun H locs hW => ?_)
      obtain ⟨μ6, hm6, hf⟩ := bd_of hf
      rw [Option.some.inj hm6] at hW
      refine lv_aload_n hx hb dX10_undo_42 rfl (lv_at hl 0 rfl) ?_
      refine gf_X10_60 C hW dX10_undo_43 ?_
      obtain ⟨hq7, hf⟩ := ce_of hf
      refine lv_aload_n hx hb dX10_undo_46 rfl (lv_at hl 0 rfl) ?_
      refine lv_aload_n hx hb dX10_undo_47 rfl (lv_at hl 0 rfl) ?_
      refine gf_X10_367 C hW dX10_undo_48 ?_
      obtain ⟨x51, h51, hf⟩ := bd_of hf
      refine r_callV (k := ((0, 0) : Ky)) C hW hl lk_X10_370 (c_X10_pastAt hwf h51) ⟨rfl, rfl⟩ ⟨Nat.le_of_ble_eq_true rfl, Nat.le_of_ble_eq_true rfl⟩ rfl rfl rfl (As := [.int (μ6 (0, 0) 7)]) (rest := [.ref (oa (13, (μ6 (0, 0) 9).toNatClampNeg))]) rfl rfl (Nat.le_of_ble_eq_true rfl) dX10_undo_51 ⟨Nat.zero_le _, Nat.zero_le _⟩ (fun H locs hW => ?_)
      show W p l e (rmq 4 104) s m args below meth c H locs 0 0 Q (F0 m 54 ls [.ref (oa (13, x51.1)), .ref (oa (13, (μ6 (0, 0) 9).toNatClampNeg))])
      obtain ⟨hq8, hf⟩ := ce_of hf
      obtain ⟨x54, h54, hf⟩ := bd_of hf
      refine r_callV (k := ((13, (μ6 (0, 0) 9).toNatClampNeg) : Ky)) C hW hl lk_X10_89 (c_X6_become hwf hq7 hq8 h54) ⟨rfl, rfl⟩ ⟨Nat.le_of_ble_eq_true rfl, Nat.le_of_ble_eq_true rfl⟩ rfl (faB_13 hq7) rfl (As := [.ref (oa (13, x51.1))]) (rest := []) rfl rfl (Nat.le_of_ble_eq_true rfl) dX10_undo_54 ⟨Nat.zero_le _, Nat.zero_le _⟩ (fun H locs hW => ?_)
      show W p l e (rmq 4 104) s m args below meth c H locs 0 0 Q (F0 m 57 ls [])
      refine lv_aload_n hx hb dX10_undo_57 rfl (lv_at hl 0 rfl) ?_
      refine gf_X10_60 C hW dX10_undo_58 ?_
      obtain ⟨hq9, hf⟩ := ce_of hf
      refine lv_iconst (v := 1) hx hb dX10_undo_61 (by decide) ?_
      refine pf_X10_374 C hW hq9 rfl rfl dX10_undo_62 (fun H locs hW => ?_)
      refine lv_iconst (v := 1) hx hb dX10_undo_65 (by decide) ?_
      obtain rfl := Option.some.inj hf
      rw [hQ]
      exact r_zret C hr hk hW (Or.inr rfl) rfl rfl dX10_undo_66
  · have hf := (if_neg c1).symm.trans hf
    refine lv_iconst (v := 0) hx hb dX10_undo_8 (by decide) ?_
    obtain rfl := Option.some.inj hf
    rw [hQ]
    exact r_zret C hr hk hW (Or.inl rfl) rfl rfl dX10_undo_9
