set_option maxHeartbeats 4000000 in
set_option maxRecDepth 100000 in
theorem c_X0_readOut {l : Launch} {D : va_G} {tc : Nat → ClassId} {ro : Ro} {oa : Ky → Nat} {aa : Nat → Nat} {sh : Sh} {j1 : Nat} {μ : Mm} {v2 : Int32} {res : Int32 × Mm} (hwf : WfS sh) (hj1 : sh 2 j1 = 1) (hf : f_X0_readOut sh j1 μ v2 = some res) : Ct l D tc ro (faB oa aa sh) (feB tc oa aa sh) yX0_readOut cX0_readOut 4 (some .int) (rmq 4 96) [.ref (oa (4, 0)), .ref (oa (13, j1)), .int v2] μ (some (.int res.1)) res.2 := by
  refine Ct.of (by decide) (Nat.le_of_ble_eq_true rfl) (fun p e s m args below meth c A C hr hk hW ls hl => ?_)
  have hx := C.1.1
  have hb := C.1.2.1
  obtain ⟨Q, hQ⟩ : ∃ Q, Q = MQ below (Ctq D (faB oa aa sh) (feB tc oa aa sh) (some (.int res.1)) res.2 A) args s 0 0 A := ⟨_, rfl⟩
  rw [← hQ]
  have hl : lv_has ls 4 [(0, .ref (oa (4, 0))), (1, .ref (oa (13, j1))), (2, .int v2)] := hl
  unfold f_X0_readOut at hf
  refine lv_aload_n hx hb dX0_readOut_0 rfl (lv_at hl 0 rfl) ?_
  refine gf_X0_9 C hW dX0_readOut_1 ?_
  refine lv_aload_n hx hb dX0_readOut_4 rfl (lv_at hl 1 rfl) ?_
  refine lv_iload_n hx hb dX0_readOut_5 rfl (lv_at hl 2 rfl) ?_
  obtain ⟨x6, h6, hf⟩ := bd_of hf
  refine r_callV (k := ((3, 0) : Ky)) C hW hl lk_X0_71 (c_X4_sayNotice hwf hj1 h6) ⟨rfl, rfl⟩ ⟨Nat.le_of_ble_eq_true rfl, Nat.le_of_ble_eq_true rfl⟩ rfl rfl rfl (As := [.ref (oa (13, j1)), .int v2]) (rest := []) rfl rfl (Nat.le_of_ble_eq_true rfl) dX0_readOut_6 ⟨Nat.zero_le _, Nat.zero_le _⟩ (fun H locs hW => ?_)
  show W p l e (rmq 4 96) s m args below meth c H locs 0 0 Q (F0 m 9 ls [])
  refine lv_aload_n hx hb dX0_readOut_9 rfl (lv_at hl 0 rfl) ?_
  refine lv_aload_n hx hb dX0_readOut_10 rfl (lv_at hl 1 rfl) ?_
  obtain ⟨x11, h11, hf⟩ := bd_of hf
  refine r_callV (k := ((4, 0) : Ky)) C hW hl lk_X0_60 (c_X0_heardByAll hwf hj1 h11) ⟨rfl, rfl⟩ ⟨Nat.le_of_ble_eq_true rfl, Nat.le_of_ble_eq_true rfl⟩ rfl rfl rfl (As := [.ref (oa (13, j1))]) (rest := []) rfl rfl (Nat.le_of_ble_eq_true rfl) dX0_readOut_11 ⟨Nat.zero_le _, Nat.zero_le _⟩ (fun H locs hW => ?_)
  show W p l e (rmq 4 96) s m args below meth c H locs 0 0 Q (F0 m 14 ls [.int x11.1])
  refine lv_istore_n (lv' := [(3, .int x11.1), (0, .ref (oa (4, 0))), (1, .ref (oa (13, j1))), (2, .int v2)]) hx hb dX0_readOut_14 rfl hl (by decide) rfl (fun ls hl => ?_)
  refine lv_aload_n hx hb dX0_readOut_15 rfl (lv_at hl 2 rfl) ?_
  refine lv_iconst (v := 5) hx hb dX0_readOut_16 (by decide) ?_
  refine lv_iload_n hx hb dX0_readOut_17 rfl (lv_at hl 3 rfl) ?_
  refine lv_iconst (v := -1) hx hb dX0_readOut_18 (by decide) ?_
  refine lv_iload_n hx hb dX0_readOut_19 rfl (lv_at hl 0 rfl) ?_
  refine lv_aload_n hx hb dX0_readOut_20 rfl (lv_at hl 1 rfl) ?_
  refine gf_X0_9 C hW dX0_readOut_21 ?_
  refine lv_aload_n hx hb dX0_readOut_24 rfl (lv_at hl 2 rfl) ?_
  refine lv_aload_n hx hb dX0_readOut_25 rfl (lv_at hl 2 rfl) ?_
  refine gf_X0_38 C hW hj1 dX0_readOut_26 ?_
  obtain ⟨x29, h29, hf⟩ := bd_of hf
  refine r_callV (k := ((3, 0) : Ky)) C hW hl lk_X0_42 (c_X4_sureBits hwf hj1 (cex_st hj1 (by decide)) h29) ⟨rfl, rfl⟩ ⟨Nat.le_of_ble_eq_true rfl, Nat.le_of_ble_eq_true rfl⟩ rfl rfl rfl (As := [.ref (oa (13, j1)), .ref (oa (11, 15 + 5 * j1 + 2))]) (rest := [.int x11.1, .int (-1 : Int32), .int v2, .int (5 : Int32), .ref (oa (13, j1))]) rfl rfl (Nat.le_of_ble_eq_true rfl) dX0_readOut_29 ⟨Nat.zero_le _, Nat.zero_le _⟩ (fun H locs hW => ?_)
  show W p l e (rmq 4 96) s m args below meth c H locs 0 0 Q (F0 m 32 ls [.int x29, .int x11.1, .int (-1 : Int32), .int v2, .int (5 : Int32), .ref (oa (13, j1))])
  obtain ⟨x32, h32, hf⟩ := bd_of hf
  refine r_callV (k := ((13, j1) : Ky)) C hW hl lk_X0_46 (c_X6_note hwf hj1 h32) ⟨rfl, rfl⟩ ⟨Nat.le_of_ble_eq_true rfl, Nat.le_of_ble_eq_true rfl⟩ rfl (faB_13 hj1) rfl (As := [.int (5 : Int32), .int v2, .int (-1 : Int32), .int x11.1, .int x29]) (rest := []) rfl rfl (Nat.le_of_ble_eq_true rfl) dX0_readOut_32 ⟨Nat.zero_le _, Nat.zero_le _⟩ (fun H locs hW => ?_)
  show W p l e (rmq 4 96) s m args below meth c H locs 0 0 Q (F0 m 35 ls [])
  refine lv_iload_n hx hb dX0_readOut_35 rfl (lv_at hl 0 rfl) ?_
  obtain rfl := Option.some.inj hf
  rw [hQ]
  exact r_iret C hr hk hW rfl rfl dX0_readOut_36
set_option maxHeartbeats 4000000 in
set_option maxRecDepth 100000 in
theorem c_X0_claimMany {l : Launch} {D : va_G} {tc : Nat → ClassId} {ro : Ro} {oa : Ky → Nat} {aa : Nat → Nat} {sh : Sh} {j1 : Nat} {μ : Mm} {v2 v3 : Int32} {res : Int32 × Mm} (hwf : WfS sh) (hj1 : sh 2 j1 = 1) (hf : f_X0_claimMany sh j1 μ v2 v3 = some res) : Ct l D tc ro (faB oa aa sh) (feB tc oa aa sh) yX0_claimMany cX0_claimMany 4 (some .int) (rmq 4 96) [.ref (oa (4, 0)), .ref (oa (13, j1)), .int v2, .int v3] μ (some (.int res.1)) res.2 := by
  refine Ct.of (by decide) (Nat.le_of_ble_eq_true rfl) (fun p e s m args below meth c A C hr hk hW ls hl => ?_)
  have hx := C.1.1
  have hb := C.1.2.1
  obtain ⟨Q, hQ⟩ : ∃ Q, Q = MQ below (Ctq D (faB oa aa sh) (feB tc oa aa sh) (some (.int res.1)) res.2 A) args s 0 0 A := ⟨_, rfl⟩
  rw [← hQ]
  have hl : lv_has ls 4 [(0, .ref (oa (4, 0))), (1, .ref (oa (13, j1))), (2, .int v2), (3, .int v3)] := hl
  unfold f_X0_claimMany at hf
  refine lv_aload_n hx hb dX0_claimMany_0 rfl (lv_at hl 0 rfl) ?_
  refine gf_X0_9 C hW dX0_claimMany_1 ?_
  refine lv_aload_n hx hb dX0_claimMany_4 rfl (lv_at hl 1 rfl) ?_
  refine lv_iload_n hx hb dX0_claimMany_5 rfl (lv_at hl 2 rfl) ?_
  refine lv_iload_n hx hb dX0_claimMany_6 rfl (lv_at hl 3 rfl) ?_
  refine lv_iconst (v := 1) hx hb dX0_claimMany_7 (by decide) ?_
  obtain ⟨x8, h8, hf⟩ := bd_of hf
  refine r_callV (k := ((3, 0) : Ky)) C hW hl lk_X0_74 (c_X4_sayWhetherMany hwf hj1 h8) ⟨rfl, rfl⟩ ⟨Nat.le_of_ble_eq_true rfl, Nat.le_of_ble_eq_true rfl⟩ rfl rfl rfl (As := [.ref (oa (13, j1)), .int v2, .int v3, .int (1 : Int32)]) (rest := []) rfl rfl (Nat.le_of_ble_eq_true rfl) dX0_claimMany_8 ⟨Nat.zero_le _, Nat.zero_le _⟩ (fun H locs hW => ?_)
  show W p l e (rmq 4 96) s m args below meth c H locs 0 0 Q (F0 m 11 ls [])
  refine lv_aload_n hx hb dX0_claimMany_11 rfl (lv_at hl 0 rfl) ?_
  refine lv_aload_n hx hb dX0_claimMany_12 rfl (lv_at hl 1 rfl) ?_
  obtain ⟨x13, h13, hf⟩ := bd_of hf
  refine r_callV (k := ((4, 0) : Ky)) C hW hl lk_X0_60 (c_X0_heardByAll hwf hj1 h13) ⟨rfl, rfl⟩ ⟨Nat.le_of_ble_eq_true rfl, Nat.le_of_ble_eq_true rfl⟩ rfl rfl rfl (As := [.ref (oa (13, j1))]) (rest := []) rfl rfl (Nat.le_of_ble_eq_true rfl) dX0_claimMany_13 ⟨Nat.zero_le _, Nat.zero_le _⟩ (fun H locs hW => ?_)
  show W p l e (rmq 4 96) s m args below meth c H locs 0 0 Q (F0 m 16 ls [.int x13.1])
  refine lv_pop hx hb dX0_claimMany_16 rfl ?_
  refine lv_aload_n hx hb dX0_claimMany_17 rfl (lv_at hl 1 rfl) ?_
  refine lv_bipush (v := 6) hx hb dX0_claimMany_18 (by decide) ?_
  refine lv_iload_n hx hb dX0_claimMany_20 rfl (lv_at hl 3 rfl) ?_
  refine lv_iconst (v := -1) hx hb dX0_claimMany_21 (by decide) ?_
  refine lv_iload_n hx hb dX0_claimMany_22 rfl (lv_at hl 2 rfl) ?_
  refine lv_aload_n hx hb dX0_claimMany_23 rfl (lv_at hl 0 rfl) ?_
  refine gf_X0_9 C hW dX0_claimMany_24 ?_
  refine lv_aload_n hx hb dX0_claimMany_27 rfl (lv_at hl 1 rfl) ?_
  refine lv_aload_n hx hb dX0_claimMany_28 rfl (lv_at hl 1 rfl) ?_
  refine gf_X0_38 C hW hj1 dX0_claimMany_29 ?_
  obtain ⟨x32, h32, hf⟩ := bd_of hf
  refine r_callV (k := ((3, 0) : Ky)) C hW hl lk_X0_42 (c_X4_sureBits hwf hj1 (cex_st hj1 (by decide)) h32) ⟨rfl, rfl⟩ ⟨Nat.le_of_ble_eq_true rfl, Nat.le_of_ble_eq_true rfl⟩ rfl rfl rfl (As := [.ref (oa (13, j1)), .ref (oa (11, 15 + 5 * j1 + 2))]) (rest := [.int v2, .int (-1 : Int32), .int v3, .int (6 : Int32), .ref (oa (13, j1))]) rfl rfl (Nat.le_of_ble_eq_true rfl) dX0_claimMany_32 ⟨Nat.zero_le _, Nat.zero_le _⟩ (fun H locs hW => ?_)
  show W p l e (rmq 4 96) s m args below meth c H locs 0 0 Q (F0 m 35 ls [.int x32, .int v2, .int (-1 : Int32), .int v3, .int (6 : Int32), .ref (oa (13, j1))])
  obtain ⟨x35, h35, hf⟩ := bd_of hf
  refine r_callV (k := ((13, j1) : Ky)) C hW hl lk_X0_46 (c_X6_note hwf hj1 h35) ⟨rfl, rfl⟩ ⟨Nat.le_of_ble_eq_true rfl, Nat.le_of_ble_eq_true rfl⟩ rfl (faB_13 hj1) rfl (As := [.int (6 : Int32), .int v3, .int (-1 : Int32), .int v2, .int x32]) (rest := []) rfl rfl (Nat.le_of_ble_eq_true rfl) dX0_claimMany_35 ⟨Nat.zero_le _, Nat.zero_le _⟩ (fun H locs hW => ?_)
  show W p l e (rmq 4 96) s m args below meth c H locs 0 0 Q (F0 m 38 ls [])
  refine lv_aload_n hx hb dX0_claimMany_38 rfl (lv_at hl 1 rfl) ?_
  refine lv_aload_n hx hb dX0_claimMany_39 rfl (lv_at hl 1 rfl) ?_
  refine gf_X0_21 C hW hj1 dX0_claimMany_40 ?_
  refine lv_iload_n hx hb dX0_claimMany_43 rfl (lv_at hl 3 rfl) ?_
  obtain ⟨x44, h44, hf⟩ := bd_of hf
  refine r_callV (k := ((13, j1) : Ky)) C hW hl lk_X0_78 (c_X6_many hwf hj1 h44) ⟨rfl, rfl⟩ ⟨Nat.le_of_ble_eq_true rfl, Nat.le_of_ble_eq_true rfl⟩ rfl (faB_13 hj1) rfl (As := [.int (x35 (13, j1) 3), .int v3]) (rest := []) rfl rfl (Nat.le_of_ble_eq_true rfl) dX0_claimMany_44 ⟨Nat.zero_le _, Nat.zero_le _⟩ (fun H locs hW => ?_)
  show W p l e (rmq 4 96) s m args below meth c H locs 0 0 Q (F0 m 47 ls [.int x44])
  obtain rfl := Option.some.inj hf
  rw [hQ]
  exact r_iret C hr hk hW rfl rfl dX0_claimMany_47
set_option maxHeartbeats 4000000 in
set_option maxRecDepth 100000 in
theorem c_X0_queryOne {l : Launch} {D : va_G} {tc : Nat → ClassId} {ro : Ro} {oa : Ky → Nat} {aa : Nat → Nat} {sh : Sh} {j1 : Nat} {μ : Mm} {v2 v3 v4 : Int32} {res : Int32 × Mm} (hwf : WfS sh) (hj1 : sh 2 j1 = 1) (hf : f_X0_queryOne sh j1 μ v2 v3 v4 = some res) : Ct l D tc ro (faB oa aa sh) (feB tc oa aa sh) yX0_queryOne cX0_queryOne 6 (some .int) (rmq 5 121) [.ref (oa (4, 0)), .ref (oa (13, j1)), .int v2, .int v3, .int v4] μ (some (.int res.1)) res.2 := by
  refine Ct.of (by decide) (Nat.le_of_ble_eq_true rfl) (fun p e s m args below meth c A C hr hk hW ls hl => ?_)
  have hx := C.1.1
  have hb := C.1.2.1
  obtain ⟨Q, hQ⟩ : ∃ Q, Q = MQ below (Ctq D (faB oa aa sh) (feB tc oa aa sh) (some (.int res.1)) res.2 A) args s 0 0 A := ⟨_, rfl⟩
  rw [← hQ]
  have hl : lv_has ls 6 [(0, .ref (oa (4, 0))), (1, .ref (oa (13, j1))), (2, .int v2), (3, .int v3), (4, .int v4)] := hl
  unfold f_X0_queryOne at hf
  refine lv_aload_n hx hb dX0_queryOne_0 rfl (lv_at hl 0 rfl) ?_
  refine gf_X0_9 C hW dX0_queryOne_1 ?_
  refine lv_aload_n hx hb dX0_queryOne_4 rfl (lv_at hl 1 rfl) ?_
  refine lv_aload_n hx hb dX0_queryOne_5 rfl (lv_at hl 1 rfl) ?_
  refine gf_X0_38 C hW hj1 dX0_queryOne_6 ?_
  refine lv_iload_n hx hb dX0_queryOne_9 rfl (lv_at hl 2 rfl) ?_
  refine lv_iload_n hx hb dX0_queryOne_10 rfl (lv_at hl 3 rfl) ?_
  refine lv_iload hx hb dX0_queryOne_11 (lv_at hl 4 rfl) ?_
  obtain ⟨x13, h13, hf⟩ := bd_of hf
  refine r_callV (k := ((3, 0) : Ky)) C hW hl lk_X0_81 (c_X4_sayAnswer hwf hj1 (cex_st hj1 (by decide)) h13) ⟨rfl, rfl⟩ ⟨Nat.le_of_ble_eq_true rfl, Nat.le_of_ble_eq_true rfl⟩ rfl rfl rfl (As := [.ref (oa (13, j1)), .ref (oa (11, 15 + 5 * j1 + 2)), .int v2, .int v3, .int v4]) (rest := []) rfl rfl (Nat.le_of_ble_eq_true rfl) dX0_queryOne_13 ⟨Nat.zero_le _, Nat.zero_le _⟩ (fun H locs hW => ?_)
  show W p l e (rmq 5 121) s m args below meth c H locs 0 0 Q (F0 m 16 ls [])
  refine lv_aload_n hx hb dX0_queryOne_16 rfl (lv_at hl 0 rfl) ?_
  refine lv_aload_n hx hb dX0_queryOne_17 rfl (lv_at hl 1 rfl) ?_
  obtain ⟨x18, h18, hf⟩ := bd_of hf
  refine r_callV (k := ((4, 0) : Ky)) C hW hl lk_X0_60 (c_X0_heardByAll hwf hj1 h18) ⟨rfl, rfl⟩ ⟨Nat.le_of_ble_eq_true rfl, Nat.le_of_ble_eq_true rfl⟩ rfl rfl rfl (As := [.ref (oa (13, j1))]) (rest := []) rfl rfl (Nat.le_of_ble_eq_true rfl) dX0_queryOne_18 ⟨Nat.zero_le _, Nat.zero_le _⟩ (fun H locs hW => ?_)
  show W p l e (rmq 5 121) s m args below meth c H locs 0 0 Q (F0 m 21 ls [.int x18.1])
  refine lv_istore (lv' := [(5, .int x18.1), (0, .ref (oa (4, 0))), (1, .ref (oa (13, j1))), (2, .int v2), (3, .int v3), (4, .int v4)]) hx hb dX0_queryOne_21 hl (by decide) rfl (fun ls hl => ?_)
  refine lv_aload_n hx hb dX0_queryOne_23 rfl (lv_at hl 2 rfl) ?_
  refine lv_bipush (v := 7) hx hb dX0_queryOne_24 (by decide) ?_
  refine lv_iload_n hx hb dX0_queryOne_26 rfl (lv_at hl 3 rfl) ?_
  refine lv_iload_n hx hb dX0_queryOne_27 rfl (lv_at hl 4 rfl) ?_
  refine lv_iload hx hb dX0_queryOne_28 (lv_at hl 0 rfl) ?_
  refine lv_aload_n hx hb dX0_queryOne_30 rfl (lv_at hl 1 rfl) ?_
  refine gf_X0_9 C hW dX0_queryOne_31 ?_
  refine lv_aload_n hx hb dX0_queryOne_34 rfl (lv_at hl 2 rfl) ?_
  refine lv_aload_n hx hb dX0_queryOne_35 rfl (lv_at hl 2 rfl) ?_
  refine gf_X0_38 C hW hj1 dX0_queryOne_36 ?_
  obtain ⟨x39, h39, hf⟩ := bd_of hf
  refine r_callV (k := ((3, 0) : Ky)) C hW hl lk_X0_42 (c_X4_sureBits hwf hj1 (cex_st hj1 (by decide)) h39) ⟨rfl, rfl⟩ ⟨Nat.le_of_ble_eq_true rfl, Nat.le_of_ble_eq_true rfl⟩ rfl rfl rfl (As := [.ref (oa (13, j1)), .ref (oa (11, 15 + 5 * j1 + 2))]) (rest := [.int x18.1, .int v3, .int v2, .int (7 : Int32), .ref (oa (13, j1))]) rfl rfl (Nat.le_of_ble_eq_true rfl) dX0_queryOne_39 ⟨Nat.zero_le _, Nat.zero_le _⟩ (fun H locs hW => ?_)
  show W p l e (rmq 5 121) s m args below meth c H locs 0 0 Q (F0 m 42 ls [.int x39, .int x18.1, .int v3, .int v2, .int (7 : Int32), .ref (oa (13, j1))])
  obtain ⟨x42, h42, hf⟩ := bd_of hf
  refine r_callV (k := ((13, j1) : Ky)) C hW hl lk_X0_46 (c_X6_note hwf hj1 h42) ⟨rfl, rfl⟩ ⟨Nat.le_of_ble_eq_true rfl, Nat.le_of_ble_eq_true rfl⟩ rfl (faB_13 hj1) rfl (As := [.int (7 : Int32), .int v2, .int v3, .int x18.1, .int x39]) (rest := []) rfl rfl (Nat.le_of_ble_eq_true rfl) dX0_queryOne_42 ⟨Nat.zero_le _, Nat.zero_le _⟩ (fun H locs hW => ?_)
  show W p l e (rmq 5 121) s m args below meth c H locs 0 0 Q (F0 m 45 ls [])
  refine lv_iload hx hb dX0_queryOne_45 (lv_at hl 0 rfl) ?_
  obtain rfl := Option.some.inj hf
  rw [hQ]
  exact r_iret C hr hk hW rfl rfl dX0_queryOne_47
set_option maxHeartbeats 4000000 in
set_option maxRecDepth 100000 in
theorem c_X0_strollBy {l : Launch} {D : va_G} {tc : Nat → ClassId} {ro : Ro} {oa : Ky → Nat} {aa : Nat → Nat} {sh : Sh} {j1 : Nat} {μ : Mm} {v2 : Int32} {res : Int32 × Mm} (hwf : WfS sh) (hj1 : sh 2 j1 = 1) (hf : f_X0_strollBy sh j1 μ v2 = some res) : Ct l D tc ro (faB oa aa sh) (feB tc oa aa sh) yX0_strollBy cX0_strollBy 7 (some .int) (rmq 6 144) [.ref (oa (4, 0)), .ref (oa (13, j1)), .int v2] μ (some (.int res.1)) res.2 := by
  refine Ct.of (by decide) (Nat.le_of_ble_eq_true rfl) (fun p e s m args below meth c A C hr hk hW ls hl => ?_)
  have hx := C.1.1
  have hb := C.1.2.1
  obtain ⟨Q, hQ⟩ : ∃ Q, Q = MQ below (Ctq D (faB oa aa sh) (feB tc oa aa sh) (some (.int res.1)) res.2 A) args s 0 0 A := ⟨_, rfl⟩
  rw [← hQ]
  have hl : lv_has ls 7 [(0, .ref (oa (4, 0))), (1, .ref (oa (13, j1))), (2, .int v2)] := hl
  unfold f_X0_strollBy at hf
  refine lv_aload_n hx hb dX0_strollBy_0 rfl (lv_at hl 1 rfl) ?_
  refine gf_X0_31 C hW hj1 dX0_strollBy_1 ?_
  refine lv_iconst (v := 1) hx hb dX0_strollBy_4 (by decide) ?_
  refine lv_icmp_ge (tgt := 10) hx hb dX0_strollBy_5 (by decide) (fun c1 => ?_) (fun c1 => ?_)
  · have hf := (if_pos c1).symm.trans hf
    refine lv_iconst (v := 0) hx hb dX0_strollBy_10 (by decide) ?_
    refine lv_istore_n (lv' := [(3, .int (0 : Int32)), (0, .ref (oa (4, 0))), (1, .ref (oa (13, j1))), (2, .int v2)]) hx hb dX0_strollBy_11 rfl hl (by decide) rfl (fun ls hl => ?_)
    refine lv_iconst (v := 0) hx hb dX0_strollBy_12 (by decide) ?_
    refine lv_istore (lv' := [(4, .int (0 : Int32)), (3, .int (0 : Int32)), (0, .ref (oa (4, 0))), (1, .ref (oa (13, j1))), (2, .int v2)]) hx hb dX0_strollBy_13 hl (by decide) rfl (fun ls hl => ?_)
    have L15 : ∀ (μ : Mm) (v3 v4 : Int32) (H : Heap) (locs : List Loc) (ls : Array Slot), Wh (fun z : Mm × Int32 × Int32 => f_X0_strollBy_L15 sh j1 v2 z.1 z.2.1 z.2.2) (μ, v3, v4) = some res → Wd D (faB oa aa sh) (feB tc oa aa sh) A s.heap μ H locs → lv_has ls 7 [(0, .ref (oa (4, 0))), (1, .ref (oa (13, j1))), (2, .int v2), (3, .int v3), (4, .int v4)] → W p l e (rmq 6 144) s m args below meth c H locs 0 0 Q (F0 m 15 ls []) := by
      intro μ v3 v4 H locs ls hf hW hl
      refine Wh_rule hf (fun z : Mm × Int32 × Int32 => ∀ (H : Heap) (locs : List Loc) (ls : Array Slot), Wd D (faB oa aa sh) (feB tc oa aa sh) A s.heap z.1 H locs → lv_has ls 7 [(0, .ref (oa (4, 0))), (1, .ref (oa (13, j1))), (2, .int v2), (3, .int z.2.1), (4, .int z.2.2)] → W p l e (rmq 6 144) s m args below meth c H locs 0 0 Q (F0 m 15 ls [])) (fun z o1 hf Kl1 Kr1 => ?_) _ _ _ hW hl
      obtain ⟨μ, v3, v4⟩ := z
      intro H locs ls hW hl
      have hf : f_X0_strollBy_L15 sh j1 v2 μ v3 v4 = some o1 := hf
      unfold f_X0_strollBy_L15 at hf
      have hW : Wd D (faB oa aa sh) (feB tc oa aa sh) A s.heap μ H locs := hW
      have hl : lv_has ls 7 [(0, .ref (oa (4, 0))), (1, .ref (oa (13, j1))), (2, .int v2), (3, .int v3), (4, .int v4)] := hl
      refine lv_iload hx hb dX0_strollBy_15 (lv_at hl 4 rfl) ?_
      refine lv_iload_n hx hb dX0_strollBy_17 rfl (lv_at hl 2 rfl) ?_
      refine lv_icmp_ge (tgt := 81) hx hb dX0_strollBy_18 (by decide) (fun c2 => ?_) (fun c2 => ?_)
      · have hf := (if_pos c2).symm.trans hf
        obtain ⟨x9003, hf, hx9003⟩ := map_of hf
        have e9003 := (Kr1 _ hx9003.symm).symm
        subst e9003
        refine lv_iload_n hx hb dX0_strollBy_81 rfl (lv_at hl 3 rfl) ?_
        obtain rfl := Option.some.inj hf
        rw [hQ]
        exact r_iret C hr hk hW rfl rfl dX0_strollBy_82
      · have hf := (if_neg c2).symm.trans hf
        refine lv_aload_n hx hb dX0_strollBy_21 rfl (lv_at hl 1 rfl) ?_
        obtain ⟨x22, h22, hf⟩ := bd_of hf
        refine r_callV (k := ((13, j1) : Ky)) C hW hl lk_X0_85 (c_X6_draw hwf hj1 h22) ⟨rfl, rfl⟩ ⟨Nat.le_of_ble_eq_true rfl, Nat.le_of_ble_eq_true rfl⟩ rfl (faB_13 hj1) rfl (As := []) (rest := []) rfl rfl (Nat.le_of_ble_eq_true rfl) dX0_strollBy_22 ⟨Nat.zero_le _, Nat.zero_le _⟩ (fun H locs hW => ?_)
        show W p l e (rmq 6 144) s m args below meth c H locs 0 0 Q (F0 m 25 ls [.int x22.1])
        refine lv_aload_n hx hb dX0_strollBy_25 rfl (lv_at hl 1 rfl) ?_
        refine gf_X0_31 C hW hj1 dX0_strollBy_26 ?_
        obtain ⟨hz4, hf⟩ := cd_of hf
        refine lv_irem hx hb dX0_strollBy_29 hz4 ?_
        refine lv_istore (lv' := [(5, .int (x22.1 - x22.1 / (x22.2 (13, j1) 1) * (x22.2 (13, j1) 1))), (0, .ref (oa (4, 0))), (1, .ref (oa (13, j1))), (2, .int v2), (3, .int v3), (4, .int v4)]) hx hb dX0_strollBy_30 hl (by decide) rfl (fun ls hl => ?_)
        refine lv_aload_n hx hb dX0_strollBy_32 rfl (lv_at hl 2 rfl) ?_
        obtain ⟨x33, h33, hf⟩ := bd_of hf
        refine r_callV (k := ((13, j1) : Ky)) C hW hl lk_X0_85 (c_X6_draw hwf hj1 h33) ⟨rfl, rfl⟩ ⟨Nat.le_of_ble_eq_true rfl, Nat.le_of_ble_eq_true rfl⟩ rfl (faB_13 hj1) rfl (As := []) (rest := []) rfl rfl (Nat.le_of_ble_eq_true rfl) dX0_strollBy_33 ⟨Nat.zero_le _, Nat.zero_le _⟩ (fun H locs hW => ?_)
        show W p l e (rmq 6 144) s m args below meth c H locs 0 0 Q (F0 m 36 ls [.int x33.1])
        refine lv_aload_n hx hb dX0_strollBy_36 rfl (lv_at hl 2 rfl) ?_
        refine gf_X0_31 C hW hj1 dX0_strollBy_37 ?_
        obtain ⟨hz5, hf⟩ := cd_of hf
        refine lv_irem hx hb dX0_strollBy_40 hz5 ?_
        refine lv_istore (lv' := [(6, .int (x33.1 - x33.1 / (x33.2 (13, j1) 1) * (x33.2 (13, j1) 1))), (5, .int (x22.1 - x22.1 / (x22.2 (13, j1) 1) * (x22.2 (13, j1) 1))), (0, .ref (oa (4, 0))), (1, .ref (oa (13, j1))), (2, .int v2), (3, .int v3), (4, .int v4)]) hx hb dX0_strollBy_41 hl (by decide) rfl (fun ls hl => ?_)
        refine lv_iload hx hb dX0_strollBy_43 (lv_at hl 1 rfl) ?_
        refine lv_iload hx hb dX0_strollBy_45 (lv_at hl 0 rfl) ?_
        refine lv_icmp_eq (tgt := 75) hx hb dX0_strollBy_47 (by decide) (fun c6 => ?_) (fun c6 => ?_)
        · have hf := (if_pos c6).symm.trans hf
          refine lv_iinc (v := (v4 + (1 : Int32))) (lv' := [(4, .int (v4 + (1 : Int32))), (6, .int (x33.1 - x33.1 / (x33.2 (13, j1) 1) * (x33.2 (13, j1) 1))), (5, .int (x22.1 - x22.1 / (x22.2 (13, j1) 1) * (x22.2 (13, j1) 1))), (0, .ref (oa (4, 0))), (1, .ref (oa (13, j1))), (2, .int v2), (3, .int v3)]) hx hb dX0_strollBy_75 hl (k := 6) rfl rfl (by decide) rfl (fun ls hl => ?_)
          refine lv_goto (tgt := 15) hx hb dX0_strollBy_78 (by decide) ?_
          obtain rfl := Option.some.inj hf
          exact Kl1 _ rfl _ _ _ hW (lv_sub hl [3, 4, 5, 6, 0] rfl)
        · have hf := (if_neg c6).symm.trans hf
          refine lv_aload_n hx hb dX0_strollBy_50 rfl (lv_at hl 3 rfl) ?_
          refine lv_iload hx hb dX0_strollBy_51 (lv_at hl 1 rfl) ?_
          refine lv_iload hx hb dX0_strollBy_53 (lv_at hl 0 rfl) ?_
          obtain ⟨x55, h55, hf⟩ := bd_of hf
          refine r_callV (k := ((13, j1) : Ky)) C hW hl lk_X0_89 (c_X6_hasSight hwf hj1 h55) ⟨rfl, rfl⟩ ⟨Nat.le_of_ble_eq_true rfl, Nat.le_of_ble_eq_true rfl⟩ rfl (faB_13 hj1) rfl (As := [.int (x22.1 - x22.1 / (x22.2 (13, j1) 1) * (x22.2 (13, j1) 1)), .int (x33.1 - x33.1 / (x33.2 (13, j1) 1) * (x33.2 (13, j1) 1))]) (rest := []) rfl rfl (Nat.le_of_ble_eq_true rfl) dX0_strollBy_55 ⟨Nat.zero_le _, Nat.zero_le _⟩ (fun H locs hW => ?_)
          show W p l e (rmq 6 144) s m args below meth c H locs 0 0 Q (F0 m 58 ls [.int x55])
          refine lv_if_eq (tgt := 75) hx hb dX0_strollBy_58 (by decide) (fun c7 => ?_) (fun c7 => ?_)
          · have hf := (if_pos c7).symm.trans hf
            refine lv_iinc (v := (v4 + (1 : Int32))) (lv' := [(4, .int (v4 + (1 : Int32))), (6, .int (x33.1 - x33.1 / (x33.2 (13, j1) 1) * (x33.2 (13, j1) 1))), (5, .int (x22.1 - x22.1 / (x22.2 (13, j1) 1) * (x22.2 (13, j1) 1))), (0, .ref (oa (4, 0))), (1, .ref (oa (13, j1))), (2, .int v2), (3, .int v3)]) hx hb dX0_strollBy_75 hl (k := 6) rfl rfl (by decide) rfl (fun ls hl => ?_)
            refine lv_goto (tgt := 15) hx hb dX0_strollBy_78 (by decide) ?_
            obtain rfl := Option.some.inj hf
            exact Kl1 _ rfl _ _ _ hW (lv_sub hl [3, 4, 5, 6, 0] rfl)
          · have hf := (if_neg c7).symm.trans hf
            refine lv_aload_n hx hb dX0_strollBy_61 rfl (lv_at hl 2 rfl) ?_
            refine lv_aload_n hx hb dX0_strollBy_62 rfl (lv_at hl 3 rfl) ?_
            refine lv_iload hx hb dX0_strollBy_63 (lv_at hl 1 rfl) ?_
            refine lv_iload hx hb dX0_strollBy_65 (lv_at hl 0 rfl) ?_
            refine lv_iconst (v := 0) hx hb dX0_strollBy_67 (by decide) ?_
            obtain ⟨x68, h68, hf⟩ := bd_of hf
            refine r_callV (k := ((4, 0) : Ky)) C hW hl lk_X0_93 (c_X0_treatOne hwf hj1 h68) ⟨rfl, rfl⟩ ⟨Nat.le_of_ble_eq_true rfl, Nat.le_of_ble_eq_true rfl⟩ rfl rfl rfl (As := [.ref (oa (13, j1)), .int (x22.1 - x22.1 / (x22.2 (13, j1) 1) * (x22.2 (13, j1) 1)), .int (x33.1 - x33.1 / (x33.2 (13, j1) 1) * (x33.2 (13, j1) 1)), .int (0 : Int32)]) (rest := []) rfl rfl (Nat.le_of_ble_eq_true rfl) dX0_strollBy_68 ⟨Nat.zero_le _, Nat.zero_le _⟩ (fun H locs hW => ?_)
            show W p l e (rmq 6 144) s m args below meth c H locs 0 0 Q (F0 m 71 ls [.int x68.1])
            refine lv_pop hx hb dX0_strollBy_71 rfl ?_
            refine lv_iinc (v := (v3 + (1 : Int32))) (lv' := [(3, .int (v3 + (1 : Int32))), (6, .int (x33.1 - x33.1 / (x33.2 (13, j1) 1) * (x33.2 (13, j1) 1))), (5, .int (x22.1 - x22.1 / (x22.2 (13, j1) 1) * (x22.2 (13, j1) 1))), (0, .ref (oa (4, 0))), (1, .ref (oa (13, j1))), (2, .int v2), (4, .int v4)]) hx hb dX0_strollBy_72 hl (k := 5) rfl rfl (by decide) rfl (fun ls hl => ?_)
            refine lv_iinc (v := (v4 + (1 : Int32))) (lv' := [(4, .int (v4 + (1 : Int32))), (3, .int (v3 + (1 : Int32))), (6, .int (x33.1 - x33.1 / (x33.2 (13, j1) 1) * (x33.2 (13, j1) 1))), (5, .int (x22.1 - x22.1 / (x22.2 (13, j1) 1) * (x22.2 (13, j1) 1))), (0, .ref (oa (4, 0))), (1, .ref (oa (13, j1))), (2, .int v2)]) hx hb dX0_strollBy_75 hl (k := 6) rfl rfl (by decide) rfl (fun ls hl => ?_)
            refine lv_goto (tgt := 15) hx hb dX0_strollBy_78 (by decide) ?_
            obtain rfl := Option.some.inj hf
            exact Kl1 _ rfl _ _ _ hW (lv_sub hl [4, 5, 6, 1, 0] rfl)
    exact L15 μ (0 : Int32) (0 : Int32) _ _ _ hf hW (lv_sub hl [2, 3, 4, 1, 0] rfl)
  · have hf := (if_neg c1).symm.trans hf
    refine lv_iconst (v := 0) hx hb dX0_strollBy_8 (by decide) ?_
    obtain rfl := Option.some.inj hf
    rw [hQ]
    exact r_iret C hr hk hW rfl rfl dX0_strollBy_9
set_option maxHeartbeats 4000000 in
set_option maxRecDepth 100000 in
theorem c_X10_feed {l : Launch} {D : va_G} {tc : Nat → ClassId} {ro : Ro} {oa : Ky → Nat} {aa : Nat → Nat} {sh : Sh} {μ : Mm} {v1 v2 v3 v4 v5 : Int32} {res : Int32 × Mm} (hwf : WfS sh) (hf : f_X10_feed sh μ v1 v2 v3 v4 v5 = some res) : Ct l D tc ro (faB oa aa sh) (feB tc oa aa sh) yX10_feed cX10_feed 6 (some .int) (rmq 2 44) [.ref (oa (0, 0)), .int v1, .int v2, .int v3, .int v4, .int v5] μ (some (.int res.1)) res.2 := by
  refine Ct.of (by decide) (Nat.le_of_ble_eq_true rfl) (fun p e s m args below meth c A C hr hk hW ls hl => ?_)
  have hx := C.1.1
  have hb := C.1.2.1
  obtain ⟨Q, hQ⟩ : ∃ Q, Q = MQ below (Ctq D (faB oa aa sh) (feB tc oa aa sh) (some (.int res.1)) res.2 A) args s 0 0 A := ⟨_, rfl⟩
  rw [← hQ]
  have hl : lv_has ls 6 [(0, .ref (oa (0, 0))), (1, .int v1), (2, .int v2), (3, .int v3), (4, .int v4), (5, .int v5)] := hl
  unfold f_X10_feed at hf
  refine lv_aload_n hx hb dX10_feed_0 rfl (lv_at hl 0 rfl) ?_
  refine gf_X10_10 C hW dX10_feed_1 ?_
  refine lv_bipush (v := 20) hx hb dX10_feed_4 (by decide) ?_
  obtain ⟨x6, h6, hf⟩ := bd_of hf
  refine r_callV (k := ((2, 0) : Ky)) C hW hl lk_X10_71 (c_X7_hasRoomFor hwf h6) ⟨rfl, rfl⟩ ⟨Nat.le_of_ble_eq_true rfl, Nat.le_of_ble_eq_true rfl⟩ rfl rfl rfl (As := [.int (20 : Int32)]) (rest := []) rfl rfl (Nat.le_of_ble_eq_true rfl) dX10_feed_6 ⟨Nat.zero_le _, Nat.zero_le _⟩ (fun H locs hW => ?_)
  show W p l e (rmq 2 44) s m args below meth c H locs 0 0 Q (F0 m 9 ls [.int x6])
  refine lv_if_ne (tgt := 14) hx hb dX10_feed_9 (by decide) (fun c1 => ?_) (fun c1 => ?_)
  · have hf := (if_neg c1).symm.trans hf
    refine lv_aload_n hx hb dX10_feed_14 rfl (lv_at hl 0 rfl) ?_
    refine gf_X10_10 C hW dX10_feed_15 ?_
    refine lv_iload_n hx hb dX10_feed_18 rfl (lv_at hl 1 rfl) ?_
    obtain ⟨x19, h19, hf⟩ := bd_of hf
    refine r_callV (k := ((2, 0) : Ky)) C hW hl lk_X10_75 (c_X7_put hwf h19) ⟨rfl, rfl⟩ ⟨Nat.le_of_ble_eq_true rfl, Nat.le_of_ble_eq_true rfl⟩ rfl rfl rfl (As := [.int v1]) (rest := []) rfl rfl (Nat.le_of_ble_eq_true rfl) dX10_feed_19 ⟨Nat.zero_le _, Nat.zero_le _⟩ (fun H locs hW => ?_)
    show W p l e (rmq 2 44) s m args below meth c H locs 0 0 Q (F0 m 22 ls [])
    refine lv_aload_n hx hb dX10_feed_22 rfl (lv_at hl 0 rfl) ?_
    refine gf_X10_10 C hW dX10_feed_23 ?_
    refine lv_iload_n hx hb dX10_feed_26 rfl (lv_at hl 2 rfl) ?_
    obtain ⟨x27, h27, hf⟩ := bd_of hf
    refine r_callV (k := ((2, 0) : Ky)) C hW hl lk_X10_75 (c_X7_put hwf h27) ⟨rfl, rfl⟩ ⟨Nat.le_of_ble_eq_true rfl, Nat.le_of_ble_eq_true rfl⟩ rfl rfl rfl (As := [.int v2]) (rest := []) rfl rfl (Nat.le_of_ble_eq_true rfl) dX10_feed_27 ⟨Nat.zero_le _, Nat.zero_le _⟩ (fun H locs hW => ?_)
    show W p l e (rmq 2 44) s m args below meth c H locs 0 0 Q (F0 m 30 ls [])
    refine lv_aload_n hx hb dX10_feed_30 rfl (lv_at hl 0 rfl) ?_
    refine gf_X10_10 C hW dX10_feed_31 ?_
    refine lv_iload_n hx hb dX10_feed_34 rfl (lv_at hl 3 rfl) ?_
    obtain ⟨x35, h35, hf⟩ := bd_of hf
    refine r_callV (k := ((2, 0) : Ky)) C hW hl lk_X10_75 (c_X7_put hwf h35) ⟨rfl, rfl⟩ ⟨Nat.le_of_ble_eq_true rfl, Nat.le_of_ble_eq_true rfl⟩ rfl rfl rfl (As := [.int v3]) (rest := []) rfl rfl (Nat.le_of_ble_eq_true rfl) dX10_feed_35 ⟨Nat.zero_le _, Nat.zero_le _⟩ (fun H locs hW => ?_)
    show W p l e (rmq 2 44) s m args below meth c H locs 0 0 Q (F0 m 38 ls [])
    refine lv_aload_n hx hb dX10_feed_38 rfl (lv_at hl 0 rfl) ?_
    refine gf_X10_10 C hW dX10_feed_39 ?_
    refine lv_iload hx hb dX10_feed_42 (lv_at hl 4 rfl) ?_
    obtain ⟨x44, h44, hf⟩ := bd_of hf
    refine r_callV (k := ((2, 0) : Ky)) C hW hl lk_X10_75 (c_X7_put hwf h44) ⟨rfl, rfl⟩ ⟨Nat.le_of_ble_eq_true rfl, Nat.le_of_ble_eq_true rfl⟩ rfl rfl rfl (As := [.int v4]) (rest := []) rfl rfl (Nat.le_of_ble_eq_true rfl) dX10_feed_44 ⟨Nat.zero_le _, Nat.zero_le _⟩ (fun H locs hW => ?_)
    show W p l e (rmq 2 44) s m args below meth c H locs 0 0 Q (F0 m 47 ls [])
    refine lv_aload_n hx hb dX10_feed_47 rfl (lv_at hl 0 rfl) ?_
    refine gf_X10_10 C hW dX10_feed_48 ?_
    refine lv_iload hx hb dX10_feed_51 (lv_at hl 5 rfl) ?_
    obtain ⟨x53, h53, hf⟩ := bd_of hf
    refine r_callV (k := ((2, 0) : Ky)) C hW hl lk_X10_75 (c_X7_put hwf h53) ⟨rfl, rfl⟩ ⟨Nat.le_of_ble_eq_true rfl, Nat.le_of_ble_eq_true rfl⟩ rfl rfl rfl (As := [.int v5]) (rest := []) rfl rfl (Nat.le_of_ble_eq_true rfl) dX10_feed_53 ⟨Nat.zero_le _, Nat.zero_le _⟩ (fun H locs hW => ?_)
    show W p l e (rmq 2 44) s m args below meth c H locs 0 0 Q (F0 m 56 ls [])
    refine lv_aload_n hx hb dX10_feed_56 rfl (lv_at hl 0 rfl) ?_
    refine gf_X10_10 C hW dX10_feed_57 ?_
    obtain ⟨x60, h60, hf⟩ := bd_of hf
    refine r_callV (k := ((2, 0) : Ky)) C hW hl lk_X10_79 (c_X7_size hwf h60) ⟨rfl, rfl⟩ ⟨Nat.le_of_ble_eq_true rfl, Nat.le_of_ble_eq_true rfl⟩ rfl rfl rfl (As := []) (rest := []) rfl rfl (Nat.le_of_ble_eq_true rfl) dX10_feed_60 ⟨Nat.zero_le _, Nat.zero_le _⟩ (fun H locs hW => ?_)
    show W p l e (rmq 2 44) s m args below meth c H locs 0 0 Q (F0 m 63 ls [.int x60])
    obtain rfl := Option.some.inj hf
    rw [hQ]
    exact r_iret C hr hk hW rfl rfl dX10_feed_63
  · have hf := (if_pos c1).symm.trans hf
    refine lv_iconst (v := -1) hx hb dX10_feed_12 (by decide) ?_
    obtain rfl := Option.some.inj hf
    rw [hQ]
    exact r_iret C hr hk hW rfl rfl dX10_feed_13
set_option maxHeartbeats 4000000 in
set_option maxRecDepth 100000 in
theorem c_X10_end {l : Launch} {D : va_G} {tc : Nat → ClassId} {ro : Ro} {oa : Ky → Nat} {aa : Nat → Nat} {sh : Sh} {μ : Mm} {v1 : Int32} {res : Int32 × Mm} (hwf : WfS sh) (hf : f_X10_end sh μ v1 = some res) : Ct l D tc ro (faB oa aa sh) (feB tc oa aa sh) yX10_end cX10_end 2 (some .boolean) (rmq 1 21) [.ref (oa (0, 0)), .int v1] μ (some (.int res.1)) res.2 := by
  refine Ct.of (by decide) (Nat.le_of_ble_eq_true rfl) (fun p e s m args below meth c A C hr hk hW ls hl => ?_)
  have hx := C.1.1
  have hb := C.1.2.1
  obtain ⟨Q, hQ⟩ : ∃ Q, Q = MQ below (Ctq D (faB oa aa sh) (feB tc oa aa sh) (some (.int res.1)) res.2 A) args s 0 0 A := ⟨_, rfl⟩
  rw [← hQ]
  have hl : lv_has ls 2 [(0, .ref (oa (0, 0))), (1, .int v1)] := hl
  unfold f_X10_end at hf
  refine lv_aload_n hx hb dX10_end_0 rfl (lv_at hl 0 rfl) ?_
  refine gf_X10_10 C hW dX10_end_1 ?_
  refine lv_iload_n hx hb dX10_end_4 rfl (lv_at hl 1 rfl) ?_
  obtain ⟨x5, h5, hf⟩ := bd_of hf
  refine r_callV (k := ((2, 0) : Ky)) C hW hl lk_X10_83 (c_X7_cut hwf h5) ⟨rfl, rfl⟩ ⟨Nat.le_of_ble_eq_true rfl, Nat.le_of_ble_eq_true rfl⟩ rfl rfl rfl (As := [.int v1]) (rest := []) rfl rfl (Nat.le_of_ble_eq_true rfl) dX10_end_5 ⟨Nat.zero_le _, Nat.zero_le _⟩ (fun H locs hW => ?_)
  show W p l e (rmq 1 21) s m args below meth c H locs 0 0 Q (F0 m 8 ls [.int x5.1])
  obtain ⟨hz1, hf⟩ := cb_of hf
  obtain rfl := Option.some.inj hf
  rw [hQ]
  exact r_zret C hr hk hW hz1 rfl rfl dX10_end_8
set_option maxHeartbeats 4000000 in
set_option maxRecDepth 100000 in
theorem c_X10_fault {l : Launch} {D : va_G} {tc : Nat → ClassId} {ro : Ro} {oa : Ky → Nat} {aa : Nat → Nat} {sh : Sh} {μ : Mm} {res : Int32} (hwf : WfS sh) (hf : f_X10_fault sh μ = some res) : Ct l D tc ro (faB oa aa sh) (feB tc oa aa sh) yX10_fault cX10_fault 1 (some .int) (rmq 0 0) [.ref (oa (0, 0))] μ (some (.int res)) μ := by
  refine Ct.of (by decide) (Nat.le_of_ble_eq_true rfl) (fun p e s m args below meth c A C hr hk hW ls hl => ?_)
  have hx := C.1.1
  have hb := C.1.2.1
  obtain ⟨Q, hQ⟩ : ∃ Q, Q = MQ below (Ctq D (faB oa aa sh) (feB tc oa aa sh) (some (.int res)) μ A) args s 0 0 A := ⟨_, rfl⟩
  rw [← hQ]
  have hl : lv_has ls 1 [(0, .ref (oa (0, 0)))] := hl
  unfold f_X10_fault at hf
  refine lv_aload_n hx hb dX10_fault_0 rfl (lv_at hl 0 rfl) ?_
  refine gf_X10_67 C hW dX10_fault_1 ?_
  obtain rfl := Option.some.inj hf
  rw [hQ]
  exact r_iret C hr hk hW rfl rfl dX10_fault_4
set_option maxHeartbeats 4000000 in
set_option maxRecDepth 100000 in
theorem c_X10_needPerson {l : Launch} {D : va_G} {tc : Nat → ClassId} {ro : Ro} {oa : Ky → Nat} {aa : Nat → Nat} {sh : Sh} {μ : Mm} {v1 : Int32} {res : Unit} (hwf : WfS sh) (hf : f_X10_needPerson sh μ v1 = some res) : Ct l D tc ro (faB oa aa sh) (feB tc oa aa sh) yX10_needPerson cX10_needPerson 2 none (rmq 1 21) [.ref (oa (0, 0)), .int v1] μ none μ := by
  refine Ct.of (by decide) (Nat.le_of_ble_eq_true rfl) (fun p e s m args below meth c A C hr hk hW ls hl => ?_)
  have hx := C.1.1
  have hb := C.1.2.1
  obtain ⟨Q, hQ⟩ : ∃ Q, Q = MQ below (Ctq D (faB oa aa sh) (feB tc oa aa sh) none μ A) args s 0 0 A := ⟨_, rfl⟩
  rw [← hQ]
  have hl : lv_has ls 2 [(0, .ref (oa (0, 0))), (1, .int v1)] := hl
  unfold f_X10_needPerson at hf
  refine lv_aload_n hx hb dX10_needPerson_0 rfl (lv_at hl 0 rfl) ?_
  refine gf_X10_60 C hW dX10_needPerson_1 ?_
  refine lv_iload_n hx hb dX10_needPerson_4 rfl (lv_at hl 1 rfl) ?_
  obtain ⟨x5, h5, hf⟩ := bd_of hf
  refine r_callV (k := ((13, sh 4 0) : Ky)) C hW hl lk_X10_402 (c_X6_hasPerson hwf hwf.2.1 h5) ⟨rfl, rfl⟩ ⟨Nat.le_of_ble_eq_true rfl, Nat.le_of_ble_eq_true rfl⟩ rfl (faB_13 hwf.2.1) rfl (As := [.int v1]) (rest := []) rfl rfl (Nat.le_of_ble_eq_true rfl) dX10_needPerson_5 ⟨Nat.zero_le _, Nat.zero_le _⟩ (fun H locs hW => ?_)
  show W p l e (rmq 1 21) s m args below meth c H locs 0 0 Q (F0 m 8 ls [.int x5])
  refine lv_if_ne (tgt := 22) hx hb dX10_needPerson_8 (by decide) (fun c1 => ?_) (fun c1 => ?_)
  · have hf := (if_neg c1).symm.trans hf
    obtain rfl := Option.some.inj hf
    rw [hQ]
    exact r_vret C hr hk hW rfl rfl dX10_needPerson_22
  · have hf := (if_pos c1).symm.trans hf
    cases hf
set_option maxHeartbeats 4000000 in
set_option maxRecDepth 100000 in
theorem c_X10_person {l : Launch} {D : va_G} {tc : Nat → ClassId} {ro : Ro} {oa : Ky → Nat} {aa : Nat → Nat} {sh : Sh} {μ : Mm} {v1 v2 : Int32} {res : Int32} (hwf : WfS sh) (hf : f_X10_person sh μ v1 v2 = some res) : Ct l D tc ro (faB oa aa sh) (feB tc oa aa sh) yX10_person cX10_person 3 (some .int) (rmq 4 96) [.ref (oa (0, 0)), .int v1, .int v2] μ (some (.int res)) μ := by
  refine Ct.of (by decide) (Nat.le_of_ble_eq_true rfl) (fun p e s m args below meth c A C hr hk hW ls hl => ?_)
  have hx := C.1.1
  have hb := C.1.2.1
  obtain ⟨Q, hQ⟩ : ∃ Q, Q = MQ below (Ctq D (faB oa aa sh) (feB tc oa aa sh) (some (.int res)) μ A) args s 0 0 A := ⟨_, rfl⟩
  rw [← hQ]
  have hl : lv_has ls 3 [(0, .ref (oa (0, 0))), (1, .int v1), (2, .int v2)] := hl
  unfold f_X10_person at hf
  refine lv_aload_n hx hb dX10_person_0 rfl (lv_at hl 0 rfl) ?_
  refine lv_iload_n hx hb dX10_person_1 rfl (lv_at hl 1 rfl) ?_
  obtain ⟨x2, h2, hf⟩ := bd_of hf
  refine r_callV (k := ((0, 0) : Ky)) C hW hl lk_X10_141 (c_X10_needPerson hwf h2) ⟨rfl, rfl⟩ ⟨Nat.le_of_ble_eq_true rfl, Nat.le_of_ble_eq_true rfl⟩ rfl rfl rfl (As := [.int v1]) (rest := []) rfl rfl (Nat.le_of_ble_eq_true rfl) dX10_person_2 ⟨Nat.zero_le _, Nat.zero_le _⟩ (fun H locs hW => ?_)
  show W p l e (rmq 4 96) s m args below meth c H locs 0 0 Q (F0 m 5 ls [])
  refine lv_iload_n hx hb dX10_person_5 rfl (lv_at hl 2 rfl) ?_
  by_cases c2 : v2 = (0 : Int32)
  · have hf := (if_pos c2).symm.trans hf
    refine lv_tableIn (off := 38) (tgt := 44) hx hb dX10_person_6 (by rw [c2]; decide) (by rw [c2]; decide) (by rw [c2]; rfl) (by decide) ?_
    refine lv_aload_n hx hb dX10_person_44 rfl (lv_at hl 0 rfl) ?_
    refine gf_X10_60 C hW dX10_person_45 ?_
    refine lv_aload_n hx hb dX10_person_48 rfl (lv_at hl 0 rfl) ?_
    refine gf_X10_60 C hW dX10_person_49 ?_
    refine gf_X10_144 C hW hwf.2.1 dX10_person_52 ?_
    refine lv_iload_n hx hb dX10_person_55 rfl (lv_at hl 1 rfl) ?_
    obtain ⟨x56, h56, hf⟩ := bd_of hf
    refine r_callV (k := ((13, sh 4 0) : Ky)) C hW hl lk_X10_147 (c_X6_figure hwf hwf.2.1 h56) ⟨rfl, rfl⟩ ⟨Nat.le_of_ble_eq_true rfl, Nat.le_of_ble_eq_true rfl⟩ rfl (faB_13 hwf.2.1) rfl (As := [.int (μ (13, sh 4 0) 3), .int v1]) (rest := []) rfl rfl (Nat.le_of_ble_eq_true rfl) dX10_person_56 ⟨Nat.zero_le _, Nat.zero_le _⟩ (fun H locs hW => ?_)
    show W p l e (rmq 4 96) s m args below meth c H locs 0 0 Q (F0 m 59 ls [.int x56])
    obtain rfl := Option.some.inj hf
    rw [hQ]
    exact r_iret C hr hk hW rfl rfl dX10_person_59
  · have hf := (if_neg c2).symm.trans hf
    have n2 := lv_neT c2 (a := 0) (by decide)
    by_cases c3 : v2 = (1 : Int32)
    · have hf := (if_pos c3).symm.trans hf
      refine lv_tableIn (off := 54) (tgt := 60) hx hb dX10_person_6 (by rw [c3]; decide) (by rw [c3]; decide) (by rw [c3]; rfl) (by decide) ?_
      refine lv_aload_n hx hb dX10_person_60 rfl (lv_at hl 0 rfl) ?_
      refine gf_X10_60 C hW dX10_person_61 ?_
      refine gf_X10_151 C hW hwf.2.1 dX10_person_64 ?_
      refine lv_iload_n hx hb dX10_person_67 rfl (lv_at hl 1 rfl) ?_
      obtain ⟨x68, h68, hf⟩ := bd_of hf
      refine r_callV (k := ((11, 15 + 5 * (sh 4 0) + 1) : Ky)) C hW hl lk_X10_155 (c_X1_at hwf (cex_st hwf.2.1 (by decide)) h68) ⟨rfl, rfl⟩ ⟨Nat.le_of_ble_eq_true rfl, Nat.le_of_ble_eq_true rfl⟩ rfl (faB_11 (cex_st hwf.2.1 (by decide))) rfl (As := [.int v1]) (rest := []) rfl rfl (Nat.le_of_ble_eq_true rfl) dX10_person_68 ⟨Nat.zero_le _, Nat.zero_le _⟩ (fun H locs hW => ?_)
      show W p l e (rmq 4 96) s m args below meth c H locs 0 0 Q (F0 m 71 ls [.int x68])
      obtain rfl := Option.some.inj hf
      rw [hQ]
      exact r_iret C hr hk hW rfl rfl dX10_person_71
    · have hf := (if_neg c3).symm.trans hf
      have n3 := lv_neT c3 (a := 1) (by decide)
      by_cases c4 : v2 = (2 : Int32)
      · have hf := (if_pos c4).symm.trans hf
        refine lv_tableIn (off := 66) (tgt := 72) hx hb dX10_person_6 (by rw [c4]; decide) (by rw [c4]; decide) (by rw [c4]; rfl) (by decide) ?_
        refine lv_aload_n hx hb dX10_person_72 rfl (lv_at hl 0 rfl) ?_
        refine gf_X10_60 C hW dX10_person_73 ?_
        refine lv_iload_n hx hb dX10_person_76 rfl (lv_at hl 1 rfl) ?_
        obtain ⟨x77, h77, hf⟩ := bd_of hf
        refine r_callV (k := ((13, sh 4 0) : Ky)) C hW hl lk_X10_160 (c_X6_seers hwf hwf.2.1 h77) ⟨rfl, rfl⟩ ⟨Nat.le_of_ble_eq_true rfl, Nat.le_of_ble_eq_true rfl⟩ rfl (faB_13 hwf.2.1) rfl (As := [.int v1]) (rest := []) rfl rfl (Nat.le_of_ble_eq_true rfl) dX10_person_77 ⟨Nat.zero_le _, Nat.zero_le _⟩ (fun H locs hW => ?_)
        show W p l e (rmq 4 96) s m args below meth c H locs 0 0 Q (F0 m 80 ls [.int x77])
        obtain rfl := Option.some.inj hf
        rw [hQ]
        exact r_iret C hr hk hW rfl rfl dX10_person_80
      · have hf := (if_neg c4).symm.trans hf
        have n4 := lv_neT c4 (a := 2) (by decide)
        by_cases c5 : v2 = (3 : Int32)
        · have hf := (if_pos c5).symm.trans hf
          refine lv_tableIn (off := 75) (tgt := 81) hx hb dX10_person_6 (by rw [c5]; decide) (by rw [c5]; decide) (by rw [c5]; rfl) (by decide) ?_
          refine lv_aload_n hx hb dX10_person_81 rfl (lv_at hl 0 rfl) ?_
          refine gf_X10_19 C hW dX10_person_82 ?_
          refine lv_aload_n hx hb dX10_person_85 rfl (lv_at hl 0 rfl) ?_
          refine gf_X10_60 C hW dX10_person_86 ?_
          refine lv_aload_n hx hb dX10_person_89 rfl (lv_at hl 0 rfl) ?_
          refine gf_X10_60 C hW dX10_person_90 ?_
          refine gf_X10_163 C hW hwf.2.1 dX10_person_93 ?_
          refine lv_iload_n hx hb dX10_person_96 rfl (lv_at hl 1 rfl) ?_
          refine lv_aload_n hx hb dX10_person_97 rfl (lv_at hl 0 rfl) ?_
          refine gf_X10_60 C hW dX10_person_98 ?_
          refine gf_X10_144 C hW hwf.2.1 dX10_person_101 ?_
          obtain ⟨x104, h104, hf⟩ := bd_of hf
          refine r_callV (k := ((3, 0) : Ky)) C hW hl lk_X10_166 (c_X4_isSure hwf hwf.2.1 (cex_st hwf.2.1 (by decide)) h104) ⟨rfl, rfl⟩ ⟨Nat.le_of_ble_eq_true rfl, Nat.le_of_ble_eq_true rfl⟩ rfl rfl rfl (As := [.ref (oa (13, sh 4 0)), .ref (oa (11, 15 + 5 * (sh 4 0) + 2)), .int v1, .int (μ (13, sh 4 0) 3)]) (rest := []) rfl rfl (Nat.le_of_ble_eq_true rfl) dX10_person_104 ⟨Nat.zero_le _, Nat.zero_le _⟩ (fun H locs hW => ?_)
          show W p l e (rmq 4 96) s m args below meth c H locs 0 0 Q (F0 m 107 ls [.int x104])
          refine lv_if_eq (tgt := 114) hx hb dX10_person_107 (by decide) (fun c6 => ?_) (fun c6 => ?_)
          · have hf := (if_pos c6).symm.trans hf
            refine lv_iconst (v := 0) hx hb dX10_person_114 (by decide) ?_
            obtain rfl := Option.some.inj hf
            rw [hQ]
            exact r_iret C hr hk hW rfl rfl dX10_person_115
          · have hf := (if_neg c6).symm.trans hf
            refine lv_iconst (v := 1) hx hb dX10_person_110 (by decide) ?_
            refine lv_goto (tgt := 115) hx hb dX10_person_111 (by decide) ?_
            obtain rfl := Option.some.inj hf
            rw [hQ]
            exact r_iret C hr hk hW rfl rfl dX10_person_115
        · have hf := (if_neg c5).symm.trans hf
          have n5 := lv_neT c5 (a := 3) (by decide)
          by_cases c7 : v2 = (4 : Int32)
          · have hf := (if_pos c7).symm.trans hf
            refine lv_tableIn (off := 110) (tgt := 116) hx hb dX10_person_6 (by rw [c7]; decide) (by rw [c7]; decide) (by rw [c7]; rfl) (by decide) ?_
            refine lv_aload_n hx hb dX10_person_116 rfl (lv_at hl 0 rfl) ?_
            refine gf_X10_19 C hW dX10_person_117 ?_
            refine lv_aload_n hx hb dX10_person_120 rfl (lv_at hl 0 rfl) ?_
            refine gf_X10_60 C hW dX10_person_121 ?_
            refine lv_iload_n hx hb dX10_person_124 rfl (lv_at hl 1 rfl) ?_
            obtain ⟨x125, h125, hf⟩ := bd_of hf
            refine r_callV (k := ((3, 0) : Ky)) C hW hl lk_X10_170 (c_X4_holds hwf hwf.2.1 h125) ⟨rfl, rfl⟩ ⟨Nat.le_of_ble_eq_true rfl, Nat.le_of_ble_eq_true rfl⟩ rfl rfl rfl (As := [.ref (oa (13, sh 4 0)), .int v1]) (rest := []) rfl rfl (Nat.le_of_ble_eq_true rfl) dX10_person_125 ⟨Nat.zero_le _, Nat.zero_le _⟩ (fun H locs hW => ?_)
            show W p l e (rmq 4 96) s m args below meth c H locs 0 0 Q (F0 m 128 ls [.int x125])
            obtain rfl := Option.some.inj hf
            rw [hQ]
            exact r_iret C hr hk hW rfl rfl dX10_person_128
          · have hf := (if_neg c7).symm.trans hf
            have n7 := lv_neT c7 (a := 4) (by decide)
            by_cases c8 : v2 = (5 : Int32)
            · have hf := (if_pos c8).symm.trans hf
              refine lv_tableIn (off := 123) (tgt := 129) hx hb dX10_person_6 (by rw [c8]; decide) (by rw [c8]; decide) (by rw [c8]; rfl) (by decide) ?_
              refine lv_aload_n hx hb dX10_person_129 rfl (lv_at hl 0 rfl) ?_
              refine gf_X10_19 C hW dX10_person_130 ?_
              refine lv_aload_n hx hb dX10_person_133 rfl (lv_at hl 0 rfl) ?_
              refine gf_X10_60 C hW dX10_person_134 ?_
              refine lv_iload_n hx hb dX10_person_137 rfl (lv_at hl 1 rfl) ?_
              obtain ⟨x138, h138, hf⟩ := bd_of hf
              refine r_callV (k := ((3, 0) : Ky)) C hW hl lk_X10_174 (c_X4_knownBits hwf hwf.2.1 h138) ⟨rfl, rfl⟩ ⟨Nat.le_of_ble_eq_true rfl, Nat.le_of_ble_eq_true rfl⟩ rfl rfl rfl (As := [.ref (oa (13, sh 4 0)), .int v1]) (rest := []) rfl rfl (Nat.le_of_ble_eq_true rfl) dX10_person_138 ⟨Nat.zero_le _, Nat.zero_le _⟩ (fun H locs hW => ?_)
              show W p l e (rmq 4 96) s m args below meth c H locs 0 0 Q (F0 m 141 ls [.int x138])
              obtain rfl := Option.some.inj hf
              rw [hQ]
              exact r_iret C hr hk hW rfl rfl dX10_person_141
            · have hf := (if_neg c8).symm.trans hf
              have n8 := lv_neT c8 (a := 5) (by decide)
              refine lv_tableOut (tgt := 142) hx hb dX10_person_6 (by omega) (by decide) ?_
              cases hf
set_option maxHeartbeats 4000000 in
set_option maxRecDepth 100000 in
theorem c_X10_needWorld {l : Launch} {D : va_G} {tc : Nat → ClassId} {ro : Ro} {oa : Ky → Nat} {aa : Nat → Nat} {sh : Sh} {μ : Mm} {v1 : Int32} {res : Unit} (hwf : WfS sh) (hf : f_X10_needWorld sh μ v1 = some res) : Ct l D tc ro (faB oa aa sh) (feB tc oa aa sh) yX10_needWorld cX10_needWorld 2 none (rmq 1 21) [.ref (oa (0, 0)), .int v1] μ none μ := by
  refine Ct.of (by decide) (Nat.le_of_ble_eq_true rfl) (fun p e s m args below meth c A C hr hk hW ls hl => ?_)
  have hx := C.1.1
  have hb := C.1.2.1
  obtain ⟨Q, hQ⟩ : ∃ Q, Q = MQ below (Ctq D (faB oa aa sh) (feB tc oa aa sh) none μ A) args s 0 0 A := ⟨_, rfl⟩
  rw [← hQ]
  have hl : lv_has ls 2 [(0, .ref (oa (0, 0))), (1, .int v1)] := hl
  unfold f_X10_needWorld at hf
  refine lv_aload_n hx hb dX10_needWorld_0 rfl (lv_at hl 0 rfl) ?_
  refine gf_X10_60 C hW dX10_needWorld_1 ?_
  refine lv_iload_n hx hb dX10_needWorld_4 rfl (lv_at hl 1 rfl) ?_
  obtain ⟨x5, h5, hf⟩ := bd_of hf
  refine r_callV (k := ((13, sh 4 0) : Ky)) C hW hl lk_X10_415 (c_X6_hasWorld hwf hwf.2.1 h5) ⟨rfl, rfl⟩ ⟨Nat.le_of_ble_eq_true rfl, Nat.le_of_ble_eq_true rfl⟩ rfl (faB_13 hwf.2.1) rfl (As := [.int v1]) (rest := []) rfl rfl (Nat.le_of_ble_eq_true rfl) dX10_needWorld_5 ⟨Nat.zero_le _, Nat.zero_le _⟩ (fun H locs hW => ?_)
  show W p l e (rmq 1 21) s m args below meth c H locs 0 0 Q (F0 m 8 ls [.int x5])
  refine lv_if_ne (tgt := 22) hx hb dX10_needWorld_8 (by decide) (fun c1 => ?_) (fun c1 => ?_)
  · have hf := (if_neg c1).symm.trans hf
    obtain rfl := Option.some.inj hf
    rw [hQ]
    exact r_vret C hr hk hW rfl rfl dX10_needWorld_22
  · have hf := (if_pos c1).symm.trans hf
    cases hf
set_option maxHeartbeats 4000000 in
set_option maxRecDepth 100000 in
theorem c_X10_left {l : Launch} {D : va_G} {tc : Nat → ClassId} {ro : Ro} {oa : Ky → Nat} {aa : Nat → Nat} {sh : Sh} {μ : Mm} {v1 : Int32} {res : Int32} (hwf : WfS sh) (hf : f_X10_left sh μ v1 = some res) : Ct l D tc ro (faB oa aa sh) (feB tc oa aa sh) yX10_left cX10_left 2 (some .boolean) (rmq 2 42) [.ref (oa (0, 0)), .int v1] μ (some (.int res)) μ := by
  refine Ct.of (by decide) (Nat.le_of_ble_eq_true rfl) (fun p e s m args below meth c A C hr hk hW ls hl => ?_)
  have hx := C.1.1
  have hb := C.1.2.1
  obtain ⟨Q, hQ⟩ : ∃ Q, Q = MQ below (Ctq D (faB oa aa sh) (feB tc oa aa sh) (some (.int res)) μ A) args s 0 0 A := ⟨_, rfl⟩
  rw [← hQ]
  have hl : lv_has ls 2 [(0, .ref (oa (0, 0))), (1, .int v1)] := hl
  unfold f_X10_left at hf
  refine lv_aload_n hx hb dX10_left_0 rfl (lv_at hl 0 rfl) ?_
  refine lv_iload_n hx hb dX10_left_1 rfl (lv_at hl 1 rfl) ?_
  obtain ⟨x2, h2, hf⟩ := bd_of hf
  refine r_callV (k := ((0, 0) : Ky)) C hW hl lk_X10_182 (c_X10_needWorld hwf h2) ⟨rfl, rfl⟩ ⟨Nat.le_of_ble_eq_true rfl, Nat.le_of_ble_eq_true rfl⟩ rfl rfl rfl (As := [.int v1]) (rest := []) rfl rfl (Nat.le_of_ble_eq_true rfl) dX10_left_2 ⟨Nat.zero_le _, Nat.zero_le _⟩ (fun H locs hW => ?_)
  show W p l e (rmq 2 42) s m args below meth c H locs 0 0 Q (F0 m 5 ls [])
  refine lv_aload_n hx hb dX10_left_5 rfl (lv_at hl 0 rfl) ?_
  refine gf_X10_60 C hW dX10_left_6 ?_
  refine lv_iload_n hx hb dX10_left_9 rfl (lv_at hl 1 rfl) ?_
  obtain ⟨x10, h10, hf⟩ := bd_of hf
  refine r_callV (k := ((13, sh 4 0) : Ky)) C hW hl lk_X10_185 (c_X6_stands hwf hwf.2.1 h10) ⟨rfl, rfl⟩ ⟨Nat.le_of_ble_eq_true rfl, Nat.le_of_ble_eq_true rfl⟩ rfl (faB_13 hwf.2.1) rfl (As := [.int v1]) (rest := []) rfl rfl (Nat.le_of_ble_eq_true rfl) dX10_left_10 ⟨Nat.zero_le _, Nat.zero_le _⟩ (fun H locs hW => ?_)
  show W p l e (rmq 2 42) s m args below meth c H locs 0 0 Q (F0 m 13 ls [.int x10])
  obtain ⟨hz1, hf⟩ := cb_of hf
  obtain rfl := Option.some.inj hf
  rw [hQ]
  exact r_zret C hr hk hW hz1 rfl rfl dX10_left_13
set_option maxHeartbeats 4000000 in
set_option maxRecDepth 100000 in
theorem c_X10_needLeft {l : Launch} {D : va_G} {tc : Nat → ClassId} {ro : Ro} {oa : Ky → Nat} {aa : Nat → Nat} {sh : Sh} {μ : Mm} {v1 : Int32} {res : Unit} (hwf : WfS sh) (hf : f_X10_needLeft sh μ v1 = some res) : Ct l D tc ro (faB oa aa sh) (feB tc oa aa sh) yX10_needLeft cX10_needLeft 2 none (rmq 2 42) [.ref (oa (0, 0)), .int v1] μ none μ := by
  refine Ct.of (by decide) (Nat.le_of_ble_eq_true rfl) (fun p e s m args below meth c A C hr hk hW ls hl => ?_)
  have hx := C.1.1
  have hb := C.1.2.1
  obtain ⟨Q, hQ⟩ : ∃ Q, Q = MQ below (Ctq D (faB oa aa sh) (feB tc oa aa sh) none μ A) args s 0 0 A := ⟨_, rfl⟩
  rw [← hQ]
  have hl : lv_has ls 2 [(0, .ref (oa (0, 0))), (1, .int v1)] := hl
  unfold f_X10_needLeft at hf
  refine lv_aload_n hx hb dX10_needLeft_0 rfl (lv_at hl 0 rfl) ?_
  refine gf_X10_60 C hW dX10_needLeft_1 ?_
  refine lv_iload_n hx hb dX10_needLeft_4 rfl (lv_at hl 1 rfl) ?_
  obtain ⟨x5, h5, hf⟩ := bd_of hf
  refine r_callV (k := ((13, sh 4 0) : Ky)) C hW hl lk_X10_185 (c_X6_stands hwf hwf.2.1 h5) ⟨rfl, rfl⟩ ⟨Nat.le_of_ble_eq_true rfl, Nat.le_of_ble_eq_true rfl⟩ rfl (faB_13 hwf.2.1) rfl (As := [.int v1]) (rest := []) rfl rfl (Nat.le_of_ble_eq_true rfl) dX10_needLeft_5 ⟨Nat.zero_le _, Nat.zero_le _⟩ (fun H locs hW => ?_)
  show W p l e (rmq 2 42) s m args below meth c H locs 0 0 Q (F0 m 8 ls [.int x5])
  refine lv_if_ne (tgt := 22) hx hb dX10_needLeft_8 (by decide) (fun c1 => ?_) (fun c1 => ?_)
  · have hf := (if_neg c1).symm.trans hf
    obtain rfl := Option.some.inj hf
    rw [hQ]
    exact r_vret C hr hk hW rfl rfl dX10_needLeft_22
  · have hf := (if_pos c1).symm.trans hf
    cases hf
set_option maxHeartbeats 4000000 in
set_option maxRecDepth 100000 in
theorem c_X10_apart {l : Launch} {D : va_G} {tc : Nat → ClassId} {ro : Ro} {oa : Ky → Nat} {aa : Nat → Nat} {sh : Sh} {μ : Mm} {v1 v2 v3 : Int32} {res : Int32} (hwf : WfS sh) (hf : f_X10_apart sh μ v1 v2 v3 = some res) : Ct l D tc ro (faB oa aa sh) (feB tc oa aa sh) yX10_apart cX10_apart 4 (some .boolean) (rmq 3 63) [.ref (oa (0, 0)), .int v1, .int v2, .int v3] μ (some (.int res)) μ := by
  refine Ct.of (by decide) (Nat.le_of_ble_eq_true rfl) (fun p e s m args below meth c A C hr hk hW ls hl => ?_)
  have hx := C.1.1
  have hb := C.1.2.1
  obtain ⟨Q, hQ⟩ : ∃ Q, Q = MQ below (Ctq D (faB oa aa sh) (feB tc oa aa sh) (some (.int res)) μ A) args s 0 0 A := ⟨_, rfl⟩
  rw [← hQ]
  have hl : lv_has ls 4 [(0, .ref (oa (0, 0))), (1, .int v1), (2, .int v2), (3, .int v3)] := hl
  unfold f_X10_apart at hf
  refine lv_aload_n hx hb dX10_apart_0 rfl (lv_at hl 0 rfl) ?_
  refine lv_iload_n hx hb dX10_apart_1 rfl (lv_at hl 1 rfl) ?_
  obtain ⟨x2, h2, hf⟩ := bd_of hf
  refine r_callV (k := ((0, 0) : Ky)) C hW hl lk_X10_141 (c_X10_needPerson hwf h2) ⟨rfl, rfl⟩ ⟨Nat.le_of_ble_eq_true rfl, Nat.le_of_ble_eq_true rfl⟩ rfl rfl rfl (As := [.int v1]) (rest := []) rfl rfl (Nat.le_of_ble_eq_true rfl) dX10_apart_2 ⟨Nat.zero_le _, Nat.zero_le _⟩ (fun H locs hW => ?_)
  show W p l e (rmq 3 63) s m args below meth c H locs 0 0 Q (F0 m 5 ls [])
  refine lv_aload_n hx hb dX10_apart_5 rfl (lv_at hl 0 rfl) ?_
  refine lv_iload_n hx hb dX10_apart_6 rfl (lv_at hl 2 rfl) ?_
  obtain ⟨x7, h7, hf⟩ := bd_of hf
  refine r_callV (k := ((0, 0) : Ky)) C hW hl lk_X10_182 (c_X10_needWorld hwf h7) ⟨rfl, rfl⟩ ⟨Nat.le_of_ble_eq_true rfl, Nat.le_of_ble_eq_true rfl⟩ rfl rfl rfl (As := [.int v2]) (rest := []) rfl rfl (Nat.le_of_ble_eq_true rfl) dX10_apart_7 ⟨Nat.zero_le _, Nat.zero_le _⟩ (fun H locs hW => ?_)
  show W p l e (rmq 3 63) s m args below meth c H locs 0 0 Q (F0 m 10 ls [])
  refine lv_aload_n hx hb dX10_apart_10 rfl (lv_at hl 0 rfl) ?_
  refine lv_iload_n hx hb dX10_apart_11 rfl (lv_at hl 3 rfl) ?_
  obtain ⟨x12, h12, hf⟩ := bd_of hf
  refine r_callV (k := ((0, 0) : Ky)) C hW hl lk_X10_182 (c_X10_needWorld hwf h12) ⟨rfl, rfl⟩ ⟨Nat.le_of_ble_eq_true rfl, Nat.le_of_ble_eq_true rfl⟩ rfl rfl rfl (As := [.int v3]) (rest := []) rfl rfl (Nat.le_of_ble_eq_true rfl) dX10_apart_12 ⟨Nat.zero_le _, Nat.zero_le _⟩ (fun H locs hW => ?_)
  show W p l e (rmq 3 63) s m args below meth c H locs 0 0 Q (F0 m 15 ls [])
  refine lv_aload_n hx hb dX10_apart_15 rfl (lv_at hl 0 rfl) ?_
  refine lv_iload_n hx hb dX10_apart_16 rfl (lv_at hl 2 rfl) ?_
  obtain ⟨x17, h17, hf⟩ := bd_of hf
  refine r_callV (k := ((0, 0) : Ky)) C hW hl lk_X10_188 (c_X10_needLeft hwf h17) ⟨rfl, rfl⟩ ⟨Nat.le_of_ble_eq_true rfl, Nat.le_of_ble_eq_true rfl⟩ rfl rfl rfl (As := [.int v2]) (rest := []) rfl rfl (Nat.le_of_ble_eq_true rfl) dX10_apart_17 ⟨Nat.zero_le _, Nat.zero_le _⟩ (fun H locs hW => ?_)
  show W p l e (rmq 3 63) s m args below meth c H locs 0 0 Q (F0 m 20 ls [])
  refine lv_aload_n hx hb dX10_apart_20 rfl (lv_at hl 0 rfl) ?_
  refine lv_iload_n hx hb dX10_apart_21 rfl (lv_at hl 3 rfl) ?_
  obtain ⟨x22, h22, hf⟩ := bd_of hf
  refine r_callV (k := ((0, 0) : Ky)) C hW hl lk_X10_188 (c_X10_needLeft hwf h22) ⟨rfl, rfl⟩ ⟨Nat.le_of_ble_eq_true rfl, Nat.le_of_ble_eq_true rfl⟩ rfl rfl rfl (As := [.int v3]) (rest := []) rfl rfl (Nat.le_of_ble_eq_true rfl) dX10_apart_22 ⟨Nat.zero_le _, Nat.zero_le _⟩ (fun H locs hW => ?_)
  show W p l e (rmq 3 63) s m args below meth c H locs 0 0 Q (F0 m 25 ls [])
  refine lv_aload_n hx hb dX10_apart_25 rfl (lv_at hl 0 rfl) ?_
  refine gf_X10_60 C hW dX10_apart_26 ?_
  refine lv_iload_n hx hb dX10_apart_29 rfl (lv_at hl 1 rfl) ?_
  refine lv_iload_n hx hb dX10_apart_30 rfl (lv_at hl 2 rfl) ?_
  obtain ⟨x31, h31, hf⟩ := bd_of hf
  refine r_callV (k := ((13, sh 4 0) : Ky)) C hW hl lk_X10_191 (c_X6_group hwf hwf.2.1 h31) ⟨rfl, rfl⟩ ⟨Nat.le_of_ble_eq_true rfl, Nat.le_of_ble_eq_true rfl⟩ rfl (faB_13 hwf.2.1) rfl (As := [.int v1, .int v2]) (rest := []) rfl rfl (Nat.le_of_ble_eq_true rfl) dX10_apart_31 ⟨Nat.zero_le _, Nat.zero_le _⟩ (fun H locs hW => ?_)
  show W p l e (rmq 3 63) s m args below meth c H locs 0 0 Q (F0 m 34 ls [.int x31])
  refine lv_aload_n hx hb dX10_apart_34 rfl (lv_at hl 0 rfl) ?_
  refine gf_X10_60 C hW dX10_apart_35 ?_
  refine lv_iload_n hx hb dX10_apart_38 rfl (lv_at hl 1 rfl) ?_
  refine lv_iload_n hx hb dX10_apart_39 rfl (lv_at hl 3 rfl) ?_
  obtain ⟨x40, h40, hf⟩ := bd_of hf
  refine r_callV (k := ((13, sh 4 0) : Ky)) C hW hl lk_X10_191 (c_X6_group hwf hwf.2.1 h40) ⟨rfl, rfl⟩ ⟨Nat.le_of_ble_eq_true rfl, Nat.le_of_ble_eq_true rfl⟩ rfl (faB_13 hwf.2.1) rfl (As := [.int v1, .int v3]) (rest := [.int x31]) rfl rfl (Nat.le_of_ble_eq_true rfl) dX10_apart_40 ⟨Nat.zero_le _, Nat.zero_le _⟩ (fun H locs hW => ?_)
  show W p l e (rmq 3 63) s m args below meth c H locs 0 0 Q (F0 m 43 ls [.int x40, .int x31])
  refine lv_icmp_eq (tgt := 50) hx hb dX10_apart_43 (by decide) (fun c1 => ?_) (fun c1 => ?_)
  · have hf := (if_pos c1).symm.trans hf
    refine lv_iconst (v := 0) hx hb dX10_apart_50 (by decide) ?_
    obtain rfl := Option.some.inj hf
    rw [hQ]
    exact r_zret C hr hk hW (Or.inl rfl) rfl rfl dX10_apart_51
  · have hf := (if_neg c1).symm.trans hf
    refine lv_iconst (v := 1) hx hb dX10_apart_46 (by decide) ?_
    refine lv_goto (tgt := 51) hx hb dX10_apart_47 (by decide) ?_
    obtain rfl := Option.some.inj hf
    rw [hQ]
    exact r_zret C hr hk hW (Or.inr rfl) rfl rfl dX10_apart_51
set_option maxHeartbeats 4000000 in
set_option maxRecDepth 100000 in
theorem c_X10_sure {l : Launch} {D : va_G} {tc : Nat → ClassId} {ro : Ro} {oa : Ky → Nat} {aa : Nat → Nat} {sh : Sh} {μ : Mm} {v1 v2 : Int32} {res : Int32} (hwf : WfS sh) (hf : f_X10_sure sh μ v1 v2 = some res) : Ct l D tc ro (faB oa aa sh) (feB tc oa aa sh) yX10_sure cX10_sure 3 (some .boolean) (rmq 4 96) [.ref (oa (0, 0)), .int v1, .int v2] μ (some (.int res)) μ := by
  refine Ct.of (by decide) (Nat.le_of_ble_eq_true rfl) (fun p e s m args below meth c A C hr hk hW ls hl => ?_)
  have hx := C.1.1
  have hb := C.1.2.1
  obtain ⟨Q, hQ⟩ : ∃ Q, Q = MQ below (Ctq D (faB oa aa sh) (feB tc oa aa sh) (some (.int res)) μ A) args s 0 0 A := ⟨_, rfl⟩
  rw [← hQ]
  have hl : lv_has ls 3 [(0, .ref (oa (0, 0))), (1, .int v1), (2, .int v2)] := hl
  unfold f_X10_sure at hf
  refine lv_aload_n hx hb dX10_sure_0 rfl (lv_at hl 0 rfl) ?_
  refine lv_iload_n hx hb dX10_sure_1 rfl (lv_at hl 1 rfl) ?_
  obtain ⟨x2, h2, hf⟩ := bd_of hf
  refine r_callV (k := ((0, 0) : Ky)) C hW hl lk_X10_141 (c_X10_needPerson hwf h2) ⟨rfl, rfl⟩ ⟨Nat.le_of_ble_eq_true rfl, Nat.le_of_ble_eq_true rfl⟩ rfl rfl rfl (As := [.int v1]) (rest := []) rfl rfl (Nat.le_of_ble_eq_true rfl) dX10_sure_2 ⟨Nat.zero_le _, Nat.zero_le _⟩ (fun H locs hW => ?_)
  show W p l e (rmq 4 96) s m args below meth c H locs 0 0 Q (F0 m 5 ls [])
  refine lv_aload_n hx hb dX10_sure_5 rfl (lv_at hl 0 rfl) ?_
  refine lv_iload_n hx hb dX10_sure_6 rfl (lv_at hl 2 rfl) ?_
  obtain ⟨x7, h7, hf⟩ := bd_of hf
  refine r_callV (k := ((0, 0) : Ky)) C hW hl lk_X10_182 (c_X10_needWorld hwf h7) ⟨rfl, rfl⟩ ⟨Nat.le_of_ble_eq_true rfl, Nat.le_of_ble_eq_true rfl⟩ rfl rfl rfl (As := [.int v2]) (rest := []) rfl rfl (Nat.le_of_ble_eq_true rfl) dX10_sure_7 ⟨Nat.zero_le _, Nat.zero_le _⟩ (fun H locs hW => ?_)
  show W p l e (rmq 4 96) s m args below meth c H locs 0 0 Q (F0 m 10 ls [])
  refine lv_aload_n hx hb dX10_sure_10 rfl (lv_at hl 0 rfl) ?_
  refine lv_iload_n hx hb dX10_sure_11 rfl (lv_at hl 2 rfl) ?_
  obtain ⟨x12, h12, hf⟩ := bd_of hf
  refine r_callV (k := ((0, 0) : Ky)) C hW hl lk_X10_188 (c_X10_needLeft hwf h12) ⟨rfl, rfl⟩ ⟨Nat.le_of_ble_eq_true rfl, Nat.le_of_ble_eq_true rfl⟩ rfl rfl rfl (As := [.int v2]) (rest := []) rfl rfl (Nat.le_of_ble_eq_true rfl) dX10_sure_12 ⟨Nat.zero_le _, Nat.zero_le _⟩ (fun H locs hW => ?_)
  show W p l e (rmq 4 96) s m args below meth c H locs 0 0 Q (F0 m 15 ls [])
  refine lv_aload_n hx hb dX10_sure_15 rfl (lv_at hl 0 rfl) ?_
  refine gf_X10_19 C hW dX10_sure_16 ?_
  refine lv_aload_n hx hb dX10_sure_19 rfl (lv_at hl 0 rfl) ?_
  refine gf_X10_60 C hW dX10_sure_20 ?_
  refine lv_aload_n hx hb dX10_sure_23 rfl (lv_at hl 0 rfl) ?_
  refine gf_X10_60 C hW dX10_sure_24 ?_
  refine gf_X10_163 C hW hwf.2.1 dX10_sure_27 ?_
  refine lv_iload_n hx hb dX10_sure_30 rfl (lv_at hl 1 rfl) ?_
  refine lv_iload_n hx hb dX10_sure_31 rfl (lv_at hl 2 rfl) ?_
  obtain ⟨x32, h32, hf⟩ := bd_of hf
  refine r_callV (k := ((3, 0) : Ky)) C hW hl lk_X10_166 (c_X4_isSure hwf hwf.2.1 (cex_st hwf.2.1 (by decide)) h32) ⟨rfl, rfl⟩ ⟨Nat.le_of_ble_eq_true rfl, Nat.le_of_ble_eq_true rfl⟩ rfl rfl rfl (As := [.ref (oa (13, sh 4 0)), .ref (oa (11, 15 + 5 * (sh 4 0) + 2)), .int v1, .int v2]) (rest := []) rfl rfl (Nat.le_of_ble_eq_true rfl) dX10_sure_32 ⟨Nat.zero_le _, Nat.zero_le _⟩ (fun H locs hW => ?_)
  show W p l e (rmq 4 96) s m args below meth c H locs 0 0 Q (F0 m 35 ls [.int x32])
  obtain ⟨hz1, hf⟩ := cb_of hf
  obtain rfl := Option.some.inj hf
  rw [hQ]
  exact r_zret C hr hk hW hz1 rfl rfl dX10_sure_35
set_option maxHeartbeats 4000000 in
set_option maxRecDepth 100000 in
theorem c_X10_needTwo {l : Launch} {D : va_G} {tc : Nat → ClassId} {ro : Ro} {oa : Ky → Nat} {aa : Nat → Nat} {sh : Sh} {μ : Mm} {v1 v2 : Int32} {res : Unit} (hf : f_X10_needTwo v1 v2 = some res) : Ct l D tc ro (faB oa aa sh) (feB tc oa aa sh) yX10_needTwo cX10_needTwo 3 none (rmq 0 0) [.ref (oa (0, 0)), .int v1, .int v2] μ none μ := by
  refine Ct.of (by decide) (Nat.le_of_ble_eq_true rfl) (fun p e s m args below meth c A C hr hk hW ls hl => ?_)
  have hx := C.1.1
  have hb := C.1.2.1
  obtain ⟨Q, hQ⟩ : ∃ Q, Q = MQ below (Ctq D (faB oa aa sh) (feB tc oa aa sh) none μ A) args s 0 0 A := ⟨_, rfl⟩
  rw [← hQ]
  have hl : lv_has ls 3 [(0, .ref (oa (0, 0))), (1, .int v1), (2, .int v2)] := hl
  unfold f_X10_needTwo at hf
  refine lv_iload_n hx hb dX10_needTwo_0 rfl (lv_at hl 1 rfl) ?_
  refine lv_iload_n hx hb dX10_needTwo_1 rfl (lv_at hl 2 rfl) ?_
  refine lv_icmp_ne (tgt := 16) hx hb dX10_needTwo_2 (by decide) (fun c1 => ?_) (fun c1 => ?_)
  · have hf := (if_neg c1).symm.trans hf
    obtain rfl := Option.some.inj hf
    rw [hQ]
    exact r_vret C hr hk hW rfl rfl dX10_needTwo_16
  · have hf := (if_pos c1).symm.trans hf
    cases hf
set_option maxHeartbeats 4000000 in
set_option maxRecDepth 100000 in
theorem c_X10_needSight {l : Launch} {D : va_G} {tc : Nat → ClassId} {ro : Ro} {oa : Ky → Nat} {aa : Nat → Nat} {sh : Sh} {μ : Mm} {v1 v2 : Int32} {res : Unit} (hwf : WfS sh) (hf : f_X10_needSight sh μ v1 v2 = some res) : Ct l D tc ro (faB oa aa sh) (feB tc oa aa sh) yX10_needSight cX10_needSight 3 none (rmq 2 43) [.ref (oa (0, 0)), .int v1, .int v2] μ none μ := by
  refine Ct.of (by decide) (Nat.le_of_ble_eq_true rfl) (fun p e s m args below meth c A C hr hk hW ls hl => ?_)
  have hx := C.1.1
  have hb := C.1.2.1
  obtain ⟨Q, hQ⟩ : ∃ Q, Q = MQ below (Ctq D (faB oa aa sh) (feB tc oa aa sh) none μ A) args s 0 0 A := ⟨_, rfl⟩
  rw [← hQ]
  have hl : lv_has ls 3 [(0, .ref (oa (0, 0))), (1, .int v1), (2, .int v2)] := hl
  unfold f_X10_needSight at hf
  refine lv_aload_n hx hb dX10_needSight_0 rfl (lv_at hl 0 rfl) ?_
  refine gf_X10_60 C hW dX10_needSight_1 ?_
  refine lv_iload_n hx hb dX10_needSight_4 rfl (lv_at hl 1 rfl) ?_
  refine lv_iload_n hx hb dX10_needSight_5 rfl (lv_at hl 2 rfl) ?_
  obtain ⟨x6, h6, hf⟩ := bd_of hf
  refine r_callV (k := ((13, sh 4 0) : Ky)) C hW hl lk_X10_424 (c_X6_hasSight hwf hwf.2.1 h6) ⟨rfl, rfl⟩ ⟨Nat.le_of_ble_eq_true rfl, Nat.le_of_ble_eq_true rfl⟩ rfl (faB_13 hwf.2.1) rfl (As := [.int v1, .int v2]) (rest := []) rfl rfl (Nat.le_of_ble_eq_true rfl) dX10_needSight_6 ⟨Nat.zero_le _, Nat.zero_le _⟩ (fun H locs hW => ?_)
  show W p l e (rmq 2 43) s m args below meth c H locs 0 0 Q (F0 m 9 ls [.int x6])
  refine lv_if_ne (tgt := 23) hx hb dX10_needSight_9 (by decide) (fun c1 => ?_) (fun c1 => ?_)
  · have hf := (if_neg c1).symm.trans hf
    obtain rfl := Option.some.inj hf
    rw [hQ]
    exact r_vret C hr hk hW rfl rfl dX10_needSight_23
  · have hf := (if_pos c1).symm.trans hf
    cases hf
set_option maxHeartbeats 4000000 in
set_option maxRecDepth 100000 in
theorem c_X10_manner {l : Launch} {D : va_G} {tc : Nat → ClassId} {ro : Ro} {oa : Ky → Nat} {aa : Nat → Nat} {sh : Sh} {μ : Mm} {v1 v2 v3 : Int32} {res : Int32 × Mm} (hwf : WfS sh) (hf : f_X10_manner sh μ v1 v2 v3 = some res) : Ct l D tc ro (faB oa aa sh) (feB tc oa aa sh) yX10_manner cX10_manner 4 (some .int) (rmq 5 118) [.ref (oa (0, 0)), .int v1, .int v2, .int v3] μ (some (.int res.1)) res.2 := by
  refine Ct.of (by decide) (Nat.le_of_ble_eq_true rfl) (fun p e s m args below meth c A C hr hk hW ls hl => ?_)
  have hx := C.1.1
  have hb := C.1.2.1
  obtain ⟨Q, hQ⟩ : ∃ Q, Q = MQ below (Ctq D (faB oa aa sh) (feB tc oa aa sh) (some (.int res.1)) res.2 A) args s 0 0 A := ⟨_, rfl⟩
  rw [← hQ]
  have hl : lv_has ls 4 [(0, .ref (oa (0, 0))), (1, .int v1), (2, .int v2), (3, .int v3)] := hl
  unfold f_X10_manner at hf
  refine lv_aload_n hx hb dX10_manner_0 rfl (lv_at hl 0 rfl) ?_
  refine lv_iload_n hx hb dX10_manner_1 rfl (lv_at hl 1 rfl) ?_
  obtain ⟨x2, h2, hf⟩ := bd_of hf
  refine r_callV (k := ((0, 0) : Ky)) C hW hl lk_X10_141 (c_X10_needPerson hwf h2) ⟨rfl, rfl⟩ ⟨Nat.le_of_ble_eq_true rfl, Nat.le_of_ble_eq_true rfl⟩ rfl rfl rfl (As := [.int v1]) (rest := []) rfl rfl (Nat.le_of_ble_eq_true rfl) dX10_manner_2 ⟨Nat.zero_le _, Nat.zero_le _⟩ (fun H locs hW => ?_)
  show W p l e (rmq 5 118) s m args below meth c H locs 0 0 Q (F0 m 5 ls [])
  refine lv_aload_n hx hb dX10_manner_5 rfl (lv_at hl 0 rfl) ?_
  refine lv_iload_n hx hb dX10_manner_6 rfl (lv_at hl 2 rfl) ?_
  obtain ⟨x7, h7, hf⟩ := bd_of hf
  refine r_callV (k := ((0, 0) : Ky)) C hW hl lk_X10_141 (c_X10_needPerson hwf h7) ⟨rfl, rfl⟩ ⟨Nat.le_of_ble_eq_true rfl, Nat.le_of_ble_eq_true rfl⟩ rfl rfl rfl (As := [.int v2]) (rest := []) rfl rfl (Nat.le_of_ble_eq_true rfl) dX10_manner_7 ⟨Nat.zero_le _, Nat.zero_le _⟩ (fun H locs hW => ?_)
  show W p l e (rmq 5 118) s m args below meth c H locs 0 0 Q (F0 m 10 ls [])
  refine lv_aload_n hx hb dX10_manner_10 rfl (lv_at hl 0 rfl) ?_
  refine lv_iload_n hx hb dX10_manner_11 rfl (lv_at hl 3 rfl) ?_
  obtain ⟨x12, h12, hf⟩ := bd_of hf
  refine r_callV (k := ((0, 0) : Ky)) C hW hl lk_X10_182 (c_X10_needWorld hwf h12) ⟨rfl, rfl⟩ ⟨Nat.le_of_ble_eq_true rfl, Nat.le_of_ble_eq_true rfl⟩ rfl rfl rfl (As := [.int v3]) (rest := []) rfl rfl (Nat.le_of_ble_eq_true rfl) dX10_manner_12 ⟨Nat.zero_le _, Nat.zero_le _⟩ (fun H locs hW => ?_)
  show W p l e (rmq 5 118) s m args below meth c H locs 0 0 Q (F0 m 15 ls [])
  refine lv_aload_n hx hb dX10_manner_15 rfl (lv_at hl 0 rfl) ?_
  refine lv_iload_n hx hb dX10_manner_16 rfl (lv_at hl 1 rfl) ?_
  refine lv_iload_n hx hb dX10_manner_17 rfl (lv_at hl 2 rfl) ?_
  obtain ⟨x18, h18, hf⟩ := bd_of hf
  refine r_callV (k := ((0, 0) : Ky)) C hW hl lk_X10_194 (c_X10_needTwo h18) ⟨rfl, rfl⟩ ⟨Nat.le_of_ble_eq_true rfl, Nat.le_of_ble_eq_true rfl⟩ rfl rfl rfl (As := [.int v1, .int v2]) (rest := []) rfl rfl (Nat.le_of_ble_eq_true rfl) dX10_manner_18 ⟨Nat.zero_le _, Nat.zero_le _⟩ (fun H locs hW => ?_)
  show W p l e (rmq 5 118) s m args below meth c H locs 0 0 Q (F0 m 21 ls [])
  refine lv_aload_n hx hb dX10_manner_21 rfl (lv_at hl 0 rfl) ?_
  refine lv_iload_n hx hb dX10_manner_22 rfl (lv_at hl 3 rfl) ?_
  obtain ⟨x23, h23, hf⟩ := bd_of hf
  refine r_callV (k := ((0, 0) : Ky)) C hW hl lk_X10_188 (c_X10_needLeft hwf h23) ⟨rfl, rfl⟩ ⟨Nat.le_of_ble_eq_true rfl, Nat.le_of_ble_eq_true rfl⟩ rfl rfl rfl (As := [.int v3]) (rest := []) rfl rfl (Nat.le_of_ble_eq_true rfl) dX10_manner_23 ⟨Nat.zero_le _, Nat.zero_le _⟩ (fun H locs hW => ?_)
  show W p l e (rmq 5 118) s m args below meth c H locs 0 0 Q (F0 m 26 ls [])
  refine lv_aload_n hx hb dX10_manner_26 rfl (lv_at hl 0 rfl) ?_
  refine lv_iload_n hx hb dX10_manner_27 rfl (lv_at hl 1 rfl) ?_
  refine lv_iload_n hx hb dX10_manner_28 rfl (lv_at hl 2 rfl) ?_
  obtain ⟨x29, h29, hf⟩ := bd_of hf
  refine r_callV (k := ((0, 0) : Ky)) C hW hl lk_X10_198 (c_X10_needSight hwf h29) ⟨rfl, rfl⟩ ⟨Nat.le_of_ble_eq_true rfl, Nat.le_of_ble_eq_true rfl⟩ rfl rfl rfl (As := [.int v1, .int v2]) (rest := []) rfl rfl (Nat.le_of_ble_eq_true rfl) dX10_manner_29 ⟨Nat.zero_le _, Nat.zero_le _⟩ (fun H locs hW => ?_)
  show W p l e (rmq 5 118) s m args below meth c H locs 0 0 Q (F0 m 32 ls [])
  refine lv_aload_n hx hb dX10_manner_32 rfl (lv_at hl 0 rfl) ?_
  refine gf_X10_19 C hW dX10_manner_33 ?_
  refine lv_aload_n hx hb dX10_manner_36 rfl (lv_at hl 0 rfl) ?_
  refine gf_X10_60 C hW dX10_manner_37 ?_
  refine lv_iload_n hx hb dX10_manner_40 rfl (lv_at hl 1 rfl) ?_
  refine lv_iload_n hx hb dX10_manner_41 rfl (lv_at hl 2 rfl) ?_
  obtain ⟨x42, h42, hf⟩ := bd_of hf
  refine r_callV (k := ((3, 0) : Ky)) C hW hl lk_X10_201 (c_X4_meet hwf hwf.2.1 h42) ⟨rfl, rfl⟩ ⟨Nat.le_of_ble_eq_true rfl, Nat.le_of_ble_eq_true rfl⟩ rfl rfl rfl (As := [.ref (oa (13, sh 4 0)), .int v1, .int v2]) (rest := []) rfl rfl (Nat.le_of_ble_eq_true rfl) dX10_manner_42 ⟨Nat.zero_le _, Nat.zero_le _⟩ (fun H locs hW => ?_)
  show W p l e (rmq 5 118) s m args below meth c H locs 0 0 Q (F0 m 45 ls [])
  refine lv_aload_n hx hb dX10_manner_45 rfl (lv_at hl 0 rfl) ?_
  refine gf_X10_19 C hW dX10_manner_46 ?_
  refine lv_iload_n hx hb dX10_manner_49 rfl (lv_at hl 3 rfl) ?_
  obtain ⟨x50, h50, hf⟩ := bd_of hf
  refine r_callV (k := ((3, 0) : Ky)) C hW hl lk_X10_205 (c_X4_mannerIn hwf h50) ⟨rfl, rfl⟩ ⟨Nat.le_of_ble_eq_true rfl, Nat.le_of_ble_eq_true rfl⟩ rfl rfl rfl (As := [.int v3]) (rest := []) rfl rfl (Nat.le_of_ble_eq_true rfl) dX10_manner_50 ⟨Nat.zero_le _, Nat.zero_le _⟩ (fun H locs hW => ?_)
  show W p l e (rmq 5 118) s m args below meth c H locs 0 0 Q (F0 m 53 ls [.int x50])
  obtain rfl := Option.some.inj hf
  rw [hQ]
  exact r_iret C hr hk hW rfl rfl dX10_manner_53
set_option maxHeartbeats 4000000 in
set_option maxRecDepth 100000 in
theorem c_X10_needNotice {l : Launch} {D : va_G} {tc : Nat → ClassId} {ro : Ro} {oa : Ky → Nat} {aa : Nat → Nat} {sh : Sh} {μ : Mm} {v1 : Int32} {res : Unit} (hwf : WfS sh) (hf : f_X10_needNotice sh μ v1 = some res) : Ct l D tc ro (faB oa aa sh) (feB tc oa aa sh) yX10_needNotice cX10_needNotice 2 none (rmq 1 21) [.ref (oa (0, 0)), .int v1] μ none μ := by
  refine Ct.of (by decide) (Nat.le_of_ble_eq_true rfl) (fun p e s m args below meth c A C hr hk hW ls hl => ?_)
  have hx := C.1.1
  have hb := C.1.2.1
  obtain ⟨Q, hQ⟩ : ∃ Q, Q = MQ below (Ctq D (faB oa aa sh) (feB tc oa aa sh) none μ A) args s 0 0 A := ⟨_, rfl⟩
  rw [← hQ]
  have hl : lv_has ls 2 [(0, .ref (oa (0, 0))), (1, .int v1)] := hl
  unfold f_X10_needNotice at hf
  refine lv_aload_n hx hb dX10_needNotice_0 rfl (lv_at hl 0 rfl) ?_
  refine gf_X10_60 C hW dX10_needNotice_1 ?_
  refine lv_iload_n hx hb dX10_needNotice_4 rfl (lv_at hl 1 rfl) ?_
  obtain ⟨x5, h5, hf⟩ := bd_of hf
  refine r_callV (k := ((13, sh 4 0) : Ky)) C hW hl lk_X10_410 (c_X6_hasNotice hwf hwf.2.1 h5) ⟨rfl, rfl⟩ ⟨Nat.le_of_ble_eq_true rfl, Nat.le_of_ble_eq_true rfl⟩ rfl (faB_13 hwf.2.1) rfl (As := [.int v1]) (rest := []) rfl rfl (Nat.le_of_ble_eq_true rfl) dX10_needNotice_5 ⟨Nat.zero_le _, Nat.zero_le _⟩ (fun H locs hW => ?_)
  show W p l e (rmq 1 21) s m args below meth c H locs 0 0 Q (F0 m 8 ls [.int x5])
  refine lv_if_ne (tgt := 22) hx hb dX10_needNotice_8 (by decide) (fun c1 => ?_) (fun c1 => ?_)
  · have hf := (if_neg c1).symm.trans hf
    obtain rfl := Option.some.inj hf
    rw [hQ]
    exact r_vret C hr hk hW rfl rfl dX10_needNotice_22
  · have hf := (if_pos c1).symm.trans hf
    cases hf
set_option maxHeartbeats 4000000 in
set_option maxRecDepth 100000 in
theorem c_X10_needNumber {l : Launch} {D : va_G} {tc : Nat → ClassId} {ro : Ro} {oa : Ky → Nat} {aa : Nat → Nat} {sh : Sh} {μ : Mm} {v1 v2 v3 : Int32} {res : Unit} (hf : f_X10_needNumber v1 v2 v3 = some res) : Ct l D tc ro (faB oa aa sh) (feB tc oa aa sh) yX10_needNumber cX10_needNumber 4 none (rmq 0 0) [.ref (oa (0, 0)), .int v1, .int v2, .int v3] μ none μ := by
  refine Ct.of (by decide) (Nat.le_of_ble_eq_true rfl) (fun p e s m args below meth c A C hr hk hW ls hl => ?_)
  have hx := C.1.1
  have hb := C.1.2.1
  obtain ⟨Q, hQ⟩ : ∃ Q, Q = MQ below (Ctq D (faB oa aa sh) (feB tc oa aa sh) none μ A) args s 0 0 A := ⟨_, rfl⟩
  rw [← hQ]
  have hl : lv_has ls 4 [(0, .ref (oa (0, 0))), (1, .int v1), (2, .int v2), (3, .int v3)] := hl
  unfold f_X10_needNumber at hf
  refine lv_iload_n hx hb dX10_needNumber_0 rfl (lv_at hl 1 rfl) ?_
  refine lv_iload_n hx hb dX10_needNumber_1 rfl (lv_at hl 2 rfl) ?_
  refine lv_icmp_lt (tgt := 10) hx hb dX10_needNumber_2 (by decide) (fun c1 => ?_) (fun c1 => ?_)
  · have hf := (if_pos c1).symm.trans hf
    cases hf
  · have hf := (if_neg c1).symm.trans hf
    refine lv_iload_n hx hb dX10_needNumber_5 rfl (lv_at hl 1 rfl) ?_
    refine lv_iload_n hx hb dX10_needNumber_6 rfl (lv_at hl 3 rfl) ?_
    refine lv_icmp_le (tgt := 21) hx hb dX10_needNumber_7 (by decide) (fun c2 => ?_) (fun c2 => ?_)
    · have hf := (if_pos c2).symm.trans hf
      obtain rfl := Option.some.inj hf
      rw [hQ]
      exact r_vret C hr hk hW rfl rfl dX10_needNumber_21
    · have hf := (if_neg c2).symm.trans hf
      cases hf
set_option maxHeartbeats 4000000 in
set_option maxRecDepth 100000 in
theorem c_X10_possible {l : Launch} {D : va_G} {tc : Nat → ClassId} {ro : Ro} {oa : Ky → Nat} {aa : Nat → Nat} {sh : Sh} {μ : Mm} {v1 v2 : Int32} {res : Int32} (hwf : WfS sh) (hf : f_X10_possible sh μ v1 v2 = some res) : Ct l D tc ro (faB oa aa sh) (feB tc oa aa sh) yX10_possible cX10_possible 3 (some .int) (rmq 3 72) [.ref (oa (0, 0)), .int v1, .int v2] μ (some (.int res)) μ := by
  refine Ct.of (by decide) (Nat.le_of_ble_eq_true rfl) (fun p e s m args below meth c A C hr hk hW ls hl => ?_)
  have hx := C.1.1
  have hb := C.1.2.1
  obtain ⟨Q, hQ⟩ : ∃ Q, Q = MQ below (Ctq D (faB oa aa sh) (feB tc oa aa sh) (some (.int res)) μ A) args s 0 0 A := ⟨_, rfl⟩
  rw [← hQ]
  have hl : lv_has ls 3 [(0, .ref (oa (0, 0))), (1, .int v1), (2, .int v2)] := hl
  unfold f_X10_possible at hf
  refine lv_aload_n hx hb dX10_possible_0 rfl (lv_at hl 0 rfl) ?_
  refine lv_iload_n hx hb dX10_possible_1 rfl (lv_at hl 1 rfl) ?_
  obtain ⟨x2, h2, hf⟩ := bd_of hf
  refine r_callV (k := ((0, 0) : Ky)) C hW hl lk_X10_141 (c_X10_needPerson hwf h2) ⟨rfl, rfl⟩ ⟨Nat.le_of_ble_eq_true rfl, Nat.le_of_ble_eq_true rfl⟩ rfl rfl rfl (As := [.int v1]) (rest := []) rfl rfl (Nat.le_of_ble_eq_true rfl) dX10_possible_2 ⟨Nat.zero_le _, Nat.zero_le _⟩ (fun H locs hW => ?_)
  show W p l e (rmq 3 72) s m args below meth c H locs 0 0 Q (F0 m 5 ls [])
  refine lv_aload_n hx hb dX10_possible_5 rfl (lv_at hl 0 rfl) ?_
  refine lv_iload_n hx hb dX10_possible_6 rfl (lv_at hl 2 rfl) ?_
  obtain ⟨x7, h7, hf⟩ := bd_of hf
  refine r_callV (k := ((0, 0) : Ky)) C hW hl lk_X10_141 (c_X10_needPerson hwf h7) ⟨rfl, rfl⟩ ⟨Nat.le_of_ble_eq_true rfl, Nat.le_of_ble_eq_true rfl⟩ rfl rfl rfl (As := [.int v2]) (rest := []) rfl rfl (Nat.le_of_ble_eq_true rfl) dX10_possible_7 ⟨Nat.zero_le _, Nat.zero_le _⟩ (fun H locs hW => ?_)
  show W p l e (rmq 3 72) s m args below meth c H locs 0 0 Q (F0 m 10 ls [])
  refine lv_aload_n hx hb dX10_possible_10 rfl (lv_at hl 0 rfl) ?_
  refine gf_X10_19 C hW dX10_possible_11 ?_
  refine lv_aload_n hx hb dX10_possible_14 rfl (lv_at hl 0 rfl) ?_
  refine gf_X10_60 C hW dX10_possible_15 ?_
  refine lv_aload_n hx hb dX10_possible_18 rfl (lv_at hl 0 rfl) ?_
  refine gf_X10_60 C hW dX10_possible_19 ?_
  refine gf_X10_163 C hW hwf.2.1 dX10_possible_22 ?_
  refine lv_iload_n hx hb dX10_possible_25 rfl (lv_at hl 1 rfl) ?_
  refine lv_iload_n hx hb dX10_possible_26 rfl (lv_at hl 2 rfl) ?_
  refine lv_aload_n hx hb dX10_possible_27 rfl (lv_at hl 0 rfl) ?_
  refine gf_X10_60 C hW dX10_possible_28 ?_
  refine gf_X10_144 C hW hwf.2.1 dX10_possible_31 ?_
  obtain ⟨x34, h34, hf⟩ := bd_of hf
  refine r_callV (k := ((3, 0) : Ky)) C hW hl lk_X10_255 (c_X4_possibleBits hwf hwf.2.1 (cex_st hwf.2.1 (by decide)) h34) ⟨rfl, rfl⟩ ⟨Nat.le_of_ble_eq_true rfl, Nat.le_of_ble_eq_true rfl⟩ rfl rfl rfl (As := [.ref (oa (13, sh 4 0)), .ref (oa (11, 15 + 5 * (sh 4 0) + 2)), .int v1, .int v2, .int (μ (13, sh 4 0) 3)]) (rest := []) rfl rfl (Nat.le_of_ble_eq_true rfl) dX10_possible_34 ⟨Nat.zero_le _, Nat.zero_le _⟩ (fun H locs hW => ?_)
  show W p l e (rmq 3 72) s m args below meth c H locs 0 0 Q (F0 m 37 ls [.int x34])
  obtain rfl := Option.some.inj hf
  rw [hQ]
  exact r_iret C hr hk hW rfl rfl dX10_possible_37
set_option maxHeartbeats 4000000 in
set_option maxRecDepth 100000 in
theorem c_X10_knows {l : Launch} {D : va_G} {tc : Nat → ClassId} {ro : Ro} {oa : Ky → Nat} {aa : Nat → Nat} {sh : Sh} {μ : Mm} {v1 v2 : Int32} {res : Int32} (hwf : WfS sh) (hf : f_X10_knows sh μ v1 v2 = some res) : Ct l D tc ro (faB oa aa sh) (feB tc oa aa sh) yX10_knows cX10_knows 3 (some .int) (rmq 3 72) [.ref (oa (0, 0)), .int v1, .int v2] μ (some (.int res)) μ := by
  refine Ct.of (by decide) (Nat.le_of_ble_eq_true rfl) (fun p e s m args below meth c A C hr hk hW ls hl => ?_)
  have hx := C.1.1
  have hb := C.1.2.1
  obtain ⟨Q, hQ⟩ : ∃ Q, Q = MQ below (Ctq D (faB oa aa sh) (feB tc oa aa sh) (some (.int res)) μ A) args s 0 0 A := ⟨_, rfl⟩
  rw [← hQ]
  have hl : lv_has ls 3 [(0, .ref (oa (0, 0))), (1, .int v1), (2, .int v2)] := hl
  unfold f_X10_knows at hf
  refine lv_aload_n hx hb dX10_knows_0 rfl (lv_at hl 0 rfl) ?_
  refine lv_iload_n hx hb dX10_knows_1 rfl (lv_at hl 1 rfl) ?_
  obtain ⟨x2, h2, hf⟩ := bd_of hf
  refine r_callV (k := ((0, 0) : Ky)) C hW hl lk_X10_141 (c_X10_needPerson hwf h2) ⟨rfl, rfl⟩ ⟨Nat.le_of_ble_eq_true rfl, Nat.le_of_ble_eq_true rfl⟩ rfl rfl rfl (As := [.int v1]) (rest := []) rfl rfl (Nat.le_of_ble_eq_true rfl) dX10_knows_2 ⟨Nat.zero_le _, Nat.zero_le _⟩ (fun H locs hW => ?_)
  show W p l e (rmq 3 72) s m args below meth c H locs 0 0 Q (F0 m 5 ls [])
  refine lv_aload_n hx hb dX10_knows_5 rfl (lv_at hl 0 rfl) ?_
  refine lv_iload_n hx hb dX10_knows_6 rfl (lv_at hl 2 rfl) ?_
  obtain ⟨x7, h7, hf⟩ := bd_of hf
  refine r_callV (k := ((0, 0) : Ky)) C hW hl lk_X10_141 (c_X10_needPerson hwf h7) ⟨rfl, rfl⟩ ⟨Nat.le_of_ble_eq_true rfl, Nat.le_of_ble_eq_true rfl⟩ rfl rfl rfl (As := [.int v2]) (rest := []) rfl rfl (Nat.le_of_ble_eq_true rfl) dX10_knows_7 ⟨Nat.zero_le _, Nat.zero_le _⟩ (fun H locs hW => ?_)
  show W p l e (rmq 3 72) s m args below meth c H locs 0 0 Q (F0 m 10 ls [])
  refine lv_aload_n hx hb dX10_knows_10 rfl (lv_at hl 0 rfl) ?_
  refine gf_X10_19 C hW dX10_knows_11 ?_
  refine lv_aload_n hx hb dX10_knows_14 rfl (lv_at hl 0 rfl) ?_
  refine gf_X10_19 C hW dX10_knows_15 ?_
  refine lv_aload_n hx hb dX10_knows_18 rfl (lv_at hl 0 rfl) ?_
  refine gf_X10_60 C hW dX10_knows_19 ?_
  refine lv_aload_n hx hb dX10_knows_22 rfl (lv_at hl 0 rfl) ?_
  refine gf_X10_60 C hW dX10_knows_23 ?_
  refine gf_X10_163 C hW hwf.2.1 dX10_knows_26 ?_
  refine lv_iload_n hx hb dX10_knows_29 rfl (lv_at hl 1 rfl) ?_
  refine lv_iload_n hx hb dX10_knows_30 rfl (lv_at hl 2 rfl) ?_
  refine lv_aload_n hx hb dX10_knows_31 rfl (lv_at hl 0 rfl) ?_
  refine gf_X10_60 C hW dX10_knows_32 ?_
  refine gf_X10_144 C hW hwf.2.1 dX10_knows_35 ?_
  obtain ⟨x38, h38, hf⟩ := bd_of hf
  refine r_callV (k := ((3, 0) : Ky)) C hW hl lk_X10_255 (c_X4_possibleBits hwf hwf.2.1 (cex_st hwf.2.1 (by decide)) h38) ⟨rfl, rfl⟩ ⟨Nat.le_of_ble_eq_true rfl, Nat.le_of_ble_eq_true rfl⟩ rfl rfl rfl (As := [.ref (oa (13, sh 4 0)), .ref (oa (11, 15 + 5 * (sh 4 0) + 2)), .int v1, .int v2, .int (μ (13, sh 4 0) 3)]) (rest := [.ref (oa (3, 0))]) rfl rfl (Nat.le_of_ble_eq_true rfl) dX10_knows_38 ⟨Nat.zero_le _, Nat.zero_le _⟩ (fun H locs hW => ?_)
  show W p l e (rmq 3 72) s m args below meth c H locs 0 0 Q (F0 m 41 ls [.int x38, .ref (oa (3, 0))])
  obtain ⟨x41, h41, hf⟩ := bd_of hf
  refine r_callV (k := ((3, 0) : Ky)) C hW hl lk_X10_259 (c_X4_onlyOne h41) ⟨rfl, rfl⟩ ⟨Nat.le_of_ble_eq_true rfl, Nat.le_of_ble_eq_true rfl⟩ rfl rfl rfl (As := [.int x38]) (rest := []) rfl rfl (Nat.le_of_ble_eq_true rfl) dX10_knows_41 ⟨Nat.zero_le _, Nat.zero_le _⟩ (fun H locs hW => ?_)
  show W p l e (rmq 3 72) s m args below meth c H locs 0 0 Q (F0 m 44 ls [.int x41])
  obtain rfl := Option.some.inj hf
  rw [hQ]
  exact r_iret C hr hk hW rfl rfl dX10_knows_44
set_option maxHeartbeats 4000000 in
set_option maxRecDepth 100000 in
theorem c_X10_thinks {l : Launch} {D : va_G} {tc : Nat → ClassId} {ro : Ro} {oa : Ky → Nat} {aa : Nat → Nat} {sh : Sh} {μ : Mm} {v1 v2 v3 : Int32} {res : Int32 × Mm} (hwf : WfS sh) (hf : f_X10_thinks sh μ v1 v2 v3 = some res) : Ct l D tc ro (faB oa aa sh) (feB tc oa aa sh) yX10_thinks cX10_thinks 4 (some .boolean) (rmq 5 118) [.ref (oa (0, 0)), .int v1, .int v2, .int v3] μ (some (.int res.1)) res.2 := by
  refine Ct.of (by decide) (Nat.le_of_ble_eq_true rfl) (fun p e s m args below meth c A C hr hk hW ls hl => ?_)
  have hx := C.1.1
  have hb := C.1.2.1
  obtain ⟨Q, hQ⟩ : ∃ Q, Q = MQ below (Ctq D (faB oa aa sh) (feB tc oa aa sh) (some (.int res.1)) res.2 A) args s 0 0 A := ⟨_, rfl⟩
  rw [← hQ]
  have hl : lv_has ls 4 [(0, .ref (oa (0, 0))), (1, .int v1), (2, .int v2), (3, .int v3)] := hl
  unfold f_X10_thinks at hf
  refine lv_aload_n hx hb dX10_thinks_0 rfl (lv_at hl 0 rfl) ?_
  refine lv_iload_n hx hb dX10_thinks_1 rfl (lv_at hl 1 rfl) ?_
  obtain ⟨x2, h2, hf⟩ := bd_of hf
  refine r_callV (k := ((0, 0) : Ky)) C hW hl lk_X10_141 (c_X10_needPerson hwf h2) ⟨rfl, rfl⟩ ⟨Nat.le_of_ble_eq_true rfl, Nat.le_of_ble_eq_true rfl⟩ rfl rfl rfl (As := [.int v1]) (rest := []) rfl rfl (Nat.le_of_ble_eq_true rfl) dX10_thinks_2 ⟨Nat.zero_le _, Nat.zero_le _⟩ (fun H locs hW => ?_)
  show W p l e (rmq 5 118) s m args below meth c H locs 0 0 Q (F0 m 5 ls [])
  refine lv_aload_n hx hb dX10_thinks_5 rfl (lv_at hl 0 rfl) ?_
  refine lv_iload_n hx hb dX10_thinks_6 rfl (lv_at hl 2 rfl) ?_
  obtain ⟨x7, h7, hf⟩ := bd_of hf
  refine r_callV (k := ((0, 0) : Ky)) C hW hl lk_X10_141 (c_X10_needPerson hwf h7) ⟨rfl, rfl⟩ ⟨Nat.le_of_ble_eq_true rfl, Nat.le_of_ble_eq_true rfl⟩ rfl rfl rfl (As := [.int v2]) (rest := []) rfl rfl (Nat.le_of_ble_eq_true rfl) dX10_thinks_7 ⟨Nat.zero_le _, Nat.zero_le _⟩ (fun H locs hW => ?_)
  show W p l e (rmq 5 118) s m args below meth c H locs 0 0 Q (F0 m 10 ls [])
  refine lv_aload_n hx hb dX10_thinks_10 rfl (lv_at hl 0 rfl) ?_
  refine lv_iload_n hx hb dX10_thinks_11 rfl (lv_at hl 3 rfl) ?_
  obtain ⟨x12, h12, hf⟩ := bd_of hf
  refine r_callV (k := ((0, 0) : Ky)) C hW hl lk_X10_141 (c_X10_needPerson hwf h12) ⟨rfl, rfl⟩ ⟨Nat.le_of_ble_eq_true rfl, Nat.le_of_ble_eq_true rfl⟩ rfl rfl rfl (As := [.int v3]) (rest := []) rfl rfl (Nat.le_of_ble_eq_true rfl) dX10_thinks_12 ⟨Nat.zero_le _, Nat.zero_le _⟩ (fun H locs hW => ?_)
  show W p l e (rmq 5 118) s m args below meth c H locs 0 0 Q (F0 m 15 ls [])
  refine lv_aload_n hx hb dX10_thinks_15 rfl (lv_at hl 0 rfl) ?_
  refine gf_X10_19 C hW dX10_thinks_16 ?_
  refine lv_aload_n hx hb dX10_thinks_19 rfl (lv_at hl 0 rfl) ?_
  refine gf_X10_60 C hW dX10_thinks_20 ?_
  refine lv_iload_n hx hb dX10_thinks_23 rfl (lv_at hl 1 rfl) ?_
  refine lv_iload_n hx hb dX10_thinks_24 rfl (lv_at hl 2 rfl) ?_
  refine lv_iload_n hx hb dX10_thinks_25 rfl (lv_at hl 3 rfl) ?_
  obtain ⟨x26, h26, hf⟩ := bd_of hf
  refine r_callV (k := ((3, 0) : Ky)) C hW hl lk_X10_262 (c_X4_knowsThat hwf hwf.2.1 h26) ⟨rfl, rfl⟩ ⟨Nat.le_of_ble_eq_true rfl, Nat.le_of_ble_eq_true rfl⟩ rfl rfl rfl (As := [.ref (oa (13, sh 4 0)), .int v1, .int v2, .int v3]) (rest := []) rfl rfl (Nat.le_of_ble_eq_true rfl) dX10_thinks_26 ⟨Nat.zero_le _, Nat.zero_le _⟩ (fun H locs hW => ?_)
  show W p l e (rmq 5 118) s m args below meth c H locs 0 0 Q (F0 m 29 ls [.int x26.1])
  obtain ⟨hz1, hf⟩ := cb_of hf
  obtain rfl := Option.some.inj hf
  rw [hQ]
  exact r_zret C hr hk hW hz1 rfl rfl dX10_thinks_29
set_option maxHeartbeats 4000000 in
set_option maxRecDepth 100000 in
theorem c_X10_common {l : Launch} {D : va_G} {tc : Nat → ClassId} {ro : Ro} {oa : Ky → Nat} {aa : Nat → Nat} {sh : Sh} {μ : Mm} {v1 : Int32} {res : Int32 × Mm} (hwf : WfS sh) (hf : f_X10_common sh μ v1 = some res) : Ct l D tc ro (faB oa aa sh) (feB tc oa aa sh) yX10_common cX10_common 2 (some .int) (rmq 5 117) [.ref (oa (0, 0)), .int v1] μ (some (.int res.1)) res.2 := by
  refine Ct.of (by decide) (Nat.le_of_ble_eq_true rfl) (fun p e s m args below meth c A C hr hk hW ls hl => ?_)
  have hx := C.1.1
  have hb := C.1.2.1
  obtain ⟨Q, hQ⟩ : ∃ Q, Q = MQ below (Ctq D (faB oa aa sh) (feB tc oa aa sh) (some (.int res.1)) res.2 A) args s 0 0 A := ⟨_, rfl⟩
  rw [← hQ]
  have hl : lv_has ls 2 [(0, .ref (oa (0, 0))), (1, .int v1)] := hl
  unfold f_X10_common at hf
  refine lv_aload_n hx hb dX10_common_0 rfl (lv_at hl 0 rfl) ?_
  refine lv_iload_n hx hb dX10_common_1 rfl (lv_at hl 1 rfl) ?_
  obtain ⟨x2, h2, hf⟩ := bd_of hf
  refine r_callV (k := ((0, 0) : Ky)) C hW hl lk_X10_141 (c_X10_needPerson hwf h2) ⟨rfl, rfl⟩ ⟨Nat.le_of_ble_eq_true rfl, Nat.le_of_ble_eq_true rfl⟩ rfl rfl rfl (As := [.int v1]) (rest := []) rfl rfl (Nat.le_of_ble_eq_true rfl) dX10_common_2 ⟨Nat.zero_le _, Nat.zero_le _⟩ (fun H locs hW => ?_)
  show W p l e (rmq 5 117) s m args below meth c H locs 0 0 Q (F0 m 5 ls [])
  refine lv_aload_n hx hb dX10_common_5 rfl (lv_at hl 0 rfl) ?_
  refine gf_X10_19 C hW dX10_common_6 ?_
  refine lv_aload_n hx hb dX10_common_9 rfl (lv_at hl 0 rfl) ?_
  refine gf_X10_60 C hW dX10_common_10 ?_
  refine lv_iload_n hx hb dX10_common_13 rfl (lv_at hl 1 rfl) ?_
  obtain ⟨x14, h14, hf⟩ := bd_of hf
  refine r_callV (k := ((3, 0) : Ky)) C hW hl lk_X10_266 (c_X4_knownByAll hwf hwf.2.1 h14) ⟨rfl, rfl⟩ ⟨Nat.le_of_ble_eq_true rfl, Nat.le_of_ble_eq_true rfl⟩ rfl rfl rfl (As := [.ref (oa (13, sh 4 0)), .int v1]) (rest := []) rfl rfl (Nat.le_of_ble_eq_true rfl) dX10_common_14 ⟨Nat.zero_le _, Nat.zero_le _⟩ (fun H locs hW => ?_)
  show W p l e (rmq 5 117) s m args below meth c H locs 0 0 Q (F0 m 17 ls [.int x14.1])
  obtain rfl := Option.some.inj hf
  rw [hQ]
  exact r_iret C hr hk hW rfl rfl dX10_common_17
set_option maxHeartbeats 4000000 in
set_option maxRecDepth 100000 in
theorem c_X10_needPersonOrNone {l : Launch} {D : va_G} {tc : Nat → ClassId} {ro : Ro} {oa : Ky → Nat} {aa : Nat → Nat} {sh : Sh} {μ : Mm} {v1 : Int32} {res : Unit} (hwf : WfS sh) (hf : f_X10_needPersonOrNone sh μ v1 = some res) : Ct l D tc ro (faB oa aa sh) (feB tc oa aa sh) yX10_needPersonOrNone cX10_needPersonOrNone 2 none (rmq 2 42) [.ref (oa (0, 0)), .int v1] μ none μ := by
  refine Ct.of (by decide) (Nat.le_of_ble_eq_true rfl) (fun p e s m args below meth c A C hr hk hW ls hl => ?_)
  have hx := C.1.1
  have hb := C.1.2.1
  obtain ⟨Q, hQ⟩ : ∃ Q, Q = MQ below (Ctq D (faB oa aa sh) (feB tc oa aa sh) none μ A) args s 0 0 A := ⟨_, rfl⟩
  rw [← hQ]
  have hl : lv_has ls 2 [(0, .ref (oa (0, 0))), (1, .int v1)] := hl
  unfold f_X10_needPersonOrNone at hf
  refine lv_iload_n hx hb dX10_needPersonOrNone_0 rfl (lv_at hl 1 rfl) ?_
  refine lv_iconst (v := -1) hx hb dX10_needPersonOrNone_1 (by decide) ?_
  refine lv_icmp_eq (tgt := 10) hx hb dX10_needPersonOrNone_2 (by decide) (fun c1 => ?_) (fun c1 => ?_)
  · have hf := (if_pos c1).symm.trans hf
    obtain rfl := Option.some.inj hf
    rw [hQ]
    exact r_vret C hr hk hW rfl rfl dX10_needPersonOrNone_10
  · have hf := (if_neg c1).symm.trans hf
    refine lv_aload_n hx hb dX10_needPersonOrNone_5 rfl (lv_at hl 0 rfl) ?_
    refine lv_iload_n hx hb dX10_needPersonOrNone_6 rfl (lv_at hl 1 rfl) ?_
    obtain ⟨x7, h7, hf⟩ := bd_of hf
    refine r_callV (k := ((0, 0) : Ky)) C hW hl lk_X10_141 (c_X10_needPerson hwf h7) ⟨rfl, rfl⟩ ⟨Nat.le_of_ble_eq_true rfl, Nat.le_of_ble_eq_true rfl⟩ rfl rfl rfl (As := [.int v1]) (rest := []) rfl rfl (Nat.le_of_ble_eq_true rfl) dX10_needPersonOrNone_7 ⟨Nat.zero_le _, Nat.zero_le _⟩ (fun H locs hW => ?_)
    show W p l e (rmq 2 42) s m args below meth c H locs 0 0 Q (F0 m 10 ls [])
    obtain rfl := Option.some.inj hf
    rw [hQ]
    exact r_vret C hr hk hW rfl rfl dX10_needPersonOrNone_10
set_option maxHeartbeats 4000000 in
set_option maxRecDepth 100000 in
theorem c_X10_muddy {l : Launch} {D : va_G} {tc : Nat → ClassId} {ro : Ro} {oa : Ky → Nat} {aa : Nat → Nat} {sh : Sh} {μ : Mm} {v1 : Int32} {res : Int32 × Mm} (hwf : WfS sh) (hf : f_X10_muddy sh μ v1 = some res) : Ct l D tc ro (faB oa aa sh) (feB tc oa aa sh) yX10_muddy cX10_muddy 2 (some .int) (rmq 6 141) [.ref (oa (0, 0)), .int v1] μ (some (.int res.1)) res.2 := by
  refine Ct.of (by decide) (Nat.le_of_ble_eq_true rfl) (fun p e s m args below meth c A C hr hk hW ls hl => ?_)
  have hx := C.1.1
  have hb := C.1.2.1
  obtain ⟨Q, hQ⟩ : ∃ Q, Q = MQ below (Ctq D (faB oa aa sh) (feB tc oa aa sh) (some (.int res.1)) res.2 A) args s 0 0 A := ⟨_, rfl⟩
  rw [← hQ]
  have hl : lv_has ls 2 [(0, .ref (oa (0, 0))), (1, .int v1)] := hl
  unfold f_X10_muddy at hf
  refine lv_aload_n hx hb dX10_muddy_0 rfl (lv_at hl 0 rfl) ?_
  refine lv_iload_n hx hb dX10_muddy_1 rfl (lv_at hl 1 rfl) ?_
  obtain ⟨x2, h2, hf⟩ := bd_of hf
  refine r_callV (k := ((0, 0) : Ky)) C hW hl lk_X10_269 (c_X10_needPersonOrNone hwf h2) ⟨rfl, rfl⟩ ⟨Nat.le_of_ble_eq_true rfl, Nat.le_of_ble_eq_true rfl⟩ rfl rfl rfl (As := [.int v1]) (rest := []) rfl rfl (Nat.le_of_ble_eq_true rfl) dX10_muddy_2 ⟨Nat.zero_le _, Nat.zero_le _⟩ (fun H locs hW => ?_)
  show W p l e (rmq 6 141) s m args below meth c H locs 0 0 Q (F0 m 5 ls [])
  refine lv_aload_n hx hb dX10_muddy_5 rfl (lv_at hl 0 rfl) ?_
  refine gf_X10_19 C hW dX10_muddy_6 ?_
  refine lv_aload_n hx hb dX10_muddy_9 rfl (lv_at hl 0 rfl) ?_
  refine gf_X10_60 C hW dX10_muddy_10 ?_
  refine lv_iload_n hx hb dX10_muddy_13 rfl (lv_at hl 1 rfl) ?_
  obtain ⟨x14, h14, hf⟩ := bd_of hf
  refine r_callV (k := ((3, 0) : Ky)) C hW hl lk_X10_272 (c_X4_daysUntilSure hwf hwf.2.1 h14) ⟨rfl, rfl⟩ ⟨Nat.le_of_ble_eq_true rfl, Nat.le_of_ble_eq_true rfl⟩ rfl rfl rfl (As := [.ref (oa (13, sh 4 0)), .int v1]) (rest := []) rfl rfl (Nat.le_of_ble_eq_true rfl) dX10_muddy_14 ⟨Nat.zero_le _, Nat.zero_le _⟩ (fun H locs hW => ?_)
  show W p l e (rmq 6 141) s m args below meth c H locs 0 0 Q (F0 m 17 ls [.int x14.1])
  obtain rfl := Option.some.inj hf
  rw [hQ]
  exact r_iret C hr hk hW rfl rfl dX10_muddy_17
set_option maxHeartbeats 4000000 in
set_option maxRecDepth 100000 in
theorem c_X10_backs {l : Launch} {D : va_G} {tc : Nat → ClassId} {ro : Ro} {oa : Ky → Nat} {aa : Nat → Nat} {sh : Sh} {μ : Mm} {v1 : Int32} {res : Int32 × Mm} (hwf : WfS sh) (hf : f_X10_backs sh μ v1 = some res) : Ct l D tc ro (faB oa aa sh) (feB tc oa aa sh) yX10_backs cX10_backs 2 (some .int) (rmq 5 117) [.ref (oa (0, 0)), .int v1] μ (some (.int res.1)) res.2 := by
  refine Ct.of (by decide) (Nat.le_of_ble_eq_true rfl) (fun p e s m args below meth c A C hr hk hW ls hl => ?_)
  have hx := C.1.1
  have hb := C.1.2.1
  obtain ⟨Q, hQ⟩ : ∃ Q, Q = MQ below (Ctq D (faB oa aa sh) (feB tc oa aa sh) (some (.int res.1)) res.2 A) args s 0 0 A := ⟨_, rfl⟩
  rw [← hQ]
  have hl : lv_has ls 2 [(0, .ref (oa (0, 0))), (1, .int v1)] := hl
  unfold f_X10_backs at hf
  refine lv_aload_n hx hb dX10_backs_0 rfl (lv_at hl 0 rfl) ?_
  refine lv_iload_n hx hb dX10_backs_1 rfl (lv_at hl 1 rfl) ?_
  obtain ⟨x2, h2, hf⟩ := bd_of hf
  refine r_callV (k := ((0, 0) : Ky)) C hW hl lk_X10_141 (c_X10_needPerson hwf h2) ⟨rfl, rfl⟩ ⟨Nat.le_of_ble_eq_true rfl, Nat.le_of_ble_eq_true rfl⟩ rfl rfl rfl (As := [.int v1]) (rest := []) rfl rfl (Nat.le_of_ble_eq_true rfl) dX10_backs_2 ⟨Nat.zero_le _, Nat.zero_le _⟩ (fun H locs hW => ?_)
  show W p l e (rmq 5 117) s m args below meth c H locs 0 0 Q (F0 m 5 ls [])
  refine lv_aload_n hx hb dX10_backs_5 rfl (lv_at hl 0 rfl) ?_
  refine gf_X10_35 C hW dX10_backs_6 ?_
  refine lv_aload_n hx hb dX10_backs_9 rfl (lv_at hl 0 rfl) ?_
  refine gf_X10_60 C hW dX10_backs_10 ?_
  refine lv_iload_n hx hb dX10_backs_13 rfl (lv_at hl 1 rfl) ?_
  obtain ⟨x14, h14, hf⟩ := bd_of hf
  refine r_callV (k := ((5, 0) : Ky)) C hW hl lk_X10_275 (c_X5_fewestBacks hwf hwf.2.1 h14) ⟨rfl, rfl⟩ ⟨Nat.le_of_ble_eq_true rfl, Nat.le_of_ble_eq_true rfl⟩ rfl rfl rfl (As := [.ref (oa (13, sh 4 0)), .int v1]) (rest := []) rfl rfl (Nat.le_of_ble_eq_true rfl) dX10_backs_14 ⟨Nat.zero_le _, Nat.zero_le _⟩ (fun H locs hW => ?_)
  show W p l e (rmq 5 117) s m args below meth c H locs 0 0 Q (F0 m 17 ls [.int x14.1])
  obtain rfl := Option.some.inj hf
  rw [hQ]
  exact r_iret C hr hk hW rfl rfl dX10_backs_17
set_option maxHeartbeats 4000000 in
set_option maxRecDepth 100000 in
theorem c_X10_gives {l : Launch} {D : va_G} {tc : Nat → ClassId} {ro : Ro} {oa : Ky → Nat} {aa : Nat → Nat} {sh : Sh} {μ : Mm} {v1 : Int32} {res : Int32 × Mm} (hwf : WfS sh) (hf : f_X10_gives sh μ v1 = some res) : Ct l D tc ro (faB oa aa sh) (feB tc oa aa sh) yX10_gives cX10_gives 2 (some .int) (rmq 7 166) [.ref (oa (0, 0)), .int v1] μ (some (.int res.1)) res.2 := by
  refine Ct.of (by decide) (Nat.le_of_ble_eq_true rfl) (fun p e s m args below meth c A C hr hk hW ls hl => ?_)
  have hx := C.1.1
  have hb := C.1.2.1
  obtain ⟨Q, hQ⟩ : ∃ Q, Q = MQ below (Ctq D (faB oa aa sh) (feB tc oa aa sh) (some (.int res.1)) res.2 A) args s 0 0 A := ⟨_, rfl⟩
  rw [← hQ]
  have hl : lv_has ls 2 [(0, .ref (oa (0, 0))), (1, .int v1)] := hl
  unfold f_X10_gives at hf
  refine lv_aload_n hx hb dX10_gives_0 rfl (lv_at hl 0 rfl) ?_
  refine lv_iload_n hx hb dX10_gives_1 rfl (lv_at hl 1 rfl) ?_
  obtain ⟨x2, h2, hf⟩ := bd_of hf
  refine r_callV (k := ((0, 0) : Ky)) C hW hl lk_X10_141 (c_X10_needPerson hwf h2) ⟨rfl, rfl⟩ ⟨Nat.le_of_ble_eq_true rfl, Nat.le_of_ble_eq_true rfl⟩ rfl rfl rfl (As := [.int v1]) (rest := []) rfl rfl (Nat.le_of_ble_eq_true rfl) dX10_gives_2 ⟨Nat.zero_le _, Nat.zero_le _⟩ (fun H locs hW => ?_)
  show W p l e (rmq 7 166) s m args below meth c H locs 0 0 Q (F0 m 5 ls [])
  refine lv_aload_n hx hb dX10_gives_5 rfl (lv_at hl 0 rfl) ?_
  refine gf_X10_19 C hW dX10_gives_6 ?_
  refine lv_aload_n hx hb dX10_gives_9 rfl (lv_at hl 0 rfl) ?_
  refine gf_X10_60 C hW dX10_gives_10 ?_
  refine lv_iload_n hx hb dX10_gives_13 rfl (lv_at hl 1 rfl) ?_
  obtain ⟨x14, h14, hf⟩ := bd_of hf
  refine r_callV (k := ((3, 0) : Ky)) C hW hl lk_X10_278 (c_X4_whoGivesAway hwf hwf.2.1 h14) ⟨rfl, rfl⟩ ⟨Nat.le_of_ble_eq_true rfl, Nat.le_of_ble_eq_true rfl⟩ rfl rfl rfl (As := [.ref (oa (13, sh 4 0)), .int v1]) (rest := []) rfl rfl (Nat.le_of_ble_eq_true rfl) dX10_gives_14 ⟨Nat.zero_le _, Nat.zero_le _⟩ (fun H locs hW => ?_)
  show W p l e (rmq 7 166) s m args below meth c H locs 0 0 Q (F0 m 17 ls [.int x14.1])
  obtain rfl := Option.some.inj hf
  rw [hQ]
  exact r_iret C hr hk hW rfl rfl dX10_gives_17
set_option maxHeartbeats 4000000 in
set_option maxRecDepth 100000 in
theorem c_X10_never {l : Launch} {D : va_G} {tc : Nat → ClassId} {ro : Ro} {oa : Ky → Nat} {aa : Nat → Nat} {sh : Sh} {μ : Mm} {v1 : Int32} {res : Int32 × Mm} (hwf : WfS sh) (hf : f_X10_never sh μ v1 = some res) : Ct l D tc ro (faB oa aa sh) (feB tc oa aa sh) yX10_never cX10_never 2 (some .int) (rmq 7 166) [.ref (oa (0, 0)), .int v1] μ (some (.int res.1)) res.2 := by
  refine Ct.of (by decide) (Nat.le_of_ble_eq_true rfl) (fun p e s m args below meth c A C hr hk hW ls hl => ?_)
  have hx := C.1.1
  have hb := C.1.2.1
  obtain ⟨Q, hQ⟩ : ∃ Q, Q = MQ below (Ctq D (faB oa aa sh) (feB tc oa aa sh) (some (.int res.1)) res.2 A) args s 0 0 A := ⟨_, rfl⟩
  rw [← hQ]
  have hl : lv_has ls 2 [(0, .ref (oa (0, 0))), (1, .int v1)] := hl
  unfold f_X10_never at hf
  refine lv_aload_n hx hb dX10_never_0 rfl (lv_at hl 0 rfl) ?_
  refine lv_iload_n hx hb dX10_never_1 rfl (lv_at hl 1 rfl) ?_
  obtain ⟨x2, h2, hf⟩ := bd_of hf
  refine r_callV (k := ((0, 0) : Ky)) C hW hl lk_X10_141 (c_X10_needPerson hwf h2) ⟨rfl, rfl⟩ ⟨Nat.le_of_ble_eq_true rfl, Nat.le_of_ble_eq_true rfl⟩ rfl rfl rfl (As := [.int v1]) (rest := []) rfl rfl (Nat.le_of_ble_eq_true rfl) dX10_never_2 ⟨Nat.zero_le _, Nat.zero_le _⟩ (fun H locs hW => ?_)
  show W p l e (rmq 7 166) s m args below meth c H locs 0 0 Q (F0 m 5 ls [])
  refine lv_aload_n hx hb dX10_never_5 rfl (lv_at hl 0 rfl) ?_
  refine gf_X10_19 C hW dX10_never_6 ?_
  refine lv_aload_n hx hb dX10_never_9 rfl (lv_at hl 0 rfl) ?_
  refine gf_X10_60 C hW dX10_never_10 ?_
  refine lv_iload_n hx hb dX10_never_13 rfl (lv_at hl 1 rfl) ?_
  obtain ⟨x14, h14, hf⟩ := bd_of hf
  refine r_callV (k := ((3, 0) : Ky)) C hW hl lk_X10_281 (c_X4_whoNeverGivesAway hwf hwf.2.1 h14) ⟨rfl, rfl⟩ ⟨Nat.le_of_ble_eq_true rfl, Nat.le_of_ble_eq_true rfl⟩ rfl rfl rfl (As := [.ref (oa (13, sh 4 0)), .int v1]) (rest := []) rfl rfl (Nat.le_of_ble_eq_true rfl) dX10_never_14 ⟨Nat.zero_le _, Nat.zero_le _⟩ (fun H locs hW => ?_)
  show W p l e (rmq 7 166) s m args below meth c H locs 0 0 Q (F0 m 17 ls [.int x14.1])
  obtain rfl := Option.some.inj hf
  rw [hQ]
  exact r_iret C hr hk hW rfl rfl dX10_never_17
set_option maxHeartbeats 4000000 in
set_option maxRecDepth 100000 in
theorem c_X10_question {l : Launch} {D : va_G} {tc : Nat → ClassId} {ro : Ro} {oa : Ky → Nat} {aa : Nat → Nat} {sh : Sh} {μ : Mm} {v1 : Int32} {res : Int32 × Mm} (hwf : WfS sh) (hf : f_X10_question sh μ v1 = some res) : Ct l D tc ro (faB oa aa sh) (feB tc oa aa sh) yX10_question cX10_question 2 (some .int) (rmq 7 169) [.ref (oa (0, 0)), .int v1] μ (some (.int res.1)) res.2 := by
  refine Ct.of (by decide) (Nat.le_of_ble_eq_true rfl) (fun p e s m args below meth c A C hr hk hW ls hl => ?_)
  have hx := C.1.1
  have hb := C.1.2.1
  obtain ⟨Q, hQ⟩ : ∃ Q, Q = MQ below (Ctq D (faB oa aa sh) (feB tc oa aa sh) (some (.int res.1)) res.2 A) args s 0 0 A := ⟨_, rfl⟩
  rw [← hQ]
  have hl : lv_has ls 2 [(0, .ref (oa (0, 0))), (1, .int v1)] := hl
  unfold f_X10_question at hf
  refine lv_aload_n hx hb dX10_question_0 rfl (lv_at hl 0 rfl) ?_
  refine lv_iload_n hx hb dX10_question_1 rfl (lv_at hl 1 rfl) ?_
  obtain ⟨x2, h2, hf⟩ := bd_of hf
  refine r_callV (k := ((0, 0) : Ky)) C hW hl lk_X10_141 (c_X10_needPerson hwf h2) ⟨rfl, rfl⟩ ⟨Nat.le_of_ble_eq_true rfl, Nat.le_of_ble_eq_true rfl⟩ rfl rfl rfl (As := [.int v1]) (rest := []) rfl rfl (Nat.le_of_ble_eq_true rfl) dX10_question_2 ⟨Nat.zero_le _, Nat.zero_le _⟩ (fun H locs hW => ?_)
  show W p l e (rmq 7 169) s m args below meth c H locs 0 0 Q (F0 m 5 ls [])
  refine lv_aload_n hx hb dX10_question_5 rfl (lv_at hl 0 rfl) ?_
  refine gf_X10_35 C hW dX10_question_6 ?_
  refine lv_aload_n hx hb dX10_question_9 rfl (lv_at hl 0 rfl) ?_
  refine gf_X10_60 C hW dX10_question_10 ?_
  refine lv_iload_n hx hb dX10_question_13 rfl (lv_at hl 1 rfl) ?_
  obtain ⟨x14, h14, hf⟩ := bd_of hf
  refine r_callV (k := ((5, 0) : Ky)) C hW hl lk_X10_284 (c_X5_firstQuestion hwf hwf.2.1 h14) ⟨rfl, rfl⟩ ⟨Nat.le_of_ble_eq_true rfl, Nat.le_of_ble_eq_true rfl⟩ rfl rfl rfl (As := [.ref (oa (13, sh 4 0)), .int v1]) (rest := []) rfl rfl (Nat.le_of_ble_eq_true rfl) dX10_question_14 ⟨Nat.zero_le _, Nat.zero_le _⟩ (fun H locs hW => ?_)
  show W p l e (rmq 7 169) s m args below meth c H locs 0 0 Q (F0 m 17 ls [.int x14.1])
  obtain rfl := Option.some.inj hf
  rw [hQ]
  exact r_iret C hr hk hW rfl rfl dX10_question_17
set_option maxHeartbeats 4000000 in
set_option maxRecDepth 100000 in
theorem c_X10_queries {l : Launch} {D : va_G} {tc : Nat → ClassId} {ro : Ro} {oa : Ky → Nat} {aa : Nat → Nat} {sh : Sh} {μ : Mm} {v1 : Int32} {res : Int32 × Mm} (hwf : WfS sh) (hf : f_X10_queries sh μ v1 = some res) : Ct l D tc ro (faB oa aa sh) (feB tc oa aa sh) yX10_queries cX10_queries 2 (some .int) (rmq 8 194) [.ref (oa (0, 0)), .int v1] μ (some (.int res.1)) res.2 := by
  refine Ct.of (by decide) (Nat.le_of_ble_eq_true rfl) (fun p e s m args below meth c A C hr hk hW ls hl => ?_)
  have hx := C.1.1
  have hb := C.1.2.1
  obtain ⟨Q, hQ⟩ : ∃ Q, Q = MQ below (Ctq D (faB oa aa sh) (feB tc oa aa sh) (some (.int res.1)) res.2 A) args s 0 0 A := ⟨_, rfl⟩
  rw [← hQ]
  have hl : lv_has ls 2 [(0, .ref (oa (0, 0))), (1, .int v1)] := hl
  unfold f_X10_queries at hf
  refine lv_aload_n hx hb dX10_queries_0 rfl (lv_at hl 0 rfl) ?_
  refine lv_iload_n hx hb dX10_queries_1 rfl (lv_at hl 1 rfl) ?_
  obtain ⟨x2, h2, hf⟩ := bd_of hf
  refine r_callV (k := ((0, 0) : Ky)) C hW hl lk_X10_141 (c_X10_needPerson hwf h2) ⟨rfl, rfl⟩ ⟨Nat.le_of_ble_eq_true rfl, Nat.le_of_ble_eq_true rfl⟩ rfl rfl rfl (As := [.int v1]) (rest := []) rfl rfl (Nat.le_of_ble_eq_true rfl) dX10_queries_2 ⟨Nat.zero_le _, Nat.zero_le _⟩ (fun H locs hW => ?_)
  show W p l e (rmq 8 194) s m args below meth c H locs 0 0 Q (F0 m 5 ls [])
  refine lv_aload_n hx hb dX10_queries_5 rfl (lv_at hl 0 rfl) ?_
  refine gf_X10_35 C hW dX10_queries_6 ?_
  refine lv_aload_n hx hb dX10_queries_9 rfl (lv_at hl 0 rfl) ?_
  refine gf_X10_60 C hW dX10_queries_10 ?_
  refine lv_iload_n hx hb dX10_queries_13 rfl (lv_at hl 1 rfl) ?_
  obtain ⟨x14, h14, hf⟩ := bd_of hf
  refine r_callV (k := ((5, 0) : Ky)) C hW hl lk_X10_287 (c_X5_fewestQueries hwf hwf.2.1 h14) ⟨rfl, rfl⟩ ⟨Nat.le_of_ble_eq_true rfl, Nat.le_of_ble_eq_true rfl⟩ rfl rfl rfl (As := [.ref (oa (13, sh 4 0)), .int v1]) (rest := []) rfl rfl (Nat.le_of_ble_eq_true rfl) dX10_queries_14 ⟨Nat.zero_le _, Nat.zero_le _⟩ (fun H locs hW => ?_)
  show W p l e (rmq 8 194) s m args below meth c H locs 0 0 Q (F0 m 17 ls [.int x14.1])
  obtain rfl := Option.some.inj hf
  rw [hQ]
  exact r_iret C hr hk hW rfl rfl dX10_queries_17
set_option maxHeartbeats 4000000 in
set_option maxRecDepth 100000 in
theorem c_X10_spill {l : Launch} {D : va_G} {tc : Nat → ClassId} {ro : Ro} {oa : Ky → Nat} {aa : Nat → Nat} {sh : Sh} {μ : Mm} {v1 : Int32} {res : Int32 × Mm} (hwf : WfS sh) (hf : f_X10_spill sh μ v1 = some res) : Ct l D tc ro (faB oa aa sh) (feB tc oa aa sh) yX10_spill cX10_spill 2 (some .int) (rmq 5 120) [.ref (oa (0, 0)), .int v1] μ (some (.int res.1)) res.2 := by
  refine Ct.of (by decide) (Nat.le_of_ble_eq_true rfl) (fun p e s m args below meth c A C hr hk hW ls hl => ?_)
  have hx := C.1.1
  have hb := C.1.2.1
  obtain ⟨Q, hQ⟩ : ∃ Q, Q = MQ below (Ctq D (faB oa aa sh) (feB tc oa aa sh) (some (.int res.1)) res.2 A) args s 0 0 A := ⟨_, rfl⟩
  rw [← hQ]
  have hl : lv_has ls 2 [(0, .ref (oa (0, 0))), (1, .int v1)] := hl
  unfold f_X10_spill at hf
  refine lv_aload_n hx hb dX10_spill_0 rfl (lv_at hl 0 rfl) ?_
  refine lv_iload_n hx hb dX10_spill_1 rfl (lv_at hl 1 rfl) ?_
  obtain ⟨x2, h2, hf⟩ := bd_of hf
  refine r_callV (k := ((0, 0) : Ky)) C hW hl lk_X10_141 (c_X10_needPerson hwf h2) ⟨rfl, rfl⟩ ⟨Nat.le_of_ble_eq_true rfl, Nat.le_of_ble_eq_true rfl⟩ rfl rfl rfl (As := [.int v1]) (rest := []) rfl rfl (Nat.le_of_ble_eq_true rfl) dX10_spill_2 ⟨Nat.zero_le _, Nat.zero_le _⟩ (fun H locs hW => ?_)
  show W p l e (rmq 5 120) s m args below meth c H locs 0 0 Q (F0 m 5 ls [])
  refine lv_aload_n hx hb dX10_spill_5 rfl (lv_at hl 0 rfl) ?_
  refine gf_X10_19 C hW dX10_spill_6 ?_
  refine lv_aload_n hx hb dX10_spill_9 rfl (lv_at hl 0 rfl) ?_
  refine gf_X10_60 C hW dX10_spill_10 ?_
  refine lv_iload_n hx hb dX10_spill_13 rfl (lv_at hl 1 rfl) ?_
  obtain ⟨x14, h14, hf⟩ := bd_of hf
  refine r_callV (k := ((3, 0) : Ky)) C hW hl lk_X10_290 (c_X4_spilledBy hwf hwf.2.1 h14) ⟨rfl, rfl⟩ ⟨Nat.le_of_ble_eq_true rfl, Nat.le_of_ble_eq_true rfl⟩ rfl rfl rfl (As := [.ref (oa (13, sh 4 0)), .int v1]) (rest := []) rfl rfl (Nat.le_of_ble_eq_true rfl) dX10_spill_14 ⟨Nat.zero_le _, Nat.zero_le _⟩ (fun H locs hW => ?_)
  show W p l e (rmq 5 120) s m args below meth c H locs 0 0 Q (F0 m 17 ls [.int x14.1])
  obtain rfl := Option.some.inj hf
  rw [hQ]
  exact r_iret C hr hk hW rfl rfl dX10_spill_17
set_option maxHeartbeats 4000000 in
set_option maxRecDepth 100000 in
theorem c_X10_quiet {l : Launch} {D : va_G} {tc : Nat → ClassId} {ro : Ro} {oa : Ky → Nat} {aa : Nat → Nat} {sh : Sh} {μ : Mm} {res : Int32 × Mm} (hwf : WfS sh) (hf : f_X10_quiet sh μ = some res) : Ct l D tc ro (faB oa aa sh) (feB tc oa aa sh) yX10_quiet cX10_quiet 3 (some .int) (rmq 5 120) [.ref (oa (0, 0))] μ (some (.int res.1)) res.2 := by
  refine Ct.of (by decide) (Nat.le_of_ble_eq_true rfl) (fun p e s m args below meth c A C hr hk hW ls hl => ?_)
  have hx := C.1.1
  have hb := C.1.2.1
  obtain ⟨Q, hQ⟩ : ∃ Q, Q = MQ below (Ctq D (faB oa aa sh) (feB tc oa aa sh) (some (.int res.1)) res.2 A) args s 0 0 A := ⟨_, rfl⟩
  rw [← hQ]
  have hl : lv_has ls 3 [(0, .ref (oa (0, 0)))] := hl
  unfold f_X10_quiet at hf
  refine lv_iconst (v := 0) hx hb dX10_quiet_0 (by decide) ?_
  refine lv_istore_n (lv' := [(1, .int (0 : Int32)), (0, .ref (oa (0, 0)))]) hx hb dX10_quiet_1 rfl hl (by decide) rfl (fun ls hl => ?_)
  refine lv_iconst (v := 0) hx hb dX10_quiet_2 (by decide) ?_
  refine lv_istore_n (lv' := [(2, .int (0 : Int32)), (1, .int (0 : Int32)), (0, .ref (oa (0, 0)))]) hx hb dX10_quiet_3 rfl hl (by decide) rfl (fun ls hl => ?_)
  have L4 : ∀ (μ : Mm) (v1 v2 : Int32) (H : Heap) (locs : List Loc) (ls : Array Slot), Wh (fun z : Mm × Int32 × Int32 => f_X10_quiet_L4 sh z.1 z.2.1 z.2.2) (μ, v1, v2) = some res → Wd D (faB oa aa sh) (feB tc oa aa sh) A s.heap μ H locs → lv_has ls 3 [(0, .ref (oa (0, 0))), (1, .int v1), (2, .int v2)] → W p l e (rmq 5 120) s m args below meth c H locs 0 0 Q (F0 m 4 ls []) := by
    intro μ v1 v2 H locs ls hf hW hl
    refine Wh_rule hf (fun z : Mm × Int32 × Int32 => ∀ (H : Heap) (locs : List Loc) (ls : Array Slot), Wd D (faB oa aa sh) (feB tc oa aa sh) A s.heap z.1 H locs → lv_has ls 3 [(0, .ref (oa (0, 0))), (1, .int z.2.1), (2, .int z.2.2)] → W p l e (rmq 5 120) s m args below meth c H locs 0 0 Q (F0 m 4 ls [])) (fun z o1 hf Kl1 Kr1 => ?_) _ _ _ hW hl
    obtain ⟨μ, v1, v2⟩ := z
    intro H locs ls hW hl
    have hf : f_X10_quiet_L4 sh μ v1 v2 = some o1 := hf
    unfold f_X10_quiet_L4 at hf
    have hW : Wd D (faB oa aa sh) (feB tc oa aa sh) A s.heap μ H locs := hW
    have hl : lv_has ls 3 [(0, .ref (oa (0, 0))), (1, .int v1), (2, .int v2)] := hl
    refine lv_iload_n hx hb dX10_quiet_4 rfl (lv_at hl 2 rfl) ?_
    refine lv_aload_n hx hb dX10_quiet_5 rfl (lv_at hl 0 rfl) ?_
    refine gf_X10_60 C hW dX10_quiet_6 ?_
    refine gf_X10_293 C hW hwf.2.1 dX10_quiet_9 ?_
    refine lv_icmp_ge (tgt := 42) hx hb dX10_quiet_12 (by decide) (fun c1 => ?_) (fun c1 => ?_)
    · have hf := (if_pos c1).symm.trans hf
      obtain ⟨x9002, hf, hx9002⟩ := map_of hf
      have e9002 := (Kr1 _ hx9002.symm).symm
      subst e9002
      refine lv_iload_n hx hb dX10_quiet_42 rfl (lv_at hl 1 rfl) ?_
      obtain rfl := Option.some.inj hf
      rw [hQ]
      exact r_iret C hr hk hW rfl rfl dX10_quiet_43
    · have hf := (if_neg c1).symm.trans hf
      refine lv_aload_n hx hb dX10_quiet_15 rfl (lv_at hl 0 rfl) ?_
      refine gf_X10_19 C hW dX10_quiet_16 ?_
      refine lv_aload_n hx hb dX10_quiet_19 rfl (lv_at hl 0 rfl) ?_
      refine gf_X10_60 C hW dX10_quiet_20 ?_
      refine lv_iload_n hx hb dX10_quiet_23 rfl (lv_at hl 2 rfl) ?_
      obtain ⟨x24, h24, hf⟩ := bd_of hf
      refine r_callV (k := ((3, 0) : Ky)) C hW hl lk_X10_290 (c_X4_spilledBy hwf hwf.2.1 h24) ⟨rfl, rfl⟩ ⟨Nat.le_of_ble_eq_true rfl, Nat.le_of_ble_eq_true rfl⟩ rfl rfl rfl (As := [.ref (oa (13, sh 4 0)), .int v2]) (rest := []) rfl rfl (Nat.le_of_ble_eq_true rfl) dX10_quiet_24 ⟨Nat.zero_le _, Nat.zero_le _⟩ (fun H locs hW => ?_)
      show W p l e (rmq 5 120) s m args below meth c H locs 0 0 Q (F0 m 27 ls [.int x24.1])
      refine lv_if_ne (tgt := 36) hx hb dX10_quiet_27 (by decide) (fun c3 => ?_) (fun c3 => ?_)
      · have hf := (if_neg c3).symm.trans hf
        refine lv_iinc (v := (v2 + (1 : Int32))) (lv' := [(2, .int (v2 + (1 : Int32))), (0, .ref (oa (0, 0))), (1, .int v1)]) hx hb dX10_quiet_36 hl (k := 2) rfl rfl (by decide) rfl (fun ls hl => ?_)
        refine lv_goto (tgt := 4) hx hb dX10_quiet_39 (by decide) ?_
        obtain rfl := Option.some.inj hf
        exact Kl1 _ rfl _ _ _ hW (lv_sub hl [1, 2, 0] rfl)
      · have hf := (if_pos c3).symm.trans hf
        refine lv_iload_n hx hb dX10_quiet_30 rfl (lv_at hl 1 rfl) ?_
        refine lv_iconst (v := 1) hx hb dX10_quiet_31 (by decide) ?_
        refine lv_iload_n hx hb dX10_quiet_32 rfl (lv_at hl 2 rfl) ?_
        refine lv_ishl hx hb dX10_quiet_33 ?_
        refine lv_ior hx hb dX10_quiet_34 ?_
        refine lv_istore_n (lv' := [(1, .int (v1 ||| ((1 : Int32) <<< (v2 &&& 31)))), (0, .ref (oa (0, 0))), (2, .int v2)]) hx hb dX10_quiet_35 rfl hl (by decide) rfl (fun ls hl => ?_)
        refine lv_iinc (v := (v2 + (1 : Int32))) (lv' := [(2, .int (v2 + (1 : Int32))), (1, .int (v1 ||| ((1 : Int32) <<< (v2 &&& 31)))), (0, .ref (oa (0, 0)))]) hx hb dX10_quiet_36 hl (k := 2) rfl rfl (by decide) rfl (fun ls hl => ?_)
        refine lv_goto (tgt := 4) hx hb dX10_quiet_39 (by decide) ?_
        obtain rfl := Option.some.inj hf
        exact Kl1 _ rfl _ _ _ hW (lv_sub hl [2, 1, 0] rfl)
  exact L4 μ (0 : Int32) (0 : Int32) _ _ _ hf hW (lv_sub hl [2, 1, 0] rfl)
set_option maxHeartbeats 4000000 in
set_option maxRecDepth 100000 in
theorem c_X10_game {l : Launch} {D : va_G} {tc : Nat → ClassId} {ro : Ro} {oa : Ky → Nat} {aa : Nat → Nat} {sh : Sh} {μ : Mm} {v1 v2 : Int32} {res : Int32 × Mm} (hwf : WfS sh) (hf : f_X10_game sh μ v1 v2 = some res) : Ct l D tc ro (faB oa aa sh) (feB tc oa aa sh) yX10_game cX10_game 3 (some .int) (rmq 5 118) [.ref (oa (0, 0)), .int v1, .int v2] μ (some (.int res.1)) res.2 := by
  refine Ct.of (by decide) (Nat.le_of_ble_eq_true rfl) (fun p e s m args below meth c A C hr hk hW ls hl => ?_)
  have hx := C.1.1
  have hb := C.1.2.1
  obtain ⟨Q, hQ⟩ : ∃ Q, Q = MQ below (Ctq D (faB oa aa sh) (feB tc oa aa sh) (some (.int res.1)) res.2 A) args s 0 0 A := ⟨_, rfl⟩
  rw [← hQ]
  have hl : lv_has ls 3 [(0, .ref (oa (0, 0))), (1, .int v1), (2, .int v2)] := hl
  unfold f_X10_game at hf
  refine lv_aload_n hx hb dX10_game_0 rfl (lv_at hl 0 rfl) ?_
  refine lv_iload_n hx hb dX10_game_1 rfl (lv_at hl 1 rfl) ?_
  obtain ⟨x2, h2, hf⟩ := bd_of hf
  refine r_callV (k := ((0, 0) : Ky)) C hW hl lk_X10_141 (c_X10_needPerson hwf h2) ⟨rfl, rfl⟩ ⟨Nat.le_of_ble_eq_true rfl, Nat.le_of_ble_eq_true rfl⟩ rfl rfl rfl (As := [.int v1]) (rest := []) rfl rfl (Nat.le_of_ble_eq_true rfl) dX10_game_2 ⟨Nat.zero_le _, Nat.zero_le _⟩ (fun H locs hW => ?_)
  show W p l e (rmq 5 118) s m args below meth c H locs 0 0 Q (F0 m 5 ls [])
  refine lv_aload_n hx hb dX10_game_5 rfl (lv_at hl 0 rfl) ?_
  refine gf_X10_35 C hW dX10_game_6 ?_
  refine lv_aload_n hx hb dX10_game_9 rfl (lv_at hl 0 rfl) ?_
  refine gf_X10_60 C hW dX10_game_10 ?_
  refine lv_iload_n hx hb dX10_game_13 rfl (lv_at hl 1 rfl) ?_
  refine lv_iload_n hx hb dX10_game_14 rfl (lv_at hl 2 rfl) ?_
  obtain ⟨x15, h15, hf⟩ := bd_of hf
  refine r_callV (k := ((5, 0) : Ky)) C hW hl lk_X10_296 (c_X5_playGame hwf hwf.2.1 h15) ⟨rfl, rfl⟩ ⟨Nat.le_of_ble_eq_true rfl, Nat.le_of_ble_eq_true rfl⟩ rfl rfl rfl (As := [.ref (oa (13, sh 4 0)), .int v1, .int v2]) (rest := []) rfl rfl (Nat.le_of_ble_eq_true rfl) dX10_game_15 ⟨Nat.zero_le _, Nat.zero_le _⟩ (fun H locs hW => ?_)
  show W p l e (rmq 5 118) s m args below meth c H locs 0 0 Q (F0 m 18 ls [.int x15.1])
  obtain rfl := Option.some.inj hf
  rw [hQ]
  exact r_iret C hr hk hW rfl rfl dX10_game_18
set_option maxHeartbeats 4000000 in
set_option maxRecDepth 100000 in
theorem c_X10_steps {l : Launch} {D : va_G} {tc : Nat → ClassId} {ro : Ro} {oa : Ky → Nat} {aa : Nat → Nat} {sh : Sh} {μ : Mm} {v1 v2 : Int32} {res : Int32} (hwf : WfS sh) (hf : f_X10_steps sh μ v1 v2 = some res) : Ct l D tc ro (faB oa aa sh) (feB tc oa aa sh) yX10_steps cX10_steps 3 (some .int) (rmq 2 48) [.ref (oa (0, 0)), .int v1, .int v2] μ (some (.int res)) μ := by
  refine Ct.of (by decide) (Nat.le_of_ble_eq_true rfl) (fun p e s m args below meth c A C hr hk hW ls hl => ?_)
  have hx := C.1.1
  have hb := C.1.2.1
  obtain ⟨Q, hQ⟩ : ∃ Q, Q = MQ below (Ctq D (faB oa aa sh) (feB tc oa aa sh) (some (.int res)) μ A) args s 0 0 A := ⟨_, rfl⟩
  rw [← hQ]
  have hl : lv_has ls 3 [(0, .ref (oa (0, 0))), (1, .int v1), (2, .int v2)] := hl
  unfold f_X10_steps at hf
  refine lv_aload_n hx hb dX10_steps_0 rfl (lv_at hl 0 rfl) ?_
  refine lv_iload_n hx hb dX10_steps_1 rfl (lv_at hl 1 rfl) ?_
  obtain ⟨x2, h2, hf⟩ := bd_of hf
  refine r_callV (k := ((0, 0) : Ky)) C hW hl lk_X10_141 (c_X10_needPerson hwf h2) ⟨rfl, rfl⟩ ⟨Nat.le_of_ble_eq_true rfl, Nat.le_of_ble_eq_true rfl⟩ rfl rfl rfl (As := [.int v1]) (rest := []) rfl rfl (Nat.le_of_ble_eq_true rfl) dX10_steps_2 ⟨Nat.zero_le _, Nat.zero_le _⟩ (fun H locs hW => ?_)
  show W p l e (rmq 2 48) s m args below meth c H locs 0 0 Q (F0 m 5 ls [])
  refine lv_aload_n hx hb dX10_steps_5 rfl (lv_at hl 0 rfl) ?_
  refine lv_iload_n hx hb dX10_steps_6 rfl (lv_at hl 2 rfl) ?_
  obtain ⟨x7, h7, hf⟩ := bd_of hf
  refine r_callV (k := ((0, 0) : Ky)) C hW hl lk_X10_141 (c_X10_needPerson hwf h7) ⟨rfl, rfl⟩ ⟨Nat.le_of_ble_eq_true rfl, Nat.le_of_ble_eq_true rfl⟩ rfl rfl rfl (As := [.int v2]) (rest := []) rfl rfl (Nat.le_of_ble_eq_true rfl) dX10_steps_7 ⟨Nat.zero_le _, Nat.zero_le _⟩ (fun H locs hW => ?_)
  show W p l e (rmq 2 48) s m args below meth c H locs 0 0 Q (F0 m 10 ls [])
  refine lv_aload_n hx hb dX10_steps_10 rfl (lv_at hl 0 rfl) ?_
  refine gf_X10_35 C hW dX10_steps_11 ?_
  refine lv_aload_n hx hb dX10_steps_14 rfl (lv_at hl 0 rfl) ?_
  refine gf_X10_60 C hW dX10_steps_15 ?_
  refine lv_iload_n hx hb dX10_steps_18 rfl (lv_at hl 1 rfl) ?_
  refine lv_iload_n hx hb dX10_steps_19 rfl (lv_at hl 2 rfl) ?_
  obtain ⟨x20, h20, hf⟩ := bd_of hf
  refine r_callV (k := ((5, 0) : Ky)) C hW hl lk_X10_300 (c_X5_stepsBetween hwf hwf.2.1 h20) ⟨rfl, rfl⟩ ⟨Nat.le_of_ble_eq_true rfl, Nat.le_of_ble_eq_true rfl⟩ rfl rfl rfl (As := [.ref (oa (13, sh 4 0)), .int v1, .int v2]) (rest := []) rfl rfl (Nat.le_of_ble_eq_true rfl) dX10_steps_20 ⟨Nat.zero_le _, Nat.zero_le _⟩ (fun H locs hW => ?_)
  show W p l e (rmq 2 48) s m args below meth c H locs 0 0 Q (F0 m 23 ls [.int x20])
  obtain rfl := Option.some.inj hf
  rw [hQ]
  exact r_iret C hr hk hW rfl rfl dX10_steps_23
set_option maxHeartbeats 4000000 in
set_option maxRecDepth 100000 in
theorem c_X10_sureBehindStroll {l : Launch} {D : va_G} {tc : Nat → ClassId} {ro : Ro} {oa : Ky → Nat} {aa : Nat → Nat} {sh : Sh} {μ : Mm} {v1 v2 : Int32} {res : Int32 × Mm} (hwf : WfS sh) (hf : f_X10_sureBehindStroll sh μ v1 v2 = some res) : Ct l D tc ro (faB oa aa sh) (feB tc oa aa sh) yX10_sureBehindStroll cX10_sureBehindStroll 3 (some .int) (rmq 7 170) [.ref (oa (0, 0)), .int v1, .int v2] μ (some (.int res.1)) res.2 := by
  refine Ct.of (by decide) (Nat.le_of_ble_eq_true rfl) (fun p e s m args below meth c A C hr hk hW ls hl => ?_)
  have hx := C.1.1
  have hb := C.1.2.1
  obtain ⟨Q, hQ⟩ : ∃ Q, Q = MQ below (Ctq D (faB oa aa sh) (feB tc oa aa sh) (some (.int res.1)) res.2 A) args s 0 0 A := ⟨_, rfl⟩
  rw [← hQ]
  have hl : lv_has ls 3 [(0, .ref (oa (0, 0))), (1, .int v1), (2, .int v2)] := hl
  unfold f_X10_sureBehindStroll at hf
  refine lv_aload_n hx hb dX10_sureBehindStroll_0 rfl (lv_at hl 0 rfl) ?_
  refine gf_X10_64 C hW dX10_sureBehindStroll_1 ?_
  refine lv_aload_n hx hb dX10_sureBehindStroll_4 rfl (lv_at hl 0 rfl) ?_
  refine gf_X10_60 C hW dX10_sureBehindStroll_5 ?_
  obtain ⟨x8, h8, hf⟩ := bd_of hf
  refine r_callV (k := ((13, sh 4 1) : Ky)) C hW hl lk_X10_89 (c_X6_become hwf hwf.2.2.1 hwf.2.1 h8) ⟨rfl, rfl⟩ ⟨Nat.le_of_ble_eq_true rfl, Nat.le_of_ble_eq_true rfl⟩ rfl (faB_13 hwf.2.2.1) rfl (As := [.ref (oa (13, sh 4 0))]) (rest := []) rfl rfl (Nat.le_of_ble_eq_true rfl) dX10_sureBehindStroll_8 ⟨Nat.zero_le _, Nat.zero_le _⟩ (fun H locs hW => ?_)
  show W p l e (rmq 7 170) s m args below meth c H locs 0 0 Q (F0 m 11 ls [])
  refine lv_aload_n hx hb dX10_sureBehindStroll_11 rfl (lv_at hl 0 rfl) ?_
  refine gf_X10_64 C hW dX10_sureBehindStroll_12 ?_
  refine lv_iload_n hx hb dX10_sureBehindStroll_15 rfl (lv_at hl 2 rfl) ?_
  refine pf_X10_303 C hW hwf.2.2.1 dX10_sureBehindStroll_16 (fun H locs hW => ?_)
  refine lv_aload_n hx hb dX10_sureBehindStroll_19 rfl (lv_at hl 0 rfl) ?_
  refine gf_X10_28 C hW dX10_sureBehindStroll_20 ?_
  refine lv_aload_n hx hb dX10_sureBehindStroll_23 rfl (lv_at hl 0 rfl) ?_
  refine gf_X10_64 C hW dX10_sureBehindStroll_24 ?_
  refine lv_iload_n hx hb dX10_sureBehindStroll_27 rfl (lv_at hl 1 rfl) ?_
  obtain ⟨x28, h28, hf⟩ := bd_of hf
  refine r_callV (k := ((4, 0) : Ky)) C hW hl lk_X10_252 (c_X0_strollBy hwf hwf.2.2.1 h28) ⟨rfl, rfl⟩ ⟨Nat.le_of_ble_eq_true rfl, Nat.le_of_ble_eq_true rfl⟩ rfl rfl rfl (As := [.ref (oa (13, sh 4 1)), .int v1]) (rest := []) rfl rfl (Nat.le_of_ble_eq_true rfl) dX10_sureBehindStroll_28 ⟨Nat.zero_le _, Nat.zero_le _⟩ (fun H locs hW => ?_)
  show W p l e (rmq 7 170) s m args below meth c H locs 0 0 Q (F0 m 31 ls [.int x28.1])
  refine lv_pop hx hb dX10_sureBehindStroll_31 rfl ?_
  refine lv_aload_n hx hb dX10_sureBehindStroll_32 rfl (lv_at hl 0 rfl) ?_
  refine gf_X10_19 C hW dX10_sureBehindStroll_33 ?_
  refine lv_aload_n hx hb dX10_sureBehindStroll_36 rfl (lv_at hl 0 rfl) ?_
  refine gf_X10_64 C hW dX10_sureBehindStroll_37 ?_
  refine lv_aload_n hx hb dX10_sureBehindStroll_40 rfl (lv_at hl 0 rfl) ?_
  refine gf_X10_64 C hW dX10_sureBehindStroll_41 ?_
  refine gf_X10_163 C hW hwf.2.2.1 dX10_sureBehindStroll_44 ?_
  obtain ⟨x47, h47, hf⟩ := bd_of hf
  refine r_callV (k := ((3, 0) : Ky)) C hW hl lk_X10_398 (c_X4_sureBits hwf hwf.2.2.1 (cex_st hwf.2.2.1 (by decide)) h47) ⟨rfl, rfl⟩ ⟨Nat.le_of_ble_eq_true rfl, Nat.le_of_ble_eq_true rfl⟩ rfl rfl rfl (As := [.ref (oa (13, sh 4 1)), .ref (oa (11, 15 + 5 * (sh 4 1) + 2))]) (rest := []) rfl rfl (Nat.le_of_ble_eq_true rfl) dX10_sureBehindStroll_47 ⟨Nat.zero_le _, Nat.zero_le _⟩ (fun H locs hW => ?_)
  show W p l e (rmq 7 170) s m args below meth c H locs 0 0 Q (F0 m 50 ls [.int x47])
  obtain rfl := Option.some.inj hf
  rw [hQ]
  exact r_iret C hr hk hW rfl rfl dX10_sureBehindStroll_50
set_option maxHeartbeats 4000000 in
set_option maxRecDepth 100000 in
theorem c_X10_trial {l : Launch} {D : va_G} {tc : Nat → ClassId} {ro : Ro} {oa : Ky → Nat} {aa : Nat → Nat} {sh : Sh} {μ : Mm} {v1 : Int32} {res : Int32 × Mm} (hwf : WfS sh) (hf : f_X10_trial sh μ v1 = some res) : Ct l D tc ro (faB oa aa sh) (feB tc oa aa sh) yX10_trial cX10_trial 2 (some .int) (rmq 8 192) [.ref (oa (0, 0)), .int v1] μ (some (.int res.1)) res.2 := by
  refine Ct.of (by decide) (Nat.le_of_ble_eq_true rfl) (fun p e s m args below meth c A C hr hk hW ls hl => ?_)
  have hx := C.1.1
  have hb := C.1.2.1
  obtain ⟨Q, hQ⟩ : ∃ Q, Q = MQ below (Ctq D (faB oa aa sh) (feB tc oa aa sh) (some (.int res.1)) res.2 A) args s 0 0 A := ⟨_, rfl⟩
  rw [← hQ]
  have hl : lv_has ls 2 [(0, .ref (oa (0, 0))), (1, .int v1)] := hl
  unfold f_X10_trial at hf
  refine lv_aload_n hx hb dX10_trial_0 rfl (lv_at hl 0 rfl) ?_
  refine lv_iload_n hx hb dX10_trial_1 rfl (lv_at hl 1 rfl) ?_
  refine lv_iconst (v := 0) hx hb dX10_trial_2 (by decide) ?_
  refine lv_bipush (v := 30) hx hb dX10_trial_3 (by decide) ?_
  obtain ⟨x5, h5, hf⟩ := bd_of hf
  refine r_callV (k := ((0, 0) : Ky)) C hW hl lk_X10_233 (c_X10_needNumber h5) ⟨rfl, rfl⟩ ⟨Nat.le_of_ble_eq_true rfl, Nat.le_of_ble_eq_true rfl⟩ rfl rfl rfl (As := [.int v1, .int (0 : Int32), .int (30 : Int32)]) (rest := []) rfl rfl (Nat.le_of_ble_eq_true rfl) dX10_trial_5 ⟨Nat.zero_le _, Nat.zero_le _⟩ (fun H locs hW => ?_)
  show W p l e (rmq 8 192) s m args below meth c H locs 0 0 Q (F0 m 8 ls [])
  refine lv_aload_n hx hb dX10_trial_8 rfl (lv_at hl 0 rfl) ?_
  refine lv_iload_n hx hb dX10_trial_9 rfl (lv_at hl 1 rfl) ?_
  refine lv_aload_n hx hb dX10_trial_10 rfl (lv_at hl 0 rfl) ?_
  refine gf_X10_60 C hW dX10_trial_11 ?_
  refine gf_X10_303 C hW hwf.2.1 dX10_trial_14 ?_
  obtain ⟨x17, h17, hf⟩ := bd_of hf
  refine r_callV (k := ((0, 0) : Ky)) C hW hl lk_X10_306 (c_X10_sureBehindStroll hwf h17) ⟨rfl, rfl⟩ ⟨Nat.le_of_ble_eq_true rfl, Nat.le_of_ble_eq_true rfl⟩ rfl rfl rfl (As := [.int v1, .int (μ (13, sh 4 0) 5)]) (rest := []) rfl rfl (Nat.le_of_ble_eq_true rfl) dX10_trial_17 ⟨Nat.zero_le _, Nat.zero_le _⟩ (fun H locs hW => ?_)
  show W p l e (rmq 8 192) s m args below meth c H locs 0 0 Q (F0 m 20 ls [.int x17.1])
  obtain rfl := Option.some.inj hf
  rw [hQ]
  exact r_iret C hr hk hW rfl rfl dX10_trial_20
set_option maxHeartbeats 4000000 in
set_option maxRecDepth 100000 in
theorem c_X10_span {l : Launch} {D : va_G} {tc : Nat → ClassId} {ro : Ro} {oa : Ky → Nat} {aa : Nat → Nat} {sh : Sh} {μ : Mm} {v1 v2 : Int32} {res : Int32 × Mm} (hwf : WfS sh) (hf : f_X10_span sh μ v1 v2 = some res) : Ct l D tc ro (faB oa aa sh) (feB tc oa aa sh) yX10_span cX10_span 6 (some .int) (rmq 8 192) [.ref (oa (0, 0)), .int v1, .int v2] μ (some (.int res.1)) res.2 := by
  refine Ct.of (by decide) (Nat.le_of_ble_eq_true rfl) (fun p e s m args below meth c A C hr hk hW ls hl => ?_)
  have hx := C.1.1
  have hb := C.1.2.1
  obtain ⟨Q, hQ⟩ : ∃ Q, Q = MQ below (Ctq D (faB oa aa sh) (feB tc oa aa sh) (some (.int res.1)) res.2 A) args s 0 0 A := ⟨_, rfl⟩
  rw [← hQ]
  have hl : lv_has ls 6 [(0, .ref (oa (0, 0))), (1, .int v1), (2, .int v2)] := hl
  unfold f_X10_span at hf
  refine lv_aload_n hx hb dX10_span_0 rfl (lv_at hl 0 rfl) ?_
  refine lv_iload_n hx hb dX10_span_1 rfl (lv_at hl 1 rfl) ?_
  refine lv_iconst (v := 0) hx hb dX10_span_2 (by decide) ?_
  refine lv_bipush (v := 30) hx hb dX10_span_3 (by decide) ?_
  obtain ⟨x5, h5, hf⟩ := bd_of hf
  refine r_callV (k := ((0, 0) : Ky)) C hW hl lk_X10_233 (c_X10_needNumber h5) ⟨rfl, rfl⟩ ⟨Nat.le_of_ble_eq_true rfl, Nat.le_of_ble_eq_true rfl⟩ rfl rfl rfl (As := [.int v1, .int (0 : Int32), .int (30 : Int32)]) (rest := []) rfl rfl (Nat.le_of_ble_eq_true rfl) dX10_span_5 ⟨Nat.zero_le _, Nat.zero_le _⟩ (fun H locs hW => ?_)
  show W p l e (rmq 8 192) s m args below meth c H locs 0 0 Q (F0 m 8 ls [])
  refine lv_aload_n hx hb dX10_span_8 rfl (lv_at hl 0 rfl) ?_
  refine lv_iload_n hx hb dX10_span_9 rfl (lv_at hl 1 rfl) ?_
  refine lv_iconst (v := 1) hx hb dX10_span_10 (by decide) ?_
  obtain ⟨x11, h11, hf⟩ := bd_of hf
  refine r_callV (k := ((0, 0) : Ky)) C hW hl lk_X10_306 (c_X10_sureBehindStroll hwf h11) ⟨rfl, rfl⟩ ⟨Nat.le_of_ble_eq_true rfl, Nat.le_of_ble_eq_true rfl⟩ rfl rfl rfl (As := [.int v1, .int (1 : Int32)]) (rest := []) rfl rfl (Nat.le_of_ble_eq_true rfl) dX10_span_11 ⟨Nat.zero_le _, Nat.zero_le _⟩ (fun H locs hW => ?_)
  show W p l e (rmq 8 192) s m args below meth c H locs 0 0 Q (F0 m 14 ls [.int x11.1])
  obtain ⟨x14, h14, hf⟩ := bd_of hf
  refine r_callS C hW hl lk_X10_309 (c_J6_bitCount_0f7a4 h14) ⟨rfl, rfl⟩ ⟨Nat.le_of_ble_eq_true rfl, Nat.le_of_ble_eq_true rfl⟩ (As := [.int x11.1]) (rest := []) rfl rfl (Nat.le_of_ble_eq_true rfl) dX10_span_14 ⟨Nat.zero_le _, Nat.zero_le _⟩ (fun H locs hW => ?_)
  show W p l e (rmq 8 192) s m args below meth c H locs 0 0 Q (F0 m 17 ls [.int x14])
  refine lv_istore_n (lv' := [(3, .int x14), (0, .ref (oa (0, 0))), (1, .int v1), (2, .int v2)]) hx hb dX10_span_17 rfl hl (by decide) rfl (fun ls hl => ?_)
  refine lv_iconst (v := 2) hx hb dX10_span_18 (by decide) ?_
  refine lv_istore (lv' := [(4, .int (2 : Int32)), (3, .int x14), (0, .ref (oa (0, 0))), (1, .int v1), (2, .int v2)]) hx hb dX10_span_19 hl (by decide) rfl (fun ls hl => ?_)
  have L21 : ∀ (μ : Mm) (v3 v4 : Int32) (H : Heap) (locs : List Loc) (ls : Array Slot), Wh (fun z : Mm × Int32 × Int32 => f_X10_span_L21 sh v1 v2 z.1 z.2.1 z.2.2) (μ, v3, v4) = some res → Wd D (faB oa aa sh) (feB tc oa aa sh) A s.heap μ H locs → lv_has ls 6 [(0, .ref (oa (0, 0))), (1, .int v1), (2, .int v2), (3, .int v3), (4, .int v4)] → W p l e (rmq 8 192) s m args below meth c H locs 0 0 Q (F0 m 21 ls []) := by
    intro μ v3 v4 H locs ls hf hW hl
    refine Wh_rule hf (fun z : Mm × Int32 × Int32 => ∀ (H : Heap) (locs : List Loc) (ls : Array Slot), Wd D (faB oa aa sh) (feB tc oa aa sh) A s.heap z.1 H locs → lv_has ls 6 [(0, .ref (oa (0, 0))), (1, .int v1), (2, .int v2), (3, .int z.2.1), (4, .int z.2.2)] → W p l e (rmq 8 192) s m args below meth c H locs 0 0 Q (F0 m 21 ls [])) (fun z o1 hf Kl1 Kr1 => ?_) _ _ _ hW hl
    obtain ⟨μ, v3, v4⟩ := z
    intro H locs ls hW hl
    have hf : f_X10_span_L21 sh v1 v2 μ v3 v4 = some o1 := hf
    unfold f_X10_span_L21 at hf
    have hW : Wd D (faB oa aa sh) (feB tc oa aa sh) A s.heap μ H locs := hW
    have hl : lv_has ls 6 [(0, .ref (oa (0, 0))), (1, .int v1), (2, .int v2), (3, .int v3), (4, .int v4)] := hl
    refine lv_iload hx hb dX10_span_21 (lv_at hl 4 rfl) ?_
    refine lv_bipush (v := 6) hx hb dX10_span_23 (by decide) ?_
    refine lv_icmp_gt (tgt := 66) hx hb dX10_span_25 (by decide) (fun c1 => ?_) (fun c1 => ?_)
    · have hf := (if_pos c1).symm.trans hf
      obtain ⟨x9002, hf, hx9002⟩ := map_of hf
      have e9002 := (Kr1 _ hx9002.symm).symm
      subst e9002
      refine lv_iload_n hx hb dX10_span_66 rfl (lv_at hl 3 rfl) ?_
      obtain rfl := Option.some.inj hf
      rw [hQ]
      exact r_iret C hr hk hW rfl rfl dX10_span_67
    · have hf := (if_neg c1).symm.trans hf
      refine lv_aload_n hx hb dX10_span_28 rfl (lv_at hl 0 rfl) ?_
      refine lv_iload_n hx hb dX10_span_29 rfl (lv_at hl 1 rfl) ?_
      refine lv_iload hx hb dX10_span_30 (lv_at hl 4 rfl) ?_
      obtain ⟨x32, h32, hf⟩ := bd_of hf
      refine r_callV (k := ((0, 0) : Ky)) C hW hl lk_X10_306 (c_X10_sureBehindStroll hwf h32) ⟨rfl, rfl⟩ ⟨Nat.le_of_ble_eq_true rfl, Nat.le_of_ble_eq_true rfl⟩ rfl rfl rfl (As := [.int v1, .int v4]) (rest := []) rfl rfl (Nat.le_of_ble_eq_true rfl) dX10_span_32 ⟨Nat.zero_le _, Nat.zero_le _⟩ (fun H locs hW => ?_)
      show W p l e (rmq 8 192) s m args below meth c H locs 0 0 Q (F0 m 35 ls [.int x32.1])
      obtain ⟨x35, h35, hf⟩ := bd_of hf
      refine r_callS C hW hl lk_X10_309 (c_J6_bitCount_0f7a4 h35) ⟨rfl, rfl⟩ ⟨Nat.le_of_ble_eq_true rfl, Nat.le_of_ble_eq_true rfl⟩ (As := [.int x32.1]) (rest := []) rfl rfl (Nat.le_of_ble_eq_true rfl) dX10_span_35 ⟨Nat.zero_le _, Nat.zero_le _⟩ (fun H locs hW => ?_)
      show W p l e (rmq 8 192) s m args below meth c H locs 0 0 Q (F0 m 38 ls [.int x35])
      refine lv_istore (lv' := [(5, .int x35), (0, .ref (oa (0, 0))), (1, .int v1), (2, .int v2), (3, .int v3), (4, .int v4)]) hx hb dX10_span_38 hl (by decide) rfl (fun ls hl => ?_)
      refine lv_iload_n hx hb dX10_span_40 rfl (lv_at hl 3 rfl) ?_
      refine lv_if_eq (tgt := 53) hx hb dX10_span_41 (by decide) (fun c3 => ?_) (fun c3 => ?_)
      · have hf := (if_pos c3).symm.trans hf
        refine lv_iload_n hx hb dX10_span_53 rfl (lv_at hl 4 rfl) ?_
        refine lv_iload hx hb dX10_span_54 (lv_at hl 0 rfl) ?_
        refine r_mmin C hl kw_581 kw_560 kw_140 kw_561 (Nat.le_of_ble_eq_true rfl) (Nat.le_of_ble_eq_true rfl) ⟨Nat.zero_le _, Nat.zero_le _⟩ dX10_span_56 ?_
        refine lv_istore_n (lv' := [(3, .int (if x35 < v3 then x35 else v3)), (5, .int x35), (0, .ref (oa (0, 0))), (1, .int v1), (2, .int v2), (4, .int v4)]) hx hb dX10_span_59 rfl hl (by decide) rfl (fun ls hl => ?_)
        refine lv_iinc (v := (v4 + (1 : Int32))) (lv' := [(4, .int (v4 + (1 : Int32))), (3, .int (if x35 < v3 then x35 else v3)), (5, .int x35), (0, .ref (oa (0, 0))), (1, .int v1), (2, .int v2)]) hx hb dX10_span_60 hl (k := 5) rfl rfl (by decide) rfl (fun ls hl => ?_)
        refine lv_goto (tgt := 21) hx hb dX10_span_63 (by decide) ?_
        obtain rfl := Option.some.inj hf
        exact Kl1 _ rfl _ _ _ hW (lv_sub hl [3, 4, 5, 1, 0] rfl)
      · have hf := (if_neg c3).symm.trans hf
        refine lv_iload_n hx hb dX10_span_44 rfl (lv_at hl 4 rfl) ?_
        refine lv_iload hx hb dX10_span_45 (lv_at hl 0 rfl) ?_
        refine r_mmax C hl kw_1868 kw_191 kw_140 kw_192 (Nat.le_of_ble_eq_true rfl) (Nat.le_of_ble_eq_true rfl) ⟨Nat.zero_le _, Nat.zero_le _⟩ dX10_span_47 ?_
        refine lv_goto (tgt := 59) hx hb dX10_span_50 (by decide) ?_
        refine lv_istore_n (lv' := [(3, .int (if v3 < x35 then x35 else v3)), (5, .int x35), (0, .ref (oa (0, 0))), (1, .int v1), (2, .int v2), (4, .int v4)]) hx hb dX10_span_59 rfl hl (by decide) rfl (fun ls hl => ?_)
        refine lv_iinc (v := (v4 + (1 : Int32))) (lv' := [(4, .int (v4 + (1 : Int32))), (3, .int (if v3 < x35 then x35 else v3)), (5, .int x35), (0, .ref (oa (0, 0))), (1, .int v1), (2, .int v2)]) hx hb dX10_span_60 hl (k := 5) rfl rfl (by decide) rfl (fun ls hl => ?_)
        refine lv_goto (tgt := 21) hx hb dX10_span_63 (by decide) ?_
        obtain rfl := Option.some.inj hf
        exact Kl1 _ rfl _ _ _ hW (lv_sub hl [3, 4, 5, 1, 0] rfl)
  exact L21 x11.2 x14 (2 : Int32) _ _ _ hf hW (lv_sub hl [2, 3, 4, 1, 0] rfl)
set_option maxHeartbeats 4000000 in
set_option maxRecDepth 100000 in
theorem c_X10_nth {l : Launch} {D : va_G} {tc : Nat → ClassId} {ro : Ro} {oa : Ky → Nat} {aa : Nat → Nat} {sh : Sh} {μ : Mm} {v1 v2 : Int32} {res : Int32} (hwf : WfS sh) (hf : f_X10_nth sh μ v1 v2 = some res) : Ct l D tc ro (faB oa aa sh) (feB tc oa aa sh) yX10_nth cX10_nth 3 (some .int) (rmq 4 91) [.ref (oa (0, 0)), .int v1, .int v2] μ (some (.int res)) μ := by
  refine Ct.of (by decide) (Nat.le_of_ble_eq_true rfl) (fun p e s m args below meth c A C hr hk hW ls hl => ?_)
  have hx := C.1.1
  have hb := C.1.2.1
  obtain ⟨Q, hQ⟩ : ∃ Q, Q = MQ below (Ctq D (faB oa aa sh) (feB tc oa aa sh) (some (.int res)) μ A) args s 0 0 A := ⟨_, rfl⟩
  rw [← hQ]
  have hl : lv_has ls 3 [(0, .ref (oa (0, 0))), (1, .int v1), (2, .int v2)] := hl
  unfold f_X10_nth at hf
  refine lv_aload_n hx hb dX10_nth_0 rfl (lv_at hl 0 rfl) ?_
  refine lv_iload_n hx hb dX10_nth_1 rfl (lv_at hl 1 rfl) ?_
  obtain ⟨x2, h2, hf⟩ := bd_of hf
  refine r_callV (k := ((0, 0) : Ky)) C hW hl lk_X10_269 (c_X10_needPersonOrNone hwf h2) ⟨rfl, rfl⟩ ⟨Nat.le_of_ble_eq_true rfl, Nat.le_of_ble_eq_true rfl⟩ rfl rfl rfl (As := [.int v1]) (rest := []) rfl rfl (Nat.le_of_ble_eq_true rfl) dX10_nth_2 ⟨Nat.zero_le _, Nat.zero_le _⟩ (fun H locs hW => ?_)
  show W p l e (rmq 4 91) s m args below meth c H locs 0 0 Q (F0 m 5 ls [])
  refine lv_aload_n hx hb dX10_nth_5 rfl (lv_at hl 0 rfl) ?_
  refine gf_X10_19 C hW dX10_nth_6 ?_
  refine lv_aload_n hx hb dX10_nth_9 rfl (lv_at hl 0 rfl) ?_
  refine gf_X10_60 C hW dX10_nth_10 ?_
  refine lv_iload_n hx hb dX10_nth_13 rfl (lv_at hl 1 rfl) ?_
  refine lv_iload_n hx hb dX10_nth_14 rfl (lv_at hl 2 rfl) ?_
  obtain ⟨x15, h15, hf⟩ := bd_of hf
  refine r_callV (k := ((3, 0) : Ky)) C hW hl lk_X10_322 (c_X4_heldAt hwf hwf.2.1 h15) ⟨rfl, rfl⟩ ⟨Nat.le_of_ble_eq_true rfl, Nat.le_of_ble_eq_true rfl⟩ rfl rfl rfl (As := [.ref (oa (13, sh 4 0)), .int v1, .int v2]) (rest := []) rfl rfl (Nat.le_of_ble_eq_true rfl) dX10_nth_15 ⟨Nat.zero_le _, Nat.zero_le _⟩ (fun H locs hW => ?_)
  show W p l e (rmq 4 91) s m args below meth c H locs 0 0 Q (F0 m 18 ls [.int x15])
  obtain rfl := Option.some.inj hf
  rw [hQ]
  exact r_iret C hr hk hW rfl rfl dX10_nth_18
set_option maxHeartbeats 4000000 in
set_option maxRecDepth 100000 in
theorem c_X10_guess {l : Launch} {D : va_G} {tc : Nat → ClassId} {ro : Ro} {oa : Ky → Nat} {aa : Nat → Nat} {sh : Sh} {μ : Mm} {v1 : Int32} {res : Int32 × Mm} (hwf : WfS sh) (hf : f_X10_guess sh μ v1 = some res) : Ct l D tc ro (faB oa aa sh) (feB tc oa aa sh) yX10_guess cX10_guess 2 (some .int) (rmq 5 115) [.ref (oa (0, 0)), .int v1] μ (some (.int res.1)) res.2 := by
  refine Ct.of (by decide) (Nat.le_of_ble_eq_true rfl) (fun p e s m args below meth c A C hr hk hW ls hl => ?_)
  have hx := C.1.1
  have hb := C.1.2.1
  obtain ⟨Q, hQ⟩ : ∃ Q, Q = MQ below (Ctq D (faB oa aa sh) (feB tc oa aa sh) (some (.int res.1)) res.2 A) args s 0 0 A := ⟨_, rfl⟩
  rw [← hQ]
  have hl : lv_has ls 2 [(0, .ref (oa (0, 0))), (1, .int v1)] := hl
  unfold f_X10_guess at hf
  refine lv_aload_n hx hb dX10_guess_0 rfl (lv_at hl 0 rfl) ?_
  refine lv_iload_n hx hb dX10_guess_1 rfl (lv_at hl 1 rfl) ?_
  obtain ⟨x2, h2, hf⟩ := bd_of hf
  refine r_callV (k := ((0, 0) : Ky)) C hW hl lk_X10_141 (c_X10_needPerson hwf h2) ⟨rfl, rfl⟩ ⟨Nat.le_of_ble_eq_true rfl, Nat.le_of_ble_eq_true rfl⟩ rfl rfl rfl (As := [.int v1]) (rest := []) rfl rfl (Nat.le_of_ble_eq_true rfl) dX10_guess_2 ⟨Nat.zero_le _, Nat.zero_le _⟩ (fun H locs hW => ?_)
  show W p l e (rmq 5 115) s m args below meth c H locs 0 0 Q (F0 m 5 ls [])
  refine lv_aload_n hx hb dX10_guess_5 rfl (lv_at hl 0 rfl) ?_
  refine gf_X10_19 C hW dX10_guess_6 ?_
  refine lv_aload_n hx hb dX10_guess_9 rfl (lv_at hl 0 rfl) ?_
  refine gf_X10_60 C hW dX10_guess_10 ?_
  refine lv_iload_n hx hb dX10_guess_13 rfl (lv_at hl 1 rfl) ?_
  refine lv_aload_n hx hb dX10_guess_14 rfl (lv_at hl 0 rfl) ?_
  refine gf_X10_60 C hW dX10_guess_15 ?_
  refine gf_X10_144 C hW hwf.2.1 dX10_guess_18 ?_
  obtain ⟨x21, h21, hf⟩ := bd_of hf
  refine r_callV (k := ((3, 0) : Ky)) C hW hl lk_X10_325 (c_X4_guessIn hwf hwf.2.1 h21) ⟨rfl, rfl⟩ ⟨Nat.le_of_ble_eq_true rfl, Nat.le_of_ble_eq_true rfl⟩ rfl rfl rfl (As := [.ref (oa (13, sh 4 0)), .int v1, .int (μ (13, sh 4 0) 3)]) (rest := []) rfl rfl (Nat.le_of_ble_eq_true rfl) dX10_guess_21 ⟨Nat.zero_le _, Nat.zero_le _⟩ (fun H locs hW => ?_)
  show W p l e (rmq 5 115) s m args below meth c H locs 0 0 Q (F0 m 24 ls [.int x21.1])
  obtain rfl := Option.some.inj hf
  rw [hQ]
  exact r_iret C hr hk hW rfl rfl dX10_guess_24
set_option maxHeartbeats 4000000 in
set_option maxRecDepth 100000 in
theorem c_X10_right {l : Launch} {D : va_G} {tc : Nat → ClassId} {ro : Ro} {oa : Ky → Nat} {aa : Nat → Nat} {sh : Sh} {μ : Mm} {v1 : Int32} {res : Int32 × Mm} (hwf : WfS sh) (hf : f_X10_right sh μ v1 = some res) : Ct l D tc ro (faB oa aa sh) (feB tc oa aa sh) yX10_right cX10_right 2 (some .int) (rmq 5 116) [.ref (oa (0, 0)), .int v1] μ (some (.int res.1)) res.2 := by
  refine Ct.of (by decide) (Nat.le_of_ble_eq_true rfl) (fun p e s m args below meth c A C hr hk hW ls hl => ?_)
  have hx := C.1.1
  have hb := C.1.2.1
  obtain ⟨Q, hQ⟩ : ∃ Q, Q = MQ below (Ctq D (faB oa aa sh) (feB tc oa aa sh) (some (.int res.1)) res.2 A) args s 0 0 A := ⟨_, rfl⟩
  rw [← hQ]
  have hl : lv_has ls 2 [(0, .ref (oa (0, 0))), (1, .int v1)] := hl
  unfold f_X10_right at hf
  refine lv_aload_n hx hb dX10_right_0 rfl (lv_at hl 0 rfl) ?_
  refine lv_iload_n hx hb dX10_right_1 rfl (lv_at hl 1 rfl) ?_
  obtain ⟨x2, h2, hf⟩ := bd_of hf
  refine r_callV (k := ((0, 0) : Ky)) C hW hl lk_X10_269 (c_X10_needPersonOrNone hwf h2) ⟨rfl, rfl⟩ ⟨Nat.le_of_ble_eq_true rfl, Nat.le_of_ble_eq_true rfl⟩ rfl rfl rfl (As := [.int v1]) (rest := []) rfl rfl (Nat.le_of_ble_eq_true rfl) dX10_right_2 ⟨Nat.zero_le _, Nat.zero_le _⟩ (fun H locs hW => ?_)
  show W p l e (rmq 5 116) s m args below meth c H locs 0 0 Q (F0 m 5 ls [])
  refine lv_aload_n hx hb dX10_right_5 rfl (lv_at hl 0 rfl) ?_
  refine gf_X10_19 C hW dX10_right_6 ?_
  refine lv_aload_n hx hb dX10_right_9 rfl (lv_at hl 0 rfl) ?_
  refine gf_X10_60 C hW dX10_right_10 ?_
  refine lv_iload_n hx hb dX10_right_13 rfl (lv_at hl 1 rfl) ?_
  obtain ⟨x14, h14, hf⟩ := bd_of hf
  refine r_callV (k := ((3, 0) : Ky)) C hW hl lk_X10_328 (c_X4_rightGuesses hwf hwf.2.1 h14) ⟨rfl, rfl⟩ ⟨Nat.le_of_ble_eq_true rfl, Nat.le_of_ble_eq_true rfl⟩ rfl rfl rfl (As := [.ref (oa (13, sh 4 0)), .int v1]) (rest := []) rfl rfl (Nat.le_of_ble_eq_true rfl) dX10_right_14 ⟨Nat.zero_le _, Nat.zero_le _⟩ (fun H locs hW => ?_)
  show W p l e (rmq 5 116) s m args below meth c H locs 0 0 Q (F0 m 17 ls [.int x14.1])
  obtain rfl := Option.some.inj hf
  rw [hQ]
  exact r_iret C hr hk hW rfl rfl dX10_right_17
set_option maxHeartbeats 4000000 in
set_option maxRecDepth 100000 in
theorem c_X10_rows {l : Launch} {D : va_G} {tc : Nat → ClassId} {ro : Ro} {oa : Ky → Nat} {aa : Nat → Nat} {sh : Sh} {μ : Mm} {v1 : Int32} {res : Int32 × Mm} (hwf : WfS sh) (hf : f_X10_rows sh μ v1 = some res) : Ct l D tc ro (faB oa aa sh) (feB tc oa aa sh) yX10_rows cX10_rows 3 (some .int) (rmq 5 122) [.ref (oa (0, 0)), .int v1] μ (some (.int res.1)) res.2 := by
  refine Ct.of (by decide) (Nat.le_of_ble_eq_true rfl) (fun p e s m args below meth c A C hr hk hW ls hl => ?_)
  have hx := C.1.1
  have hb := C.1.2.1
  obtain ⟨Q, hQ⟩ : ∃ Q, Q = MQ below (Ctq D (faB oa aa sh) (feB tc oa aa sh) (some (.int res.1)) res.2 A) args s 0 0 A := ⟨_, rfl⟩
  rw [← hQ]
  have hl : lv_has ls 3 [(0, .ref (oa (0, 0))), (1, .int v1)] := hl
  unfold f_X10_rows at hf
  refine lv_aload_n hx hb dX10_rows_0 rfl (lv_at hl 0 rfl) ?_
  refine gf_X10_10 C hW dX10_rows_1 ?_
  obtain ⟨x4, h4, hf⟩ := bd_of hf
  refine r_callV (k := ((2, 0) : Ky)) C hW hl lk_X10_86 (c_X7_use hwf h4) ⟨rfl, rfl⟩ ⟨Nat.le_of_ble_eq_true rfl, Nat.le_of_ble_eq_true rfl⟩ rfl rfl rfl (As := []) (rest := []) rfl rfl (Nat.le_of_ble_eq_true rfl) dX10_rows_4 ⟨Nat.zero_le _, Nat.zero_le _⟩ (fun H locs hW => ?_)
  show W p l e (rmq 5 122) s m args below meth c H locs 0 0 Q (F0 m 7 ls [.int x4.1])
  refine lv_istore_n (lv' := [(2, .int x4.1), (0, .ref (oa (0, 0))), (1, .int v1)]) hx hb dX10_rows_7 rfl hl (by decide) rfl (fun ls hl => ?_)
  refine lv_aload_n hx hb dX10_rows_8 rfl (lv_at hl 1 rfl) ?_
  refine gf_X10_35 C hW dX10_rows_9 ?_
  refine lv_aload_n hx hb dX10_rows_12 rfl (lv_at hl 1 rfl) ?_
  refine gf_X10_60 C hW dX10_rows_13 ?_
  refine lv_aload_n hx hb dX10_rows_16 rfl (lv_at hl 1 rfl) ?_
  refine gf_X10_10 C hW dX10_rows_17 ?_
  refine lv_iload_n hx hb dX10_rows_20 rfl (lv_at hl 0 rfl) ?_
  obtain ⟨x21, h21, hf⟩ := bd_of hf
  refine r_callV (k := ((5, 0) : Ky)) C hW hl lk_X10_331 (c_X5_tellsPairs hwf hwf.2.1 h21) ⟨rfl, rfl⟩ ⟨Nat.le_of_ble_eq_true rfl, Nat.le_of_ble_eq_true rfl⟩ rfl rfl rfl (As := [.ref (oa (13, sh 4 0)), .ref (oa (2, 0)), .int x4.1]) (rest := []) rfl rfl (Nat.le_of_ble_eq_true rfl) dX10_rows_21 ⟨Nat.zero_le _, Nat.zero_le _⟩ (fun H locs hW => ?_)
  show W p l e (rmq 5 122) s m args below meth c H locs 0 0 Q (F0 m 24 ls [.int x21])
  refine lv_if_eq (tgt := 32) hx hb dX10_rows_24 (by decide) (fun c1 => ?_) (fun c1 => ?_)
  · have hf := (if_pos c1).symm.trans hf
    cases hf
  · have hf := (if_neg c1).symm.trans hf
    refine lv_iload_n hx hb dX10_rows_27 rfl (lv_at hl 2 rfl) ?_
    refine lv_iconst (v := -1) hx hb dX10_rows_28 (by decide) ?_
    refine lv_icmp_ge (tgt := 43) hx hb dX10_rows_29 (by decide) (fun c2 => ?_) (fun c2 => ?_)
    · have hf := (if_pos c2).symm.trans hf
      refine lv_aload_n hx hb dX10_rows_43 rfl (lv_at hl 1 rfl) ?_
      refine gf_X10_35 C hW dX10_rows_44 ?_
      refine lv_aload_n hx hb dX10_rows_47 rfl (lv_at hl 1 rfl) ?_
      refine gf_X10_60 C hW dX10_rows_48 ?_
      refine lv_aload_n hx hb dX10_rows_51 rfl (lv_at hl 1 rfl) ?_
      refine gf_X10_10 C hW dX10_rows_52 ?_
      refine lv_iload_n hx hb dX10_rows_55 rfl (lv_at hl 0 rfl) ?_
      refine lv_iload_n hx hb dX10_rows_56 rfl (lv_at hl 2 rfl) ?_
      obtain ⟨x57, h57, hf⟩ := bd_of hf
      refine r_callV (k := ((5, 0) : Ky)) C hW hl lk_X10_337 (c_X5_standInRow hwf hwf.2.1 h57) ⟨rfl, rfl⟩ ⟨Nat.le_of_ble_eq_true rfl, Nat.le_of_ble_eq_true rfl⟩ rfl rfl rfl (As := [.ref (oa (13, sh 4 0)), .ref (oa (2, 0)), .int x4.1, .int v1]) (rest := []) rfl rfl (Nat.le_of_ble_eq_true rfl) dX10_rows_57 ⟨Nat.zero_le _, Nat.zero_le _⟩ (fun H locs hW => ?_)
      show W p l e (rmq 5 122) s m args below meth c H locs 0 0 Q (F0 m 60 ls [.int x57.1])
      obtain rfl := Option.some.inj hf
      rw [hQ]
      exact r_iret C hr hk hW rfl rfl dX10_rows_60
    · have hf := (if_neg c2).symm.trans hf
      cases hf
