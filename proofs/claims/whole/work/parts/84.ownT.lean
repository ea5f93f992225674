-- rows, liars, log
set_option maxHeartbeats 4000000 in
set_option maxRecDepth 100000 in
theorem cT_X10_log {l : Launch} {D : va_G} {tc : Nat → ClassId} {ro : Ro} {oa : Ky → Nat} {sh : Sh} {ln : Nat → Nat} {μ : Mm} {v1 v2 : Int32} {μ' : Mm} {cn : Nat} (hs : l.stackTraces = false) (hwf : WfS sh) (hf : g_X10_log sh ln μ v1 v2 = some (.inr cn, μ')) : CtT l D tc ro oa yX10_log cX10_log 3 (some .int) (rma 10 220 1 6) [.ref (oa (0, 0)), .int v1, .int v2] sh ln μ cn ln μ' := by
  refine CtT.of (by decide) (Nat.le_of_ble_eq_true rfl) (fun aa p e s m args below meth c A C hr hk hW ht hU hN ls hl => ?_)
  have hx := C.1.1
  have hb := C.1.2.1
  obtain ⟨Q, hQ⟩ : ∃ Q, Q = vx_MQ below (fun _ _ _ _ => False) (XCt D tc oa sh cn ln μ' A) args s (rma 10 220 1 6).cells (rma 10 220 1 6).slots A := ⟨_, rfl⟩
  rw [← hQ]
  have hl : lv_has ls 3 [(0, .ref (oa (0, 0))), (1, .int v1), (2, .int v2)] := hl
  unfold g_X10_log at hf
  refine lv_iload_n hx hb dX10_log_0 rfl (lv_at hl 2 rfl) ?_
  refine lv_if_lt (tgt := 9) hx hb dX10_log_1 (by decide) (fun c1 => ?_) (fun c1 => ?_)
  · have hf := (if_pos c1).symm.trans hf
    obtain ⟨rfl, rfl⟩ : 2 = cn ∧ μ = μ' := by cases hf; exact ⟨rfl, rfl⟩
    rw [hQ]
    exact r_throw (np := 16) (sa := ro.1 38) (cn := 2) (E := "java/util/NoSuchElementException") (Y0 := "java/lang/RuntimeException") (names := ["java/lang/Exception"]) (text := "there is no such thing to be told of a row") C hs ht hU hN hk hW hl rfl exw_2 exd_2 (by decide) (by decide) (by decide) (C.2.2.2.1 ("BackVillage", 362, "there is no such thing to be told of a row", 38) mr_362) dX10_log_9 dX10_log_12 (Or.inr ⟨dX10_log_13, rfl⟩) dX10_log_16 dX10_log_19 (Nat.le_of_ble_eq_true rfl) (Nat.le_of_ble_eq_true rfl) (Nat.le_of_ble_eq_true rfl) (Nat.le_of_ble_eq_true rfl) (Nat.le_of_ble_eq_true rfl) (Nat.le_of_ble_eq_true rfl)
  · have hf := (if_neg c1).symm.trans hf
    refine lv_iload_n hx hb dX10_log_4 rfl (lv_at hl 2 rfl) ?_
    refine lv_iconst (v := 5) hx hb dX10_log_5 (by decide) ?_
    refine lv_icmp_lt (tgt := 20) hx hb dX10_log_6 (by decide) (fun c2 => ?_) (fun c2 => ?_)
    · have hf := (if_pos c2).symm.trans hf
      refine lv_aload_n hx hb dX10_log_20 rfl (lv_at hl 0 rfl) ?_
      refine gf_X10_60 C hW dX10_log_21 ?_
      obtain ⟨hq3, hf⟩ := ce_of hf
      refine lv_iload_n hx hb dX10_log_24 rfl (lv_at hl 1 rfl) ?_
      refine lv_iload_n hx hb dX10_log_25 rfl (lv_at hl 2 rfl) ?_
      obtain ⟨x26, h26, hf⟩ := bd_of hf
      refine r_callV (k := ((13, (μ (0, 0) 9).toNatClampNeg) : Ky)) C hW hl lk_X10_356 (c_X6_noted hwf hq3 h26) ⟨rfl, rfl⟩ ⟨Nat.le_of_ble_eq_true rfl, Nat.le_of_ble_eq_true rfl⟩ rfl (faB_13 hq3) rfl (As := [.int v1, .int v2]) (rest := []) rfl rfl (Nat.le_of_ble_eq_true rfl) dX10_log_26 ⟨Nat.zero_le _, Nat.zero_le _⟩ (fun H locs hW => ?_)
      show W p l e (rma 10 220 1 6) s m args below meth c H locs 0 0 Q (F0 m 29 ls [.int x26])
      cases hf
    · have hf := (if_neg c2).symm.trans hf
      obtain ⟨rfl, rfl⟩ : 2 = cn ∧ μ = μ' := by cases hf; exact ⟨rfl, rfl⟩
      rw [hQ]
      exact r_throw (np := 16) (sa := ro.1 38) (cn := 2) (E := "java/util/NoSuchElementException") (Y0 := "java/lang/RuntimeException") (names := ["java/lang/Exception"]) (text := "there is no such thing to be told of a row") C hs ht hU hN hk hW hl rfl exw_2 exd_2 (by decide) (by decide) (by decide) (C.2.2.2.1 ("BackVillage", 362, "there is no such thing to be told of a row", 38) mr_362) dX10_log_9 dX10_log_12 (Or.inr ⟨dX10_log_13, rfl⟩) dX10_log_16 dX10_log_19 (Nat.le_of_ble_eq_true rfl) (Nat.le_of_ble_eq_true rfl) (Nat.le_of_ble_eq_true rfl) (Nat.le_of_ble_eq_true rfl) (Nat.le_of_ble_eq_true rfl) (Nat.le_of_ble_eq_true rfl)
set_option maxHeartbeats 4000000 in
set_option maxRecDepth 100000 in
theorem cT_X10_rows {l : Launch} {D : va_G} {tc : Nat → ClassId} {ro : Ro} {oa : Ky → Nat} {sh : Sh} {ln : Nat → Nat} {μ : Mm} {v1 : Int32} {μ' : Mm} {cn : Nat} (hs : l.stackTraces = false) (hwf : WfS sh) (hf : g_X10_rows sh ln μ v1 = some (.inr cn, μ')) : CtT l D tc ro oa yX10_rows cX10_rows 3 (some .int) (rma 10 220 1 6) [.ref (oa (0, 0)), .int v1] sh ln μ cn ln μ' := by
  refine CtT.of (by decide) (Nat.le_of_ble_eq_true rfl) (fun aa p e s m args below meth c A C hr hk hW ht hU hN ls hl => ?_)
  have hx := C.1.1
  have hb := C.1.2.1
  obtain ⟨Q, hQ⟩ : ∃ Q, Q = vx_MQ below (fun _ _ _ _ => False) (XCt D tc oa sh cn ln μ' A) args s (rma 10 220 1 6).cells (rma 10 220 1 6).slots A := ⟨_, rfl⟩
  rw [← hQ]
  have hl : lv_has ls 3 [(0, .ref (oa (0, 0))), (1, .int v1)] := hl
  unfold g_X10_rows at hf
  refine lv_aload_n hx hb dX10_rows_0 rfl (lv_at hl 0 rfl) ?_
  refine gf_X10_10 C hW dX10_rows_1 ?_
  obtain ⟨x4, h4, hf⟩ := bd_of hf
  refine r_callV (k := ((2, 0) : Ky)) C hW hl lk_X10_86 (c_X7_use hwf h4) ⟨rfl, rfl⟩ ⟨Nat.le_of_ble_eq_true rfl, Nat.le_of_ble_eq_true rfl⟩ rfl rfl rfl (As := []) (rest := []) rfl rfl (Nat.le_of_ble_eq_true rfl) dX10_rows_4 ⟨Nat.zero_le _, Nat.zero_le _⟩ (fun H locs hW => ?_)
  show W p l e (rma 10 220 1 6) s m args below meth c H locs 0 0 Q (F0 m 7 ls [.int x4.1])
  refine lv_istore_n (lv' := [(2, .int x4.1), (0, .ref (oa (0, 0))), (1, .int v1)]) hx hb dX10_rows_7 rfl hl (by decide) rfl (fun ls hl => ?_)
  refine lv_aload_n hx hb dX10_rows_8 rfl (lv_at hl 1 rfl) ?_
  refine gf_X10_35 C hW dX10_rows_9 ?_
  refine lv_aload_n hx hb dX10_rows_12 rfl (lv_at hl 1 rfl) ?_
  refine gf_X10_60 C hW dX10_rows_13 ?_
  obtain ⟨hq1, hf⟩ := ce_of hf
  refine lv_aload_n hx hb dX10_rows_16 rfl (lv_at hl 1 rfl) ?_
  refine gf_X10_10 C hW dX10_rows_17 ?_
  refine lv_iload_n hx hb dX10_rows_20 rfl (lv_at hl 0 rfl) ?_
  obtain ⟨x21, h21, hf⟩ := bd_of hf
  refine r_callV (k := ((5, 0) : Ky)) C hW hl lk_X10_331 (c_X5_tellsPairs hwf hq1 h21) ⟨rfl, rfl⟩ ⟨Nat.le_of_ble_eq_true rfl, Nat.le_of_ble_eq_true rfl⟩ rfl rfl rfl (As := [.ref (oa (13, (x4.2 (0, 0) 9).toNatClampNeg)), .ref (oa (2, 0)), .int x4.1]) (rest := []) rfl rfl (Nat.le_of_ble_eq_true rfl) dX10_rows_21 ⟨Nat.zero_le _, Nat.zero_le _⟩ (fun H locs hW => ?_)
  show W p l e (rma 10 220 1 6) s m args below meth c H locs 0 0 Q (F0 m 24 ls [.int x21])
  refine lv_if_eq (tgt := 32) hx hb dX10_rows_24 (by decide) (fun c2 => ?_) (fun c2 => ?_)
  · have hf := (if_pos c2).symm.trans hf
    obtain ⟨rfl, rfl⟩ : 3 = cn ∧ x4.2 = μ' := by cases hf; exact ⟨rfl, rfl⟩
    rw [hQ]
    exact r_throw (np := 39) (sa := ro.1 36) (cn := 3) (E := "java/lang/IllegalArgumentException") (Y0 := "java/lang/RuntimeException") (names := ["java/lang/Exception"]) (text := "the tape tells no pairs, or k is none") C hs ht hU hN hk hW hl rfl exw_3 exd_3 (by decide) (by decide) (by decide) (C.2.2.2.1 ("BackVillage", 335, "the tape tells no pairs, or k is none", 36) mr_335) dX10_rows_32 dX10_rows_35 (Or.inr ⟨dX10_rows_36, rfl⟩) dX10_rows_39 dX10_rows_42 (Nat.le_of_ble_eq_true rfl) (Nat.le_of_ble_eq_true rfl) (Nat.le_of_ble_eq_true rfl) (Nat.le_of_ble_eq_true rfl) (Nat.le_of_ble_eq_true rfl) (Nat.le_of_ble_eq_true rfl)
  · have hf := (if_neg c2).symm.trans hf
    refine lv_iload_n hx hb dX10_rows_27 rfl (lv_at hl 2 rfl) ?_
    refine lv_iconst (v := -1) hx hb dX10_rows_28 (by decide) ?_
    refine lv_icmp_ge (tgt := 43) hx hb dX10_rows_29 (by decide) (fun c3 => ?_) (fun c3 => ?_)
    · have hf := (if_pos c3).symm.trans hf
      refine lv_aload_n hx hb dX10_rows_43 rfl (lv_at hl 1 rfl) ?_
      refine gf_X10_35 C hW dX10_rows_44 ?_
      refine lv_aload_n hx hb dX10_rows_47 rfl (lv_at hl 1 rfl) ?_
      refine gf_X10_60 C hW dX10_rows_48 ?_
      obtain ⟨hq4, hf⟩ := ce_of hf
      refine lv_aload_n hx hb dX10_rows_51 rfl (lv_at hl 1 rfl) ?_
      refine gf_X10_10 C hW dX10_rows_52 ?_
      refine lv_iload_n hx hb dX10_rows_55 rfl (lv_at hl 0 rfl) ?_
      refine lv_iload_n hx hb dX10_rows_56 rfl (lv_at hl 2 rfl) ?_
      obtain ⟨x57, h57, hf⟩ := bd_of hf
      refine r_callV (k := ((5, 0) : Ky)) C hW hl lk_X10_337 (c_X5_standInRow hwf hq4 h57) ⟨rfl, rfl⟩ ⟨Nat.le_of_ble_eq_true rfl, Nat.le_of_ble_eq_true rfl⟩ rfl rfl rfl (As := [.ref (oa (13, (x4.2 (0, 0) 9).toNatClampNeg)), .ref (oa (2, 0)), .int x4.1, .int v1]) (rest := []) rfl rfl (Nat.le_of_ble_eq_true rfl) dX10_rows_57 ⟨Nat.zero_le _, Nat.zero_le _⟩ (fun H locs hW => ?_)
      show W p l e (rma 10 220 1 6) s m args below meth c H locs 0 0 Q (F0 m 60 ls [.int x57.1])
      cases hf
    · have hf := (if_neg c3).symm.trans hf
      obtain ⟨rfl, rfl⟩ : 3 = cn ∧ x4.2 = μ' := by cases hf; exact ⟨rfl, rfl⟩
      rw [hQ]
      exact r_throw (np := 39) (sa := ro.1 36) (cn := 3) (E := "java/lang/IllegalArgumentException") (Y0 := "java/lang/RuntimeException") (names := ["java/lang/Exception"]) (text := "the tape tells no pairs, or k is none") C hs ht hU hN hk hW hl rfl exw_3 exd_3 (by decide) (by decide) (by decide) (C.2.2.2.1 ("BackVillage", 335, "the tape tells no pairs, or k is none", 36) mr_335) dX10_rows_32 dX10_rows_35 (Or.inr ⟨dX10_rows_36, rfl⟩) dX10_rows_39 dX10_rows_42 (Nat.le_of_ble_eq_true rfl) (Nat.le_of_ble_eq_true rfl) (Nat.le_of_ble_eq_true rfl) (Nat.le_of_ble_eq_true rfl) (Nat.le_of_ble_eq_true rfl) (Nat.le_of_ble_eq_true rfl)
set_option maxHeartbeats 4000000 in
set_option maxRecDepth 100000 in
theorem cT_X10_liars {l : Launch} {D : va_G} {tc : Nat → ClassId} {ro : Ro} {oa : Ky → Nat} {sh : Sh} {ln : Nat → Nat} {μ : Mm} {v1 v2 : Int32} {μ' : Mm} {cn : Nat} (hs : l.stackTraces = false) (hwf : WfS sh) (hf : g_X10_liars sh ln μ v1 v2 = some (.inr cn, μ')) : CtT l D tc ro oa yX10_liars cX10_liars 4 (some .int) (rma 10 220 1 6) [.ref (oa (0, 0)), .int v1, .int v2] sh ln μ cn ln μ' := by
  refine CtT.of (by decide) (Nat.le_of_ble_eq_true rfl) (fun aa p e s m args below meth c A C hr hk hW ht hU hN ls hl => ?_)
  have hx := C.1.1
  have hb := C.1.2.1
  obtain ⟨Q, hQ⟩ : ∃ Q, Q = vx_MQ below (fun _ _ _ _ => False) (XCt D tc oa sh cn ln μ' A) args s (rma 10 220 1 6).cells (rma 10 220 1 6).slots A := ⟨_, rfl⟩
  rw [← hQ]
  have hl : lv_has ls 4 [(0, .ref (oa (0, 0))), (1, .int v1), (2, .int v2)] := hl
  unfold g_X10_liars at hf
  refine lv_aload_n hx hb dX10_liars_0 rfl (lv_at hl 0 rfl) ?_
  refine gf_X10_10 C hW dX10_liars_1 ?_
  obtain ⟨x4, h4, hf⟩ := bd_of hf
  refine r_callV (k := ((2, 0) : Ky)) C hW hl lk_X10_86 (c_X7_use hwf h4) ⟨rfl, rfl⟩ ⟨Nat.le_of_ble_eq_true rfl, Nat.le_of_ble_eq_true rfl⟩ rfl rfl rfl (As := []) (rest := []) rfl rfl (Nat.le_of_ble_eq_true rfl) dX10_liars_4 ⟨Nat.zero_le _, Nat.zero_le _⟩ (fun H locs hW => ?_)
  show W p l e (rma 10 220 1 6) s m args below meth c H locs 0 0 Q (F0 m 7 ls [.int x4.1])
  refine lv_istore_n (lv' := [(3, .int x4.1), (0, .ref (oa (0, 0))), (1, .int v1), (2, .int v2)]) hx hb dX10_liars_7 rfl hl (by decide) rfl (fun ls hl => ?_)
  refine lv_aload_n hx hb dX10_liars_8 rfl (lv_at hl 1 rfl) ?_
  refine gf_X10_35 C hW dX10_liars_9 ?_
  refine lv_aload_n hx hb dX10_liars_12 rfl (lv_at hl 1 rfl) ?_
  refine gf_X10_60 C hW dX10_liars_13 ?_
  obtain ⟨hq1, hf⟩ := ce_of hf
  refine lv_aload_n hx hb dX10_liars_16 rfl (lv_at hl 1 rfl) ?_
  refine gf_X10_10 C hW dX10_liars_17 ?_
  refine lv_iload_n hx hb dX10_liars_20 rfl (lv_at hl 0 rfl) ?_
  obtain ⟨x21, h21, hf⟩ := bd_of hf
  refine r_callV (k := ((5, 0) : Ky)) C hW hl lk_X10_341 (c_X5_tellsSayings hwf hq1 h21) ⟨rfl, rfl⟩ ⟨Nat.le_of_ble_eq_true rfl, Nat.le_of_ble_eq_true rfl⟩ rfl rfl rfl (As := [.ref (oa (13, (x4.2 (0, 0) 9).toNatClampNeg)), .ref (oa (2, 0)), .int x4.1]) (rest := []) rfl rfl (Nat.le_of_ble_eq_true rfl) dX10_liars_21 ⟨Nat.zero_le _, Nat.zero_le _⟩ (fun H locs hW => ?_)
  show W p l e (rma 10 220 1 6) s m args below meth c H locs 0 0 Q (F0 m 24 ls [.int x21])
  refine lv_if_eq (tgt := 37) hx hb dX10_liars_24 (by decide) (fun c2 => ?_) (fun c2 => ?_)
  · have hf := (if_pos c2).symm.trans hf
    obtain ⟨rfl, rfl⟩ : 3 = cn ∧ x4.2 = μ' := by cases hf; exact ⟨rfl, rfl⟩
    rw [hQ]
    exact r_throw (np := 44) (sa := ro.1 37) (cn := 3) (E := "java/lang/IllegalArgumentException") (Y0 := "java/lang/RuntimeException") (names := ["java/lang/Exception"]) (text := "the tape tells no sayings, or k is none") C hs ht hU hN hk hW hl rfl exw_3 exd_3 (by decide) (by decide) (by decide) (C.2.2.2.1 ("BackVillage", 344, "the tape tells no sayings, or k is none", 37) mr_344) dX10_liars_37 dX10_liars_40 (Or.inr ⟨dX10_liars_41, rfl⟩) dX10_liars_44 dX10_liars_47 (Nat.le_of_ble_eq_true rfl) (Nat.le_of_ble_eq_true rfl) (Nat.le_of_ble_eq_true rfl) (Nat.le_of_ble_eq_true rfl) (Nat.le_of_ble_eq_true rfl) (Nat.le_of_ble_eq_true rfl)
  · have hf := (if_neg c2).symm.trans hf
    refine lv_iload_n hx hb dX10_liars_27 rfl (lv_at hl 2 rfl) ?_
    refine lv_if_lt (tgt := 37) hx hb dX10_liars_28 (by decide) (fun c3 => ?_) (fun c3 => ?_)
    · have hf := (if_pos c3).symm.trans hf
      obtain ⟨rfl, rfl⟩ : 3 = cn ∧ x4.2 = μ' := by cases hf; exact ⟨rfl, rfl⟩
      rw [hQ]
      exact r_throw (np := 44) (sa := ro.1 37) (cn := 3) (E := "java/lang/IllegalArgumentException") (Y0 := "java/lang/RuntimeException") (names := ["java/lang/Exception"]) (text := "the tape tells no sayings, or k is none") C hs ht hU hN hk hW hl rfl exw_3 exd_3 (by decide) (by decide) (by decide) (C.2.2.2.1 ("BackVillage", 344, "the tape tells no sayings, or k is none", 37) mr_344) dX10_liars_37 dX10_liars_40 (Or.inr ⟨dX10_liars_41, rfl⟩) dX10_liars_44 dX10_liars_47 (Nat.le_of_ble_eq_true rfl) (Nat.le_of_ble_eq_true rfl) (Nat.le_of_ble_eq_true rfl) (Nat.le_of_ble_eq_true rfl) (Nat.le_of_ble_eq_true rfl) (Nat.le_of_ble_eq_true rfl)
    · have hf := (if_neg c3).symm.trans hf
      refine lv_iload_n hx hb dX10_liars_31 rfl (lv_at hl 2 rfl) ?_
      refine lv_bipush (v := 9) hx hb dX10_liars_32 (by decide) ?_
      refine lv_icmp_le (tgt := 48) hx hb dX10_liars_34 (by decide) (fun c4 => ?_) (fun c4 => ?_)
      · have hf := (if_pos c4).symm.trans hf
        refine lv_aload_n hx hb dX10_liars_48 rfl (lv_at hl 1 rfl) ?_
        refine gf_X10_35 C hW dX10_liars_49 ?_
        refine lv_aload_n hx hb dX10_liars_52 rfl (lv_at hl 1 rfl) ?_
        refine gf_X10_60 C hW dX10_liars_53 ?_
        obtain ⟨hq5, hf⟩ := ce_of hf
        refine lv_aload_n hx hb dX10_liars_56 rfl (lv_at hl 1 rfl) ?_
        refine gf_X10_10 C hW dX10_liars_57 ?_
        refine lv_iload_n hx hb dX10_liars_60 rfl (lv_at hl 0 rfl) ?_
        refine lv_iload_n hx hb dX10_liars_61 rfl (lv_at hl 2 rfl) ?_
        refine lv_iload_n hx hb dX10_liars_62 rfl (lv_at hl 3 rfl) ?_
        obtain ⟨x63, h63, hf⟩ := bd_of hf
        refine r_callV (k := ((5, 0) : Ky)) C hW hl lk_X10_346 (c_X5_whoLied hwf hq5 h63) ⟨rfl, rfl⟩ ⟨Nat.le_of_ble_eq_true rfl, Nat.le_of_ble_eq_true rfl⟩ rfl rfl rfl (As := [.ref (oa (13, (x4.2 (0, 0) 9).toNatClampNeg)), .ref (oa (2, 0)), .int x4.1, .int v1, .int v2]) (rest := []) rfl rfl (Nat.le_of_ble_eq_true rfl) dX10_liars_63 ⟨Nat.zero_le _, Nat.zero_le _⟩ (fun H locs hW => ?_)
        show W p l e (rma 10 220 1 6) s m args below meth c H locs 0 0 Q (F0 m 66 ls [.int x63])
        cases hf
      · have hf := (if_neg c4).symm.trans hf
        obtain ⟨rfl, rfl⟩ : 3 = cn ∧ x4.2 = μ' := by cases hf; exact ⟨rfl, rfl⟩
        rw [hQ]
        exact r_throw (np := 44) (sa := ro.1 37) (cn := 3) (E := "java/lang/IllegalArgumentException") (Y0 := "java/lang/RuntimeException") (names := ["java/lang/Exception"]) (text := "the tape tells no sayings, or k is none") C hs ht hU hN hk hW hl rfl exw_3 exd_3 (by decide) (by decide) (by decide) (C.2.2.2.1 ("BackVillage", 344, "the tape tells no sayings, or k is none", 37) mr_344) dX10_liars_37 dX10_liars_40 (Or.inr ⟨dX10_liars_41, rfl⟩) dX10_liars_44 dX10_liars_47 (Nat.le_of_ble_eq_true rfl) (Nat.le_of_ble_eq_true rfl) (Nat.le_of_ble_eq_true rfl) (Nat.le_of_ble_eq_true rfl) (Nat.le_of_ble_eq_true rfl) (Nat.le_of_ble_eq_true rfl)
