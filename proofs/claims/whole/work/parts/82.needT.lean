theorem mr_109 : ("BackVillage", 109, "the text of the village is wrong", 24) ∈ refsS := List.mem_of_getElem? (i := 24) (by decide +kernel)
theorem mr_119 : ("BackVillage", 119, "there are 12 texts", 25) ∈ refsS := List.mem_of_getElem? (i := 25) (by decide +kernel)
theorem mr_179 : ("BackVillage", 179, "there is no such thing to be told of a person", 28) ∈ refsS := List.mem_of_getElem? (i := 28) (by decide +kernel)
theorem mr_242 : ("BackVillage", 242, "so many do not have it", 35) ∈ refsS := List.mem_of_getElem? (i := 35) (by decide +kernel)
theorem mr_335 : ("BackVillage", 335, "the tape tells no pairs, or k is none", 36) ∈ refsS := List.mem_of_getElem? (i := 36) (by decide +kernel)
theorem mr_344 : ("BackVillage", 344, "the tape tells no sayings, or k is none", 37) ∈ refsS := List.mem_of_getElem? (i := 37) (by decide +kernel)
theorem mr_362 : ("BackVillage", 362, "there is no such thing to be told of a row", 38) ∈ refsS := List.mem_of_getElem? (i := 38) (by decide +kernel)
theorem mr_407 : ("BackVillage", 407, "there is no such person", 27) ∈ refsS := List.mem_of_getElem? (i := 27) (by decide +kernel)
theorem mr_413 : ("BackVillage", 413, "there is no such notice", 33) ∈ refsS := List.mem_of_getElem? (i := 33) (by decide +kernel)
theorem mr_418 : ("BackVillage", 418, "there is no such world", 29) ∈ refsS := List.mem_of_getElem? (i := 29) (by decide +kernel)
theorem mr_420 : ("BackVillage", 420, "the world is left no more", 30) ∈ refsS := List.mem_of_getElem? (i := 30) (by decide +kernel)
theorem mr_422 : ("BackVillage", 422, "both are one", 31) ∈ refsS := List.mem_of_getElem? (i := 31) (by decide +kernel)
theorem mr_428 : ("BackVillage", 428, "one does not see the other", 32) ∈ refsS := List.mem_of_getElem? (i := 32) (by decide +kernel)
theorem mr_430 : ("BackVillage", 430, "the number is none", 34) ∈ refsS := List.mem_of_getElem? (i := 34) (by decide +kernel)
-- methods that throw: the throwing ways
set_option maxHeartbeats 4000000 in
set_option maxRecDepth 100000 in
theorem cT_X10_needPerson {l : Launch} {D : va_G} {tc : Nat → ClassId} {ro : Ro} {oa : Ky → Nat} {sh : Sh} {ln : Nat → Nat} {μ : Mm} {v1 : Int32} {cn : Nat} (hs : l.stackTraces = false) (hwf : WfS sh) (hf : g_X10_needPerson sh ln μ v1 = some (.inr cn)) : CtT l D tc ro oa yX10_needPerson cX10_needPerson 2 none (rma 6 100 1 6) [.ref (oa (0, 0)), .int v1] sh ln μ cn ln μ := by
  refine CtT.of (by decide) (Nat.le_of_ble_eq_true rfl) (fun aa p e s m args below meth c A C hr hk hW ht hU hN ls hl => ?_)
  have hx := C.1.1
  have hb := C.1.2.1
  obtain ⟨Q, hQ⟩ : ∃ Q, Q = vx_MQ below (fun _ _ _ _ => False) (XCt D tc oa sh cn ln μ A) args s (rma 6 100 1 6).cells (rma 6 100 1 6).slots A := ⟨_, rfl⟩
  rw [← hQ]
  have hl : lv_has ls 2 [(0, .ref (oa (0, 0))), (1, .int v1)] := hl
  unfold g_X10_needPerson at hf
  refine lv_aload_n hx hb dX10_needPerson_0 rfl (lv_at hl 0 rfl) ?_
  refine gf_X10_60 C hW dX10_needPerson_1 ?_
  obtain ⟨hq1, hf⟩ := ce_of hf
  refine lv_iload_n hx hb dX10_needPerson_4 rfl (lv_at hl 1 rfl) ?_
  obtain ⟨x5, h5, hf⟩ := bd_of hf
  refine r_callV (k := ((13, (μ (0, 0) 9).toNatClampNeg) : Ky)) C hW hl lk_X10_402 (c_X6_hasPerson hwf hq1 h5) ⟨rfl, rfl⟩ ⟨Nat.le_of_ble_eq_true rfl, Nat.le_of_ble_eq_true rfl⟩ rfl (faB_13 hq1) rfl (As := [.int v1]) (rest := []) rfl rfl (Nat.le_of_ble_eq_true rfl) dX10_needPerson_5 ⟨Nat.zero_le _, Nat.zero_le _⟩ (fun H locs hW => ?_)
  show W p l e (rma 6 100 1 6) s m args below meth c H locs 0 0 Q (F0 m 8 ls [.int x5])
  refine lv_if_ne (tgt := 22) hx hb dX10_needPerson_8 (by decide) (fun c2 => ?_) (fun c2 => ?_)
  · have hf := (if_neg c2).symm.trans hf
    cases hf
  · have hf := (if_pos c2).symm.trans hf
    obtain rfl : 1 = cn := by cases hf; rfl
    rw [hQ]
    exact r_throw (np := 18) (sa := ro.1 27) (cn := 1) (E := "java/lang/IndexOutOfBoundsException") (Y0 := "java/lang/RuntimeException") (names := ["java/lang/Exception"]) (text := "there is no such person") C hs ht hU hN hk hW hl rfl exw_1 exd_1 (by decide) (by decide) (by decide) (C.2.2.2.1 ("BackVillage", 407, "there is no such person", 27) mr_407) dX10_needPerson_11 dX10_needPerson_14 (Or.inr ⟨dX10_needPerson_15, rfl⟩) dX10_needPerson_18 dX10_needPerson_21 (Nat.le_of_ble_eq_true rfl) (Nat.le_of_ble_eq_true rfl) (Nat.le_of_ble_eq_true rfl) (Nat.le_of_ble_eq_true rfl) (Nat.le_of_ble_eq_true rfl) (Nat.le_of_ble_eq_true rfl)
theorem gn_needPerson {sh : Sh} {ln : Nat → Nat} {μ : Mm} {v1 : Int32} (h : g_X10_needPerson sh ln μ v1 = some (.inl ())) : f_X10_needPerson sh ln μ v1 = some () := by
  unfold g_X10_needPerson at h
  unfold f_X10_needPerson
  obtain ⟨h1, h⟩ := ce_of h
  obtain ⟨x, h2, h⟩ := bd_of h
  unfold ce
  rw [if_pos h1, h2, Option.bind_some]
  by_cases c : x = 0
  · rw [if_pos c] at h; cases h
  · rw [if_neg c]
set_option maxHeartbeats 4000000 in
set_option maxRecDepth 100000 in
theorem cT_X10_needNotice {l : Launch} {D : va_G} {tc : Nat → ClassId} {ro : Ro} {oa : Ky → Nat} {sh : Sh} {ln : Nat → Nat} {μ : Mm} {v1 : Int32} {cn : Nat} (hs : l.stackTraces = false) (hwf : WfS sh) (hf : g_X10_needNotice sh ln μ v1 = some (.inr cn)) : CtT l D tc ro oa yX10_needNotice cX10_needNotice 2 none (rma 6 100 1 6) [.ref (oa (0, 0)), .int v1] sh ln μ cn ln μ := by
  refine CtT.of (by decide) (Nat.le_of_ble_eq_true rfl) (fun aa p e s m args below meth c A C hr hk hW ht hU hN ls hl => ?_)
  have hx := C.1.1
  have hb := C.1.2.1
  obtain ⟨Q, hQ⟩ : ∃ Q, Q = vx_MQ below (fun _ _ _ _ => False) (XCt D tc oa sh cn ln μ A) args s (rma 6 100 1 6).cells (rma 6 100 1 6).slots A := ⟨_, rfl⟩
  rw [← hQ]
  have hl : lv_has ls 2 [(0, .ref (oa (0, 0))), (1, .int v1)] := hl
  unfold g_X10_needNotice at hf
  refine lv_aload_n hx hb dX10_needNotice_0 rfl (lv_at hl 0 rfl) ?_
  refine gf_X10_60 C hW dX10_needNotice_1 ?_
  obtain ⟨hq1, hf⟩ := ce_of hf
  refine lv_iload_n hx hb dX10_needNotice_4 rfl (lv_at hl 1 rfl) ?_
  obtain ⟨x5, h5, hf⟩ := bd_of hf
  refine r_callV (k := ((13, (μ (0, 0) 9).toNatClampNeg) : Ky)) C hW hl lk_X10_410 (c_X6_hasNotice hwf hq1 h5) ⟨rfl, rfl⟩ ⟨Nat.le_of_ble_eq_true rfl, Nat.le_of_ble_eq_true rfl⟩ rfl (faB_13 hq1) rfl (As := [.int v1]) (rest := []) rfl rfl (Nat.le_of_ble_eq_true rfl) dX10_needNotice_5 ⟨Nat.zero_le _, Nat.zero_le _⟩ (fun H locs hW => ?_)
  show W p l e (rma 6 100 1 6) s m args below meth c H locs 0 0 Q (F0 m 8 ls [.int x5])
  refine lv_if_ne (tgt := 22) hx hb dX10_needNotice_8 (by decide) (fun c2 => ?_) (fun c2 => ?_)
  · have hf := (if_neg c2).symm.trans hf
    cases hf
  · have hf := (if_pos c2).symm.trans hf
    obtain rfl : 1 = cn := by cases hf; rfl
    rw [hQ]
    exact r_throw (np := 18) (sa := ro.1 33) (cn := 1) (E := "java/lang/IndexOutOfBoundsException") (Y0 := "java/lang/RuntimeException") (names := ["java/lang/Exception"]) (text := "there is no such notice") C hs ht hU hN hk hW hl rfl exw_1 exd_1 (by decide) (by decide) (by decide) (C.2.2.2.1 ("BackVillage", 413, "there is no such notice", 33) mr_413) dX10_needNotice_11 dX10_needNotice_14 (Or.inr ⟨dX10_needNotice_15, rfl⟩) dX10_needNotice_18 dX10_needNotice_21 (Nat.le_of_ble_eq_true rfl) (Nat.le_of_ble_eq_true rfl) (Nat.le_of_ble_eq_true rfl) (Nat.le_of_ble_eq_true rfl) (Nat.le_of_ble_eq_true rfl) (Nat.le_of_ble_eq_true rfl)
theorem gn_needNotice {sh : Sh} {ln : Nat → Nat} {μ : Mm} {v1 : Int32} (h : g_X10_needNotice sh ln μ v1 = some (.inl ())) : f_X10_needNotice sh ln μ v1 = some () := by
  unfold g_X10_needNotice at h
  unfold f_X10_needNotice
  obtain ⟨h1, h⟩ := ce_of h
  obtain ⟨x, h2, h⟩ := bd_of h
  unfold ce
  rw [if_pos h1, h2, Option.bind_some]
  by_cases c : x = 0
  · rw [if_pos c] at h; cases h
  · rw [if_neg c]
set_option maxHeartbeats 4000000 in
set_option maxRecDepth 100000 in
theorem cT_X10_needWorld {l : Launch} {D : va_G} {tc : Nat → ClassId} {ro : Ro} {oa : Ky → Nat} {sh : Sh} {ln : Nat → Nat} {μ : Mm} {v1 : Int32} {cn : Nat} (hs : l.stackTraces = false) (hwf : WfS sh) (hf : g_X10_needWorld sh ln μ v1 = some (.inr cn)) : CtT l D tc ro oa yX10_needWorld cX10_needWorld 2 none (rma 6 100 1 6) [.ref (oa (0, 0)), .int v1] sh ln μ cn ln μ := by
  refine CtT.of (by decide) (Nat.le_of_ble_eq_true rfl) (fun aa p e s m args below meth c A C hr hk hW ht hU hN ls hl => ?_)
  have hx := C.1.1
  have hb := C.1.2.1
  obtain ⟨Q, hQ⟩ : ∃ Q, Q = vx_MQ below (fun _ _ _ _ => False) (XCt D tc oa sh cn ln μ A) args s (rma 6 100 1 6).cells (rma 6 100 1 6).slots A := ⟨_, rfl⟩
  rw [← hQ]
  have hl : lv_has ls 2 [(0, .ref (oa (0, 0))), (1, .int v1)] := hl
  unfold g_X10_needWorld at hf
  refine lv_aload_n hx hb dX10_needWorld_0 rfl (lv_at hl 0 rfl) ?_
  refine gf_X10_60 C hW dX10_needWorld_1 ?_
  obtain ⟨hq1, hf⟩ := ce_of hf
  refine lv_iload_n hx hb dX10_needWorld_4 rfl (lv_at hl 1 rfl) ?_
  obtain ⟨x5, h5, hf⟩ := bd_of hf
  refine r_callV (k := ((13, (μ (0, 0) 9).toNatClampNeg) : Ky)) C hW hl lk_X10_415 (c_X6_hasWorld hwf hq1 h5) ⟨rfl, rfl⟩ ⟨Nat.le_of_ble_eq_true rfl, Nat.le_of_ble_eq_true rfl⟩ rfl (faB_13 hq1) rfl (As := [.int v1]) (rest := []) rfl rfl (Nat.le_of_ble_eq_true rfl) dX10_needWorld_5 ⟨Nat.zero_le _, Nat.zero_le _⟩ (fun H locs hW => ?_)
  show W p l e (rma 6 100 1 6) s m args below meth c H locs 0 0 Q (F0 m 8 ls [.int x5])
  refine lv_if_ne (tgt := 22) hx hb dX10_needWorld_8 (by decide) (fun c2 => ?_) (fun c2 => ?_)
  · have hf := (if_neg c2).symm.trans hf
    cases hf
  · have hf := (if_pos c2).symm.trans hf
    obtain rfl : 1 = cn := by cases hf; rfl
    rw [hQ]
    exact r_throw (np := 18) (sa := ro.1 29) (cn := 1) (E := "java/lang/IndexOutOfBoundsException") (Y0 := "java/lang/RuntimeException") (names := ["java/lang/Exception"]) (text := "there is no such world") C hs ht hU hN hk hW hl rfl exw_1 exd_1 (by decide) (by decide) (by decide) (C.2.2.2.1 ("BackVillage", 418, "there is no such world", 29) mr_418) dX10_needWorld_11 dX10_needWorld_14 (Or.inr ⟨dX10_needWorld_15, rfl⟩) dX10_needWorld_18 dX10_needWorld_21 (Nat.le_of_ble_eq_true rfl) (Nat.le_of_ble_eq_true rfl) (Nat.le_of_ble_eq_true rfl) (Nat.le_of_ble_eq_true rfl) (Nat.le_of_ble_eq_true rfl) (Nat.le_of_ble_eq_true rfl)
theorem gn_needWorld {sh : Sh} {ln : Nat → Nat} {μ : Mm} {v1 : Int32} (h : g_X10_needWorld sh ln μ v1 = some (.inl ())) : f_X10_needWorld sh ln μ v1 = some () := by
  unfold g_X10_needWorld at h
  unfold f_X10_needWorld
  obtain ⟨h1, h⟩ := ce_of h
  obtain ⟨x, h2, h⟩ := bd_of h
  unfold ce
  rw [if_pos h1, h2, Option.bind_some]
  by_cases c : x = 0
  · rw [if_pos c] at h; cases h
  · rw [if_neg c]
set_option maxHeartbeats 4000000 in
set_option maxRecDepth 100000 in
theorem cT_X10_needLeft {l : Launch} {D : va_G} {tc : Nat → ClassId} {ro : Ro} {oa : Ky → Nat} {sh : Sh} {ln : Nat → Nat} {μ : Mm} {v1 : Int32} {cn : Nat} (hs : l.stackTraces = false) (hwf : WfS sh) (hf : g_X10_needLeft sh ln μ v1 = some (.inr cn)) : CtT l D tc ro oa yX10_needLeft cX10_needLeft 2 none (rma 6 100 1 6) [.ref (oa (0, 0)), .int v1] sh ln μ cn ln μ := by
  refine CtT.of (by decide) (Nat.le_of_ble_eq_true rfl) (fun aa p e s m args below meth c A C hr hk hW ht hU hN ls hl => ?_)
  have hx := C.1.1
  have hb := C.1.2.1
  obtain ⟨Q, hQ⟩ : ∃ Q, Q = vx_MQ below (fun _ _ _ _ => False) (XCt D tc oa sh cn ln μ A) args s (rma 6 100 1 6).cells (rma 6 100 1 6).slots A := ⟨_, rfl⟩
  rw [← hQ]
  have hl : lv_has ls 2 [(0, .ref (oa (0, 0))), (1, .int v1)] := hl
  unfold g_X10_needLeft at hf
  refine lv_aload_n hx hb dX10_needLeft_0 rfl (lv_at hl 0 rfl) ?_
  refine gf_X10_60 C hW dX10_needLeft_1 ?_
  obtain ⟨hq1, hf⟩ := ce_of hf
  refine lv_iload_n hx hb dX10_needLeft_4 rfl (lv_at hl 1 rfl) ?_
  obtain ⟨x5, h5, hf⟩ := bd_of hf
  refine r_callV (k := ((13, (μ (0, 0) 9).toNatClampNeg) : Ky)) C hW hl lk_X10_185 (c_X6_stands hwf hq1 h5) ⟨rfl, rfl⟩ ⟨Nat.le_of_ble_eq_true rfl, Nat.le_of_ble_eq_true rfl⟩ rfl (faB_13 hq1) rfl (As := [.int v1]) (rest := []) rfl rfl (Nat.le_of_ble_eq_true rfl) dX10_needLeft_5 ⟨Nat.zero_le _, Nat.zero_le _⟩ (fun H locs hW => ?_)
  show W p l e (rma 6 100 1 6) s m args below meth c H locs 0 0 Q (F0 m 8 ls [.int x5])
  refine lv_if_ne (tgt := 22) hx hb dX10_needLeft_8 (by decide) (fun c2 => ?_) (fun c2 => ?_)
  · have hf := (if_neg c2).symm.trans hf
    cases hf
  · have hf := (if_pos c2).symm.trans hf
    obtain rfl : 4 = cn := by cases hf; rfl
    rw [hQ]
    exact r_throw (np := 18) (sa := ro.1 30) (cn := 4) (E := "java/lang/IllegalStateException") (Y0 := "java/lang/RuntimeException") (names := ["java/lang/Exception"]) (text := "the world is left no more") C hs ht hU hN hk hW hl rfl exw_4 exd_4 (by decide) (by decide) (by decide) (C.2.2.2.1 ("BackVillage", 420, "the world is left no more", 30) mr_420) dX10_needLeft_11 dX10_needLeft_14 (Or.inr ⟨dX10_needLeft_15, rfl⟩) dX10_needLeft_18 dX10_needLeft_21 (Nat.le_of_ble_eq_true rfl) (Nat.le_of_ble_eq_true rfl) (Nat.le_of_ble_eq_true rfl) (Nat.le_of_ble_eq_true rfl) (Nat.le_of_ble_eq_true rfl) (Nat.le_of_ble_eq_true rfl)
theorem gn_needLeft {sh : Sh} {ln : Nat → Nat} {μ : Mm} {v1 : Int32} (h : g_X10_needLeft sh ln μ v1 = some (.inl ())) : f_X10_needLeft sh ln μ v1 = some () := by
  unfold g_X10_needLeft at h
  unfold f_X10_needLeft
  obtain ⟨h1, h⟩ := ce_of h
  obtain ⟨x, h2, h⟩ := bd_of h
  unfold ce
  rw [if_pos h1, h2, Option.bind_some]
  by_cases c : x = 0
  · rw [if_pos c] at h; cases h
  · rw [if_neg c]
set_option maxHeartbeats 4000000 in
set_option maxRecDepth 100000 in
theorem cT_X10_needTwo {l : Launch} {D : va_G} {tc : Nat → ClassId} {ro : Ro} {oa : Ky → Nat} {sh : Sh} {ln : Nat → Nat} {μ : Mm} {v1 v2 : Int32} {cn : Nat} (hs : l.stackTraces = false) (hwf : WfS sh) (hf : g_X10_needTwo v1 v2 = some (.inr cn)) : CtT l D tc ro oa yX10_needTwo cX10_needTwo 3 none (rma 6 100 1 6) [.ref (oa (0, 0)), .int v1, .int v2] sh ln μ cn ln μ := by
  refine CtT.of (by decide) (Nat.le_of_ble_eq_true rfl) (fun aa p e s m args below meth c A C hr hk hW ht hU hN ls hl => ?_)
  have hx := C.1.1
  have hb := C.1.2.1
  obtain ⟨Q, hQ⟩ : ∃ Q, Q = vx_MQ below (fun _ _ _ _ => False) (XCt D tc oa sh cn ln μ A) args s (rma 6 100 1 6).cells (rma 6 100 1 6).slots A := ⟨_, rfl⟩
  rw [← hQ]
  have hl : lv_has ls 3 [(0, .ref (oa (0, 0))), (1, .int v1), (2, .int v2)] := hl
  unfold g_X10_needTwo at hf
  refine lv_iload_n hx hb dX10_needTwo_0 rfl (lv_at hl 1 rfl) ?_
  refine lv_iload_n hx hb dX10_needTwo_1 rfl (lv_at hl 2 rfl) ?_
  refine lv_icmp_ne (tgt := 16) hx hb dX10_needTwo_2 (by decide) (fun c1 => ?_) (fun c1 => ?_)
  · have hf := (if_neg c1).symm.trans hf
    cases hf
  · have hf := (if_pos c1).symm.trans hf
    obtain rfl : 3 = cn := by cases hf; rfl
    rw [hQ]
    exact r_throw (np := 12) (sa := ro.1 31) (cn := 3) (E := "java/lang/IllegalArgumentException") (Y0 := "java/lang/RuntimeException") (names := ["java/lang/Exception"]) (text := "both are one") C hs ht hU hN hk hW hl rfl exw_3 exd_3 (by decide) (by decide) (by decide) (C.2.2.2.1 ("BackVillage", 422, "both are one", 31) mr_422) dX10_needTwo_5 dX10_needTwo_8 (Or.inr ⟨dX10_needTwo_9, rfl⟩) dX10_needTwo_12 dX10_needTwo_15 (Nat.le_of_ble_eq_true rfl) (Nat.le_of_ble_eq_true rfl) (Nat.le_of_ble_eq_true rfl) (Nat.le_of_ble_eq_true rfl) (Nat.le_of_ble_eq_true rfl) (Nat.le_of_ble_eq_true rfl)
theorem gn_needTwo {v1 v2 : Int32} (h : g_X10_needTwo v1 v2 = some (.inl ())) : f_X10_needTwo v1 v2 = some () := by
  unfold g_X10_needTwo at h
  unfold f_X10_needTwo
  by_cases c : v1 = v2
  · rw [if_pos c] at h; cases h
  · rw [if_neg c]
set_option maxHeartbeats 4000000 in
set_option maxRecDepth 100000 in
theorem cT_X10_needSight {l : Launch} {D : va_G} {tc : Nat → ClassId} {ro : Ro} {oa : Ky → Nat} {sh : Sh} {ln : Nat → Nat} {μ : Mm} {v1 v2 : Int32} {cn : Nat} (hs : l.stackTraces = false) (hwf : WfS sh) (hf : g_X10_needSight sh ln μ v1 v2 = some (.inr cn)) : CtT l D tc ro oa yX10_needSight cX10_needSight 3 none (rma 6 100 1 6) [.ref (oa (0, 0)), .int v1, .int v2] sh ln μ cn ln μ := by
  refine CtT.of (by decide) (Nat.le_of_ble_eq_true rfl) (fun aa p e s m args below meth c A C hr hk hW ht hU hN ls hl => ?_)
  have hx := C.1.1
  have hb := C.1.2.1
  obtain ⟨Q, hQ⟩ : ∃ Q, Q = vx_MQ below (fun _ _ _ _ => False) (XCt D tc oa sh cn ln μ A) args s (rma 6 100 1 6).cells (rma 6 100 1 6).slots A := ⟨_, rfl⟩
  rw [← hQ]
  have hl : lv_has ls 3 [(0, .ref (oa (0, 0))), (1, .int v1), (2, .int v2)] := hl
  unfold g_X10_needSight at hf
  refine lv_aload_n hx hb dX10_needSight_0 rfl (lv_at hl 0 rfl) ?_
  refine gf_X10_60 C hW dX10_needSight_1 ?_
  obtain ⟨hq1, hf⟩ := ce_of hf
  refine lv_iload_n hx hb dX10_needSight_4 rfl (lv_at hl 1 rfl) ?_
  refine lv_iload_n hx hb dX10_needSight_5 rfl (lv_at hl 2 rfl) ?_
  obtain ⟨x6, h6, hf⟩ := bd_of hf
  refine r_callV (k := ((13, (μ (0, 0) 9).toNatClampNeg) : Ky)) C hW hl lk_X10_424 (c_X6_hasSight hwf hq1 h6) ⟨rfl, rfl⟩ ⟨Nat.le_of_ble_eq_true rfl, Nat.le_of_ble_eq_true rfl⟩ rfl (faB_13 hq1) rfl (As := [.int v1, .int v2]) (rest := []) rfl rfl (Nat.le_of_ble_eq_true rfl) dX10_needSight_6 ⟨Nat.zero_le _, Nat.zero_le _⟩ (fun H locs hW => ?_)
  show W p l e (rma 6 100 1 6) s m args below meth c H locs 0 0 Q (F0 m 9 ls [.int x6])
  refine lv_if_ne (tgt := 23) hx hb dX10_needSight_9 (by decide) (fun c2 => ?_) (fun c2 => ?_)
  · have hf := (if_neg c2).symm.trans hf
    cases hf
  · have hf := (if_pos c2).symm.trans hf
    obtain rfl : 4 = cn := by cases hf; rfl
    rw [hQ]
    exact r_throw (np := 19) (sa := ro.1 32) (cn := 4) (E := "java/lang/IllegalStateException") (Y0 := "java/lang/RuntimeException") (names := ["java/lang/Exception"]) (text := "one does not see the other") C hs ht hU hN hk hW hl rfl exw_4 exd_4 (by decide) (by decide) (by decide) (C.2.2.2.1 ("BackVillage", 428, "one does not see the other", 32) mr_428) dX10_needSight_12 dX10_needSight_15 (Or.inr ⟨dX10_needSight_16, rfl⟩) dX10_needSight_19 dX10_needSight_22 (Nat.le_of_ble_eq_true rfl) (Nat.le_of_ble_eq_true rfl) (Nat.le_of_ble_eq_true rfl) (Nat.le_of_ble_eq_true rfl) (Nat.le_of_ble_eq_true rfl) (Nat.le_of_ble_eq_true rfl)
theorem gn_needSight {sh : Sh} {ln : Nat → Nat} {μ : Mm} {v1 v2 : Int32} (h : g_X10_needSight sh ln μ v1 v2 = some (.inl ())) : f_X10_needSight sh ln μ v1 v2 = some () := by
  unfold g_X10_needSight at h
  unfold f_X10_needSight
  obtain ⟨h1, h⟩ := ce_of h
  obtain ⟨x, h2, h⟩ := bd_of h
  unfold ce
  rw [if_pos h1, h2, Option.bind_some]
  by_cases c : x = 0
  · rw [if_pos c] at h; cases h
  · rw [if_neg c]
set_option maxHeartbeats 4000000 in
set_option maxRecDepth 100000 in
theorem cT_X10_needNumber {l : Launch} {D : va_G} {tc : Nat → ClassId} {ro : Ro} {oa : Ky → Nat} {sh : Sh} {ln : Nat → Nat} {μ : Mm} {v1 v2 v3 : Int32} {cn : Nat} (hs : l.stackTraces = false) (hwf : WfS sh) (hf : g_X10_needNumber v1 v2 v3 = some (.inr cn)) : CtT l D tc ro oa yX10_needNumber cX10_needNumber 4 none (rma 6 100 1 6) [.ref (oa (0, 0)), .int v1, .int v2, .int v3] sh ln μ cn ln μ := by
  refine CtT.of (by decide) (Nat.le_of_ble_eq_true rfl) (fun aa p e s m args below meth c A C hr hk hW ht hU hN ls hl => ?_)
  have hx := C.1.1
  have hb := C.1.2.1
  obtain ⟨Q, hQ⟩ : ∃ Q, Q = vx_MQ below (fun _ _ _ _ => False) (XCt D tc oa sh cn ln μ A) args s (rma 6 100 1 6).cells (rma 6 100 1 6).slots A := ⟨_, rfl⟩
  rw [← hQ]
  have hl : lv_has ls 4 [(0, .ref (oa (0, 0))), (1, .int v1), (2, .int v2), (3, .int v3)] := hl
  unfold g_X10_needNumber at hf
  refine lv_iload_n hx hb dX10_needNumber_0 rfl (lv_at hl 1 rfl) ?_
  refine lv_iload_n hx hb dX10_needNumber_1 rfl (lv_at hl 2 rfl) ?_
  refine lv_icmp_lt (tgt := 10) hx hb dX10_needNumber_2 (by decide) (fun c1 => ?_) (fun c1 => ?_)
  · have hf := (if_pos c1).symm.trans hf
    obtain rfl : 3 = cn := by cases hf; rfl
    rw [hQ]
    exact r_throw (np := 17) (sa := ro.1 34) (cn := 3) (E := "java/lang/IllegalArgumentException") (Y0 := "java/lang/RuntimeException") (names := ["java/lang/Exception"]) (text := "the number is none") C hs ht hU hN hk hW hl rfl exw_3 exd_3 (by decide) (by decide) (by decide) (C.2.2.2.1 ("BackVillage", 430, "the number is none", 34) mr_430) dX10_needNumber_10 dX10_needNumber_13 (Or.inr ⟨dX10_needNumber_14, rfl⟩) dX10_needNumber_17 dX10_needNumber_20 (Nat.le_of_ble_eq_true rfl) (Nat.le_of_ble_eq_true rfl) (Nat.le_of_ble_eq_true rfl) (Nat.le_of_ble_eq_true rfl) (Nat.le_of_ble_eq_true rfl) (Nat.le_of_ble_eq_true rfl)
  · have hf := (if_neg c1).symm.trans hf
    refine lv_iload_n hx hb dX10_needNumber_5 rfl (lv_at hl 1 rfl) ?_
    refine lv_iload_n hx hb dX10_needNumber_6 rfl (lv_at hl 3 rfl) ?_
    refine lv_icmp_le (tgt := 21) hx hb dX10_needNumber_7 (by decide) (fun c2 => ?_) (fun c2 => ?_)
    · have hf := (if_pos c2).symm.trans hf
      cases hf
    · have hf := (if_neg c2).symm.trans hf
      obtain rfl : 3 = cn := by cases hf; rfl
      rw [hQ]
      exact r_throw (np := 17) (sa := ro.1 34) (cn := 3) (E := "java/lang/IllegalArgumentException") (Y0 := "java/lang/RuntimeException") (names := ["java/lang/Exception"]) (text := "the number is none") C hs ht hU hN hk hW hl rfl exw_3 exd_3 (by decide) (by decide) (by decide) (C.2.2.2.1 ("BackVillage", 430, "the number is none", 34) mr_430) dX10_needNumber_10 dX10_needNumber_13 (Or.inr ⟨dX10_needNumber_14, rfl⟩) dX10_needNumber_17 dX10_needNumber_20 (Nat.le_of_ble_eq_true rfl) (Nat.le_of_ble_eq_true rfl) (Nat.le_of_ble_eq_true rfl) (Nat.le_of_ble_eq_true rfl) (Nat.le_of_ble_eq_true rfl) (Nat.le_of_ble_eq_true rfl)
theorem gn_needNumber {v1 v2 v3 : Int32} (h : g_X10_needNumber v1 v2 v3 = some (.inl ())) : f_X10_needNumber v1 v2 v3 = some () := by
  unfold g_X10_needNumber at h
  unfold f_X10_needNumber
  by_cases c : v1 < v2
  · rw [if_pos c] at h; cases h
  · rw [if_neg c] at h ⊢
    by_cases c2 : v1 ≤ v3
    · rw [if_pos c2]
    · rw [if_neg c2] at h; cases h
set_option maxHeartbeats 4000000 in
set_option maxRecDepth 100000 in
theorem cT_X10_needPersonOrNone {l : Launch} {D : va_G} {tc : Nat → ClassId} {ro : Ro} {oa : Ky → Nat} {sh : Sh} {ln : Nat → Nat} {μ : Mm} {v1 : Int32} {cn : Nat} (hs : l.stackTraces = false) (hwf : WfS sh) (hf : g_X10_needPersonOrNone sh ln μ v1 = some (.inr cn)) : CtT l D tc ro oa yX10_needPersonOrNone cX10_needPersonOrNone 2 none (rma 7 130 1 6) [.ref (oa (0, 0)), .int v1] sh ln μ cn ln μ := by
  refine CtT.of (by decide) (Nat.le_of_ble_eq_true rfl) (fun aa p e s m args below meth c A C hr hk hW ht hU hN ls hl => ?_)
  have hx := C.1.1
  have hb := C.1.2.1
  obtain ⟨Q, hQ⟩ : ∃ Q, Q = vx_MQ below (fun _ _ _ _ => False) (XCt D tc oa sh cn ln μ A) args s (rma 7 130 1 6).cells (rma 7 130 1 6).slots A := ⟨_, rfl⟩
  rw [← hQ]
  have hl : lv_has ls 2 [(0, .ref (oa (0, 0))), (1, .int v1)] := hl
  unfold g_X10_needPersonOrNone at hf
  refine lv_iload_n hx hb dX10_needPersonOrNone_0 rfl (lv_at hl 1 rfl) ?_
  refine lv_iconst (v := -1) hx hb dX10_needPersonOrNone_1 (by decide) ?_
  refine lv_icmp_eq (tgt := 10) hx hb dX10_needPersonOrNone_2 (by decide) (fun c1 => ?_) (fun c1 => ?_)
  · have hf := (if_pos c1).symm.trans hf
    cases hf
  · have hf := (if_neg c1).symm.trans hf
    refine lv_aload_n hx hb dX10_needPersonOrNone_5 rfl (lv_at hl 0 rfl) ?_
    refine lv_iload_n hx hb dX10_needPersonOrNone_6 rfl (lv_at hl 1 rfl) ?_
    rw [hQ]
    exact r_callT (k := ((0, 0) : Ky)) C ht hU hN hk hW hl lk_X10_141 (cT_X10_needPerson hs hwf hf) ⟨Nat.le_of_ble_eq_true rfl, Nat.le_of_ble_eq_true rfl⟩ rfl rfl rfl (As := [.int v1]) (rest := []) rfl rfl (Nat.le_of_ble_eq_true rfl) dX10_needPersonOrNone_7 ⟨Nat.le_of_ble_eq_true rfl, Nat.le_of_ble_eq_true rfl⟩ (Nat.le_of_ble_eq_true rfl) (Nat.le_of_ble_eq_true rfl)
theorem gn_needPersonOrNone {sh : Sh} {ln : Nat → Nat} {μ : Mm} {v1 : Int32} (h : g_X10_needPersonOrNone sh ln μ v1 = some (.inl ())) : f_X10_needPersonOrNone sh ln μ v1 = some () := by
  unfold g_X10_needPersonOrNone at h
  unfold f_X10_needPersonOrNone
  by_cases c : v1 = (-1 : Int32)
  · rw [if_pos c]
  · rw [if_neg c] at h ⊢
    rw [gn_needPerson h, Option.bind_some]
