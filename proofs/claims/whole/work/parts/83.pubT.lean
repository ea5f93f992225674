-- the public methods that throw
set_option maxHeartbeats 4000000 in
set_option maxRecDepth 100000 in
theorem cT_X10_left {l : Launch} {D : va_G} {tc : Nat → ClassId} {ro : Ro} {oa : Ky → Nat} {sh : Sh} {ln : Nat → Nat} {μ : Mm} {v1 : Int32} {μ' : Mm} {cn : Nat} (hs : l.stackTraces = false) (hwf : WfS sh) (hf : g_X10_left sh ln μ v1 = some (.inr cn, μ')) : CtT l D tc ro oa yX10_left cX10_left 2 (some .boolean) (rma 10 220 1 6) [.ref (oa (0, 0)), .int v1] sh ln μ cn ln μ' := by
  refine CtT.of (by decide) (Nat.le_of_ble_eq_true rfl) (fun aa p e s m args below meth c A C hr hk hW ht hU hN ls hl => ?_)
  have hx := C.1.1
  have hb := C.1.2.1
  obtain ⟨Q, hQ⟩ : ∃ Q, Q = vx_MQ below (fun _ _ _ _ => False) (XCt D tc oa sh cn ln μ' A) args s (rma 10 220 1 6).cells (rma 10 220 1 6).slots A := ⟨_, rfl⟩
  rw [← hQ]
  have hl : lv_has ls 2 [(0, .ref (oa (0, 0))), (1, .int v1)] := hl
  unfold g_X10_left at hf
  refine lv_aload_n hx hb dX10_left_0 rfl (lv_at hl 0 rfl) ?_
  refine lv_iload_n hx hb dX10_left_1 rfl (lv_at hl 1 rfl) ?_
  rcases xb_of hf with ⟨h2, hf⟩ | ⟨h2, e2⟩
  rotate_left
  · subst e2; rw [hQ]
    exact r_callT (k := ((0, 0) : Ky)) C ht hU hN hk hW hl lk_X10_182 (cT_X10_needWorld hs hwf h2) ⟨Nat.le_of_ble_eq_true rfl, Nat.le_of_ble_eq_true rfl⟩ rfl rfl rfl (As := [.int v1]) (rest := []) rfl rfl (Nat.le_of_ble_eq_true rfl) dX10_left_2 ⟨Nat.le_of_ble_eq_true rfl, Nat.le_of_ble_eq_true rfl⟩ (Nat.le_of_ble_eq_true rfl) (Nat.le_of_ble_eq_true rfl)
  refine r_callV (k := ((0, 0) : Ky)) C hW hl lk_X10_182 (c_X10_needWorld hwf (gn_needWorld h2)) ⟨rfl, rfl⟩ ⟨Nat.le_of_ble_eq_true rfl, Nat.le_of_ble_eq_true rfl⟩ rfl rfl rfl (As := [.int v1]) (rest := []) rfl rfl (Nat.le_of_ble_eq_true rfl) dX10_left_2 ⟨Nat.zero_le _, Nat.zero_le _⟩ (fun H locs hW => ?_)
  show W p l e (rma 10 220 1 6) s m args below meth c H locs 0 0 Q (F0 m 5 ls [])
  exact (ml0_no hf).elim
set_option maxHeartbeats 4000000 in
set_option maxRecDepth 100000 in
theorem cT_X10_apart {l : Launch} {D : va_G} {tc : Nat → ClassId} {ro : Ro} {oa : Ky → Nat} {sh : Sh} {ln : Nat → Nat} {μ : Mm} {v1 v2 v3 : Int32} {μ' : Mm} {cn : Nat} (hs : l.stackTraces = false) (hwf : WfS sh) (hf : g_X10_apart sh ln μ v1 v2 v3 = some (.inr cn, μ')) : CtT l D tc ro oa yX10_apart cX10_apart 4 (some .boolean) (rma 10 220 1 6) [.ref (oa (0, 0)), .int v1, .int v2, .int v3] sh ln μ cn ln μ' := by
  refine CtT.of (by decide) (Nat.le_of_ble_eq_true rfl) (fun aa p e s m args below meth c A C hr hk hW ht hU hN ls hl => ?_)
  have hx := C.1.1
  have hb := C.1.2.1
  obtain ⟨Q, hQ⟩ : ∃ Q, Q = vx_MQ below (fun _ _ _ _ => False) (XCt D tc oa sh cn ln μ' A) args s (rma 10 220 1 6).cells (rma 10 220 1 6).slots A := ⟨_, rfl⟩
  rw [← hQ]
  have hl : lv_has ls 4 [(0, .ref (oa (0, 0))), (1, .int v1), (2, .int v2), (3, .int v3)] := hl
  unfold g_X10_apart at hf
  refine lv_aload_n hx hb dX10_apart_0 rfl (lv_at hl 0 rfl) ?_
  refine lv_iload_n hx hb dX10_apart_1 rfl (lv_at hl 1 rfl) ?_
  rcases xb_of hf with ⟨h2, hf⟩ | ⟨h2, e2⟩
  rotate_left
  · subst e2; rw [hQ]
    exact r_callT (k := ((0, 0) : Ky)) C ht hU hN hk hW hl lk_X10_141 (cT_X10_needPerson hs hwf h2) ⟨Nat.le_of_ble_eq_true rfl, Nat.le_of_ble_eq_true rfl⟩ rfl rfl rfl (As := [.int v1]) (rest := []) rfl rfl (Nat.le_of_ble_eq_true rfl) dX10_apart_2 ⟨Nat.le_of_ble_eq_true rfl, Nat.le_of_ble_eq_true rfl⟩ (Nat.le_of_ble_eq_true rfl) (Nat.le_of_ble_eq_true rfl)
  refine r_callV (k := ((0, 0) : Ky)) C hW hl lk_X10_141 (c_X10_needPerson hwf (gn_needPerson h2)) ⟨rfl, rfl⟩ ⟨Nat.le_of_ble_eq_true rfl, Nat.le_of_ble_eq_true rfl⟩ rfl rfl rfl (As := [.int v1]) (rest := []) rfl rfl (Nat.le_of_ble_eq_true rfl) dX10_apart_2 ⟨Nat.zero_le _, Nat.zero_le _⟩ (fun H locs hW => ?_)
  show W p l e (rma 10 220 1 6) s m args below meth c H locs 0 0 Q (F0 m 5 ls [])
  refine lv_aload_n hx hb dX10_apart_5 rfl (lv_at hl 0 rfl) ?_
  refine lv_iload_n hx hb dX10_apart_6 rfl (lv_at hl 2 rfl) ?_
  rcases xb_of hf with ⟨h7, hf⟩ | ⟨h7, e7⟩
  rotate_left
  · subst e7; rw [hQ]
    exact r_callT (k := ((0, 0) : Ky)) C ht hU hN hk hW hl lk_X10_182 (cT_X10_needWorld hs hwf h7) ⟨Nat.le_of_ble_eq_true rfl, Nat.le_of_ble_eq_true rfl⟩ rfl rfl rfl (As := [.int v2]) (rest := []) rfl rfl (Nat.le_of_ble_eq_true rfl) dX10_apart_7 ⟨Nat.le_of_ble_eq_true rfl, Nat.le_of_ble_eq_true rfl⟩ (Nat.le_of_ble_eq_true rfl) (Nat.le_of_ble_eq_true rfl)
  refine r_callV (k := ((0, 0) : Ky)) C hW hl lk_X10_182 (c_X10_needWorld hwf (gn_needWorld h7)) ⟨rfl, rfl⟩ ⟨Nat.le_of_ble_eq_true rfl, Nat.le_of_ble_eq_true rfl⟩ rfl rfl rfl (As := [.int v2]) (rest := []) rfl rfl (Nat.le_of_ble_eq_true rfl) dX10_apart_7 ⟨Nat.zero_le _, Nat.zero_le _⟩ (fun H locs hW => ?_)
  show W p l e (rma 10 220 1 6) s m args below meth c H locs 0 0 Q (F0 m 10 ls [])
  refine lv_aload_n hx hb dX10_apart_10 rfl (lv_at hl 0 rfl) ?_
  refine lv_iload_n hx hb dX10_apart_11 rfl (lv_at hl 3 rfl) ?_
  rcases xb_of hf with ⟨h12, hf⟩ | ⟨h12, e12⟩
  rotate_left
  · subst e12; rw [hQ]
    exact r_callT (k := ((0, 0) : Ky)) C ht hU hN hk hW hl lk_X10_182 (cT_X10_needWorld hs hwf h12) ⟨Nat.le_of_ble_eq_true rfl, Nat.le_of_ble_eq_true rfl⟩ rfl rfl rfl (As := [.int v3]) (rest := []) rfl rfl (Nat.le_of_ble_eq_true rfl) dX10_apart_12 ⟨Nat.le_of_ble_eq_true rfl, Nat.le_of_ble_eq_true rfl⟩ (Nat.le_of_ble_eq_true rfl) (Nat.le_of_ble_eq_true rfl)
  refine r_callV (k := ((0, 0) : Ky)) C hW hl lk_X10_182 (c_X10_needWorld hwf (gn_needWorld h12)) ⟨rfl, rfl⟩ ⟨Nat.le_of_ble_eq_true rfl, Nat.le_of_ble_eq_true rfl⟩ rfl rfl rfl (As := [.int v3]) (rest := []) rfl rfl (Nat.le_of_ble_eq_true rfl) dX10_apart_12 ⟨Nat.zero_le _, Nat.zero_le _⟩ (fun H locs hW => ?_)
  show W p l e (rma 10 220 1 6) s m args below meth c H locs 0 0 Q (F0 m 15 ls [])
  refine lv_aload_n hx hb dX10_apart_15 rfl (lv_at hl 0 rfl) ?_
  refine lv_iload_n hx hb dX10_apart_16 rfl (lv_at hl 2 rfl) ?_
  rcases xb_of hf with ⟨h17, hf⟩ | ⟨h17, e17⟩
  rotate_left
  · subst e17; rw [hQ]
    exact r_callT (k := ((0, 0) : Ky)) C ht hU hN hk hW hl lk_X10_188 (cT_X10_needLeft hs hwf h17) ⟨Nat.le_of_ble_eq_true rfl, Nat.le_of_ble_eq_true rfl⟩ rfl rfl rfl (As := [.int v2]) (rest := []) rfl rfl (Nat.le_of_ble_eq_true rfl) dX10_apart_17 ⟨Nat.le_of_ble_eq_true rfl, Nat.le_of_ble_eq_true rfl⟩ (Nat.le_of_ble_eq_true rfl) (Nat.le_of_ble_eq_true rfl)
  refine r_callV (k := ((0, 0) : Ky)) C hW hl lk_X10_188 (c_X10_needLeft hwf (gn_needLeft h17)) ⟨rfl, rfl⟩ ⟨Nat.le_of_ble_eq_true rfl, Nat.le_of_ble_eq_true rfl⟩ rfl rfl rfl (As := [.int v2]) (rest := []) rfl rfl (Nat.le_of_ble_eq_true rfl) dX10_apart_17 ⟨Nat.zero_le _, Nat.zero_le _⟩ (fun H locs hW => ?_)
  show W p l e (rma 10 220 1 6) s m args below meth c H locs 0 0 Q (F0 m 20 ls [])
  refine lv_aload_n hx hb dX10_apart_20 rfl (lv_at hl 0 rfl) ?_
  refine lv_iload_n hx hb dX10_apart_21 rfl (lv_at hl 3 rfl) ?_
  rcases xb_of hf with ⟨h22, hf⟩ | ⟨h22, e22⟩
  rotate_left
  · subst e22; rw [hQ]
    exact r_callT (k := ((0, 0) : Ky)) C ht hU hN hk hW hl lk_X10_188 (cT_X10_needLeft hs hwf h22) ⟨Nat.le_of_ble_eq_true rfl, Nat.le_of_ble_eq_true rfl⟩ rfl rfl rfl (As := [.int v3]) (rest := []) rfl rfl (Nat.le_of_ble_eq_true rfl) dX10_apart_22 ⟨Nat.le_of_ble_eq_true rfl, Nat.le_of_ble_eq_true rfl⟩ (Nat.le_of_ble_eq_true rfl) (Nat.le_of_ble_eq_true rfl)
  refine r_callV (k := ((0, 0) : Ky)) C hW hl lk_X10_188 (c_X10_needLeft hwf (gn_needLeft h22)) ⟨rfl, rfl⟩ ⟨Nat.le_of_ble_eq_true rfl, Nat.le_of_ble_eq_true rfl⟩ rfl rfl rfl (As := [.int v3]) (rest := []) rfl rfl (Nat.le_of_ble_eq_true rfl) dX10_apart_22 ⟨Nat.zero_le _, Nat.zero_le _⟩ (fun H locs hW => ?_)
  show W p l e (rma 10 220 1 6) s m args below meth c H locs 0 0 Q (F0 m 25 ls [])
  exact (ml0_no hf).elim
set_option maxHeartbeats 4000000 in
set_option maxRecDepth 100000 in
theorem cT_X10_sure {l : Launch} {D : va_G} {tc : Nat → ClassId} {ro : Ro} {oa : Ky → Nat} {sh : Sh} {ln : Nat → Nat} {μ : Mm} {v1 v2 : Int32} {μ' : Mm} {cn : Nat} (hs : l.stackTraces = false) (hwf : WfS sh) (hf : g_X10_sure sh ln μ v1 v2 = some (.inr cn, μ')) : CtT l D tc ro oa yX10_sure cX10_sure 3 (some .boolean) (rma 10 220 1 6) [.ref (oa (0, 0)), .int v1, .int v2] sh ln μ cn ln μ' := by
  refine CtT.of (by decide) (Nat.le_of_ble_eq_true rfl) (fun aa p e s m args below meth c A C hr hk hW ht hU hN ls hl => ?_)
  have hx := C.1.1
  have hb := C.1.2.1
  obtain ⟨Q, hQ⟩ : ∃ Q, Q = vx_MQ below (fun _ _ _ _ => False) (XCt D tc oa sh cn ln μ' A) args s (rma 10 220 1 6).cells (rma 10 220 1 6).slots A := ⟨_, rfl⟩
  rw [← hQ]
  have hl : lv_has ls 3 [(0, .ref (oa (0, 0))), (1, .int v1), (2, .int v2)] := hl
  unfold g_X10_sure at hf
  refine lv_aload_n hx hb dX10_sure_0 rfl (lv_at hl 0 rfl) ?_
  refine lv_iload_n hx hb dX10_sure_1 rfl (lv_at hl 1 rfl) ?_
  rcases xb_of hf with ⟨h2, hf⟩ | ⟨h2, e2⟩
  rotate_left
  · subst e2; rw [hQ]
    exact r_callT (k := ((0, 0) : Ky)) C ht hU hN hk hW hl lk_X10_141 (cT_X10_needPerson hs hwf h2) ⟨Nat.le_of_ble_eq_true rfl, Nat.le_of_ble_eq_true rfl⟩ rfl rfl rfl (As := [.int v1]) (rest := []) rfl rfl (Nat.le_of_ble_eq_true rfl) dX10_sure_2 ⟨Nat.le_of_ble_eq_true rfl, Nat.le_of_ble_eq_true rfl⟩ (Nat.le_of_ble_eq_true rfl) (Nat.le_of_ble_eq_true rfl)
  refine r_callV (k := ((0, 0) : Ky)) C hW hl lk_X10_141 (c_X10_needPerson hwf (gn_needPerson h2)) ⟨rfl, rfl⟩ ⟨Nat.le_of_ble_eq_true rfl, Nat.le_of_ble_eq_true rfl⟩ rfl rfl rfl (As := [.int v1]) (rest := []) rfl rfl (Nat.le_of_ble_eq_true rfl) dX10_sure_2 ⟨Nat.zero_le _, Nat.zero_le _⟩ (fun H locs hW => ?_)
  show W p l e (rma 10 220 1 6) s m args below meth c H locs 0 0 Q (F0 m 5 ls [])
  refine lv_aload_n hx hb dX10_sure_5 rfl (lv_at hl 0 rfl) ?_
  refine lv_iload_n hx hb dX10_sure_6 rfl (lv_at hl 2 rfl) ?_
  rcases xb_of hf with ⟨h7, hf⟩ | ⟨h7, e7⟩
  rotate_left
  · subst e7; rw [hQ]
    exact r_callT (k := ((0, 0) : Ky)) C ht hU hN hk hW hl lk_X10_182 (cT_X10_needWorld hs hwf h7) ⟨Nat.le_of_ble_eq_true rfl, Nat.le_of_ble_eq_true rfl⟩ rfl rfl rfl (As := [.int v2]) (rest := []) rfl rfl (Nat.le_of_ble_eq_true rfl) dX10_sure_7 ⟨Nat.le_of_ble_eq_true rfl, Nat.le_of_ble_eq_true rfl⟩ (Nat.le_of_ble_eq_true rfl) (Nat.le_of_ble_eq_true rfl)
  refine r_callV (k := ((0, 0) : Ky)) C hW hl lk_X10_182 (c_X10_needWorld hwf (gn_needWorld h7)) ⟨rfl, rfl⟩ ⟨Nat.le_of_ble_eq_true rfl, Nat.le_of_ble_eq_true rfl⟩ rfl rfl rfl (As := [.int v2]) (rest := []) rfl rfl (Nat.le_of_ble_eq_true rfl) dX10_sure_7 ⟨Nat.zero_le _, Nat.zero_le _⟩ (fun H locs hW => ?_)
  show W p l e (rma 10 220 1 6) s m args below meth c H locs 0 0 Q (F0 m 10 ls [])
  refine lv_aload_n hx hb dX10_sure_10 rfl (lv_at hl 0 rfl) ?_
  refine lv_iload_n hx hb dX10_sure_11 rfl (lv_at hl 2 rfl) ?_
  rcases xb_of hf with ⟨h12, hf⟩ | ⟨h12, e12⟩
  rotate_left
  · subst e12; rw [hQ]
    exact r_callT (k := ((0, 0) : Ky)) C ht hU hN hk hW hl lk_X10_188 (cT_X10_needLeft hs hwf h12) ⟨Nat.le_of_ble_eq_true rfl, Nat.le_of_ble_eq_true rfl⟩ rfl rfl rfl (As := [.int v2]) (rest := []) rfl rfl (Nat.le_of_ble_eq_true rfl) dX10_sure_12 ⟨Nat.le_of_ble_eq_true rfl, Nat.le_of_ble_eq_true rfl⟩ (Nat.le_of_ble_eq_true rfl) (Nat.le_of_ble_eq_true rfl)
  refine r_callV (k := ((0, 0) : Ky)) C hW hl lk_X10_188 (c_X10_needLeft hwf (gn_needLeft h12)) ⟨rfl, rfl⟩ ⟨Nat.le_of_ble_eq_true rfl, Nat.le_of_ble_eq_true rfl⟩ rfl rfl rfl (As := [.int v2]) (rest := []) rfl rfl (Nat.le_of_ble_eq_true rfl) dX10_sure_12 ⟨Nat.zero_le _, Nat.zero_le _⟩ (fun H locs hW => ?_)
  show W p l e (rma 10 220 1 6) s m args below meth c H locs 0 0 Q (F0 m 15 ls [])
  exact (ml0_no hf).elim
set_option maxHeartbeats 4000000 in
set_option maxRecDepth 100000 in
theorem cT_X10_manner {l : Launch} {D : va_G} {tc : Nat → ClassId} {ro : Ro} {oa : Ky → Nat} {sh : Sh} {ln : Nat → Nat} {μ : Mm} {v1 v2 v3 : Int32} {μ' : Mm} {cn : Nat} (hs : l.stackTraces = false) (hwf : WfS sh) (hf : g_X10_manner sh ln μ v1 v2 v3 = some (.inr cn, μ')) : CtT l D tc ro oa yX10_manner cX10_manner 4 (some .int) (rma 10 220 1 6) [.ref (oa (0, 0)), .int v1, .int v2, .int v3] sh ln μ cn ln μ' := by
  refine CtT.of (by decide) (Nat.le_of_ble_eq_true rfl) (fun aa p e s m args below meth c A C hr hk hW ht hU hN ls hl => ?_)
  have hx := C.1.1
  have hb := C.1.2.1
  obtain ⟨Q, hQ⟩ : ∃ Q, Q = vx_MQ below (fun _ _ _ _ => False) (XCt D tc oa sh cn ln μ' A) args s (rma 10 220 1 6).cells (rma 10 220 1 6).slots A := ⟨_, rfl⟩
  rw [← hQ]
  have hl : lv_has ls 4 [(0, .ref (oa (0, 0))), (1, .int v1), (2, .int v2), (3, .int v3)] := hl
  unfold g_X10_manner at hf
  refine lv_aload_n hx hb dX10_manner_0 rfl (lv_at hl 0 rfl) ?_
  refine lv_iload_n hx hb dX10_manner_1 rfl (lv_at hl 1 rfl) ?_
  rcases xb_of hf with ⟨h2, hf⟩ | ⟨h2, e2⟩
  rotate_left
  · subst e2; rw [hQ]
    exact r_callT (k := ((0, 0) : Ky)) C ht hU hN hk hW hl lk_X10_141 (cT_X10_needPerson hs hwf h2) ⟨Nat.le_of_ble_eq_true rfl, Nat.le_of_ble_eq_true rfl⟩ rfl rfl rfl (As := [.int v1]) (rest := []) rfl rfl (Nat.le_of_ble_eq_true rfl) dX10_manner_2 ⟨Nat.le_of_ble_eq_true rfl, Nat.le_of_ble_eq_true rfl⟩ (Nat.le_of_ble_eq_true rfl) (Nat.le_of_ble_eq_true rfl)
  refine r_callV (k := ((0, 0) : Ky)) C hW hl lk_X10_141 (c_X10_needPerson hwf (gn_needPerson h2)) ⟨rfl, rfl⟩ ⟨Nat.le_of_ble_eq_true rfl, Nat.le_of_ble_eq_true rfl⟩ rfl rfl rfl (As := [.int v1]) (rest := []) rfl rfl (Nat.le_of_ble_eq_true rfl) dX10_manner_2 ⟨Nat.zero_le _, Nat.zero_le _⟩ (fun H locs hW => ?_)
  show W p l e (rma 10 220 1 6) s m args below meth c H locs 0 0 Q (F0 m 5 ls [])
  refine lv_aload_n hx hb dX10_manner_5 rfl (lv_at hl 0 rfl) ?_
  refine lv_iload_n hx hb dX10_manner_6 rfl (lv_at hl 2 rfl) ?_
  rcases xb_of hf with ⟨h7, hf⟩ | ⟨h7, e7⟩
  rotate_left
  · subst e7; rw [hQ]
    exact r_callT (k := ((0, 0) : Ky)) C ht hU hN hk hW hl lk_X10_141 (cT_X10_needPerson hs hwf h7) ⟨Nat.le_of_ble_eq_true rfl, Nat.le_of_ble_eq_true rfl⟩ rfl rfl rfl (As := [.int v2]) (rest := []) rfl rfl (Nat.le_of_ble_eq_true rfl) dX10_manner_7 ⟨Nat.le_of_ble_eq_true rfl, Nat.le_of_ble_eq_true rfl⟩ (Nat.le_of_ble_eq_true rfl) (Nat.le_of_ble_eq_true rfl)
  refine r_callV (k := ((0, 0) : Ky)) C hW hl lk_X10_141 (c_X10_needPerson hwf (gn_needPerson h7)) ⟨rfl, rfl⟩ ⟨Nat.le_of_ble_eq_true rfl, Nat.le_of_ble_eq_true rfl⟩ rfl rfl rfl (As := [.int v2]) (rest := []) rfl rfl (Nat.le_of_ble_eq_true rfl) dX10_manner_7 ⟨Nat.zero_le _, Nat.zero_le _⟩ (fun H locs hW => ?_)
  show W p l e (rma 10 220 1 6) s m args below meth c H locs 0 0 Q (F0 m 10 ls [])
  refine lv_aload_n hx hb dX10_manner_10 rfl (lv_at hl 0 rfl) ?_
  refine lv_iload_n hx hb dX10_manner_11 rfl (lv_at hl 3 rfl) ?_
  rcases xb_of hf with ⟨h12, hf⟩ | ⟨h12, e12⟩
  rotate_left
  · subst e12; rw [hQ]
    exact r_callT (k := ((0, 0) : Ky)) C ht hU hN hk hW hl lk_X10_182 (cT_X10_needWorld hs hwf h12) ⟨Nat.le_of_ble_eq_true rfl, Nat.le_of_ble_eq_true rfl⟩ rfl rfl rfl (As := [.int v3]) (rest := []) rfl rfl (Nat.le_of_ble_eq_true rfl) dX10_manner_12 ⟨Nat.le_of_ble_eq_true rfl, Nat.le_of_ble_eq_true rfl⟩ (Nat.le_of_ble_eq_true rfl) (Nat.le_of_ble_eq_true rfl)
  refine r_callV (k := ((0, 0) : Ky)) C hW hl lk_X10_182 (c_X10_needWorld hwf (gn_needWorld h12)) ⟨rfl, rfl⟩ ⟨Nat.le_of_ble_eq_true rfl, Nat.le_of_ble_eq_true rfl⟩ rfl rfl rfl (As := [.int v3]) (rest := []) rfl rfl (Nat.le_of_ble_eq_true rfl) dX10_manner_12 ⟨Nat.zero_le _, Nat.zero_le _⟩ (fun H locs hW => ?_)
  show W p l e (rma 10 220 1 6) s m args below meth c H locs 0 0 Q (F0 m 15 ls [])
  refine lv_aload_n hx hb dX10_manner_15 rfl (lv_at hl 0 rfl) ?_
  refine lv_iload_n hx hb dX10_manner_16 rfl (lv_at hl 1 rfl) ?_
  refine lv_iload_n hx hb dX10_manner_17 rfl (lv_at hl 2 rfl) ?_
  rcases xb_of hf with ⟨h18, hf⟩ | ⟨h18, e18⟩
  rotate_left
  · subst e18; rw [hQ]
    exact r_callT (k := ((0, 0) : Ky)) C ht hU hN hk hW hl lk_X10_194 (cT_X10_needTwo hs hwf h18) ⟨Nat.le_of_ble_eq_true rfl, Nat.le_of_ble_eq_true rfl⟩ rfl rfl rfl (As := [.int v1, .int v2]) (rest := []) rfl rfl (Nat.le_of_ble_eq_true rfl) dX10_manner_18 ⟨Nat.le_of_ble_eq_true rfl, Nat.le_of_ble_eq_true rfl⟩ (Nat.le_of_ble_eq_true rfl) (Nat.le_of_ble_eq_true rfl)
  refine r_callV (k := ((0, 0) : Ky)) C hW hl lk_X10_194 (c_X10_needTwo (gn_needTwo h18)) ⟨rfl, rfl⟩ ⟨Nat.le_of_ble_eq_true rfl, Nat.le_of_ble_eq_true rfl⟩ rfl rfl rfl (As := [.int v1, .int v2]) (rest := []) rfl rfl (Nat.le_of_ble_eq_true rfl) dX10_manner_18 ⟨Nat.zero_le _, Nat.zero_le _⟩ (fun H locs hW => ?_)
  show W p l e (rma 10 220 1 6) s m args below meth c H locs 0 0 Q (F0 m 21 ls [])
  refine lv_aload_n hx hb dX10_manner_21 rfl (lv_at hl 0 rfl) ?_
  refine lv_iload_n hx hb dX10_manner_22 rfl (lv_at hl 3 rfl) ?_
  rcases xb_of hf with ⟨h23, hf⟩ | ⟨h23, e23⟩
  rotate_left
  · subst e23; rw [hQ]
    exact r_callT (k := ((0, 0) : Ky)) C ht hU hN hk hW hl lk_X10_188 (cT_X10_needLeft hs hwf h23) ⟨Nat.le_of_ble_eq_true rfl, Nat.le_of_ble_eq_true rfl⟩ rfl rfl rfl (As := [.int v3]) (rest := []) rfl rfl (Nat.le_of_ble_eq_true rfl) dX10_manner_23 ⟨Nat.le_of_ble_eq_true rfl, Nat.le_of_ble_eq_true rfl⟩ (Nat.le_of_ble_eq_true rfl) (Nat.le_of_ble_eq_true rfl)
  refine r_callV (k := ((0, 0) : Ky)) C hW hl lk_X10_188 (c_X10_needLeft hwf (gn_needLeft h23)) ⟨rfl, rfl⟩ ⟨Nat.le_of_ble_eq_true rfl, Nat.le_of_ble_eq_true rfl⟩ rfl rfl rfl (As := [.int v3]) (rest := []) rfl rfl (Nat.le_of_ble_eq_true rfl) dX10_manner_23 ⟨Nat.zero_le _, Nat.zero_le _⟩ (fun H locs hW => ?_)
  show W p l e (rma 10 220 1 6) s m args below meth c H locs 0 0 Q (F0 m 26 ls [])
  refine lv_aload_n hx hb dX10_manner_26 rfl (lv_at hl 0 rfl) ?_
  refine lv_iload_n hx hb dX10_manner_27 rfl (lv_at hl 1 rfl) ?_
  refine lv_iload_n hx hb dX10_manner_28 rfl (lv_at hl 2 rfl) ?_
  rcases xb_of hf with ⟨h29, hf⟩ | ⟨h29, e29⟩
  rotate_left
  · subst e29; rw [hQ]
    exact r_callT (k := ((0, 0) : Ky)) C ht hU hN hk hW hl lk_X10_198 (cT_X10_needSight hs hwf h29) ⟨Nat.le_of_ble_eq_true rfl, Nat.le_of_ble_eq_true rfl⟩ rfl rfl rfl (As := [.int v1, .int v2]) (rest := []) rfl rfl (Nat.le_of_ble_eq_true rfl) dX10_manner_29 ⟨Nat.le_of_ble_eq_true rfl, Nat.le_of_ble_eq_true rfl⟩ (Nat.le_of_ble_eq_true rfl) (Nat.le_of_ble_eq_true rfl)
  refine r_callV (k := ((0, 0) : Ky)) C hW hl lk_X10_198 (c_X10_needSight hwf (gn_needSight h29)) ⟨rfl, rfl⟩ ⟨Nat.le_of_ble_eq_true rfl, Nat.le_of_ble_eq_true rfl⟩ rfl rfl rfl (As := [.int v1, .int v2]) (rest := []) rfl rfl (Nat.le_of_ble_eq_true rfl) dX10_manner_29 ⟨Nat.zero_le _, Nat.zero_le _⟩ (fun H locs hW => ?_)
  show W p l e (rma 10 220 1 6) s m args below meth c H locs 0 0 Q (F0 m 32 ls [])
  exact (ml_no hf).elim
set_option maxHeartbeats 4000000 in
set_option maxRecDepth 100000 in
theorem cT_X10_possible {l : Launch} {D : va_G} {tc : Nat → ClassId} {ro : Ro} {oa : Ky → Nat} {sh : Sh} {ln : Nat → Nat} {μ : Mm} {v1 v2 : Int32} {μ' : Mm} {cn : Nat} (hs : l.stackTraces = false) (hwf : WfS sh) (hf : g_X10_possible sh ln μ v1 v2 = some (.inr cn, μ')) : CtT l D tc ro oa yX10_possible cX10_possible 3 (some .int) (rma 10 220 1 6) [.ref (oa (0, 0)), .int v1, .int v2] sh ln μ cn ln μ' := by
  refine CtT.of (by decide) (Nat.le_of_ble_eq_true rfl) (fun aa p e s m args below meth c A C hr hk hW ht hU hN ls hl => ?_)
  have hx := C.1.1
  have hb := C.1.2.1
  obtain ⟨Q, hQ⟩ : ∃ Q, Q = vx_MQ below (fun _ _ _ _ => False) (XCt D tc oa sh cn ln μ' A) args s (rma 10 220 1 6).cells (rma 10 220 1 6).slots A := ⟨_, rfl⟩
  rw [← hQ]
  have hl : lv_has ls 3 [(0, .ref (oa (0, 0))), (1, .int v1), (2, .int v2)] := hl
  unfold g_X10_possible at hf
  refine lv_aload_n hx hb dX10_possible_0 rfl (lv_at hl 0 rfl) ?_
  refine lv_iload_n hx hb dX10_possible_1 rfl (lv_at hl 1 rfl) ?_
  rcases xb_of hf with ⟨h2, hf⟩ | ⟨h2, e2⟩
  rotate_left
  · subst e2; rw [hQ]
    exact r_callT (k := ((0, 0) : Ky)) C ht hU hN hk hW hl lk_X10_141 (cT_X10_needPerson hs hwf h2) ⟨Nat.le_of_ble_eq_true rfl, Nat.le_of_ble_eq_true rfl⟩ rfl rfl rfl (As := [.int v1]) (rest := []) rfl rfl (Nat.le_of_ble_eq_true rfl) dX10_possible_2 ⟨Nat.le_of_ble_eq_true rfl, Nat.le_of_ble_eq_true rfl⟩ (Nat.le_of_ble_eq_true rfl) (Nat.le_of_ble_eq_true rfl)
  refine r_callV (k := ((0, 0) : Ky)) C hW hl lk_X10_141 (c_X10_needPerson hwf (gn_needPerson h2)) ⟨rfl, rfl⟩ ⟨Nat.le_of_ble_eq_true rfl, Nat.le_of_ble_eq_true rfl⟩ rfl rfl rfl (As := [.int v1]) (rest := []) rfl rfl (Nat.le_of_ble_eq_true rfl) dX10_possible_2 ⟨Nat.zero_le _, Nat.zero_le _⟩ (fun H locs hW => ?_)
  show W p l e (rma 10 220 1 6) s m args below meth c H locs 0 0 Q (F0 m 5 ls [])
  refine lv_aload_n hx hb dX10_possible_5 rfl (lv_at hl 0 rfl) ?_
  refine lv_iload_n hx hb dX10_possible_6 rfl (lv_at hl 2 rfl) ?_
  rcases xb_of hf with ⟨h7, hf⟩ | ⟨h7, e7⟩
  rotate_left
  · subst e7; rw [hQ]
    exact r_callT (k := ((0, 0) : Ky)) C ht hU hN hk hW hl lk_X10_141 (cT_X10_needPerson hs hwf h7) ⟨Nat.le_of_ble_eq_true rfl, Nat.le_of_ble_eq_true rfl⟩ rfl rfl rfl (As := [.int v2]) (rest := []) rfl rfl (Nat.le_of_ble_eq_true rfl) dX10_possible_7 ⟨Nat.le_of_ble_eq_true rfl, Nat.le_of_ble_eq_true rfl⟩ (Nat.le_of_ble_eq_true rfl) (Nat.le_of_ble_eq_true rfl)
  refine r_callV (k := ((0, 0) : Ky)) C hW hl lk_X10_141 (c_X10_needPerson hwf (gn_needPerson h7)) ⟨rfl, rfl⟩ ⟨Nat.le_of_ble_eq_true rfl, Nat.le_of_ble_eq_true rfl⟩ rfl rfl rfl (As := [.int v2]) (rest := []) rfl rfl (Nat.le_of_ble_eq_true rfl) dX10_possible_7 ⟨Nat.zero_le _, Nat.zero_le _⟩ (fun H locs hW => ?_)
  show W p l e (rma 10 220 1 6) s m args below meth c H locs 0 0 Q (F0 m 10 ls [])
  exact (ml0_no hf).elim
set_option maxHeartbeats 4000000 in
set_option maxRecDepth 100000 in
theorem cT_X10_knows {l : Launch} {D : va_G} {tc : Nat → ClassId} {ro : Ro} {oa : Ky → Nat} {sh : Sh} {ln : Nat → Nat} {μ : Mm} {v1 v2 : Int32} {μ' : Mm} {cn : Nat} (hs : l.stackTraces = false) (hwf : WfS sh) (hf : g_X10_knows sh ln μ v1 v2 = some (.inr cn, μ')) : CtT l D tc ro oa yX10_knows cX10_knows 3 (some .int) (rma 10 220 1 6) [.ref (oa (0, 0)), .int v1, .int v2] sh ln μ cn ln μ' := by
  refine CtT.of (by decide) (Nat.le_of_ble_eq_true rfl) (fun aa p e s m args below meth c A C hr hk hW ht hU hN ls hl => ?_)
  have hx := C.1.1
  have hb := C.1.2.1
  obtain ⟨Q, hQ⟩ : ∃ Q, Q = vx_MQ below (fun _ _ _ _ => False) (XCt D tc oa sh cn ln μ' A) args s (rma 10 220 1 6).cells (rma 10 220 1 6).slots A := ⟨_, rfl⟩
  rw [← hQ]
  have hl : lv_has ls 3 [(0, .ref (oa (0, 0))), (1, .int v1), (2, .int v2)] := hl
  unfold g_X10_knows at hf
  refine lv_aload_n hx hb dX10_knows_0 rfl (lv_at hl 0 rfl) ?_
  refine lv_iload_n hx hb dX10_knows_1 rfl (lv_at hl 1 rfl) ?_
  rcases xb_of hf with ⟨h2, hf⟩ | ⟨h2, e2⟩
  rotate_left
  · subst e2; rw [hQ]
    exact r_callT (k := ((0, 0) : Ky)) C ht hU hN hk hW hl lk_X10_141 (cT_X10_needPerson hs hwf h2) ⟨Nat.le_of_ble_eq_true rfl, Nat.le_of_ble_eq_true rfl⟩ rfl rfl rfl (As := [.int v1]) (rest := []) rfl rfl (Nat.le_of_ble_eq_true rfl) dX10_knows_2 ⟨Nat.le_of_ble_eq_true rfl, Nat.le_of_ble_eq_true rfl⟩ (Nat.le_of_ble_eq_true rfl) (Nat.le_of_ble_eq_true rfl)
  refine r_callV (k := ((0, 0) : Ky)) C hW hl lk_X10_141 (c_X10_needPerson hwf (gn_needPerson h2)) ⟨rfl, rfl⟩ ⟨Nat.le_of_ble_eq_true rfl, Nat.le_of_ble_eq_true rfl⟩ rfl rfl rfl (As := [.int v1]) (rest := []) rfl rfl (Nat.le_of_ble_eq_true rfl) dX10_knows_2 ⟨Nat.zero_le _, Nat.zero_le _⟩ (fun H locs hW => ?_)
  show W p l e (rma 10 220 1 6) s m args below meth c H locs 0 0 Q (F0 m 5 ls [])
  refine lv_aload_n hx hb dX10_knows_5 rfl (lv_at hl 0 rfl) ?_
  refine lv_iload_n hx hb dX10_knows_6 rfl (lv_at hl 2 rfl) ?_
  rcases xb_of hf with ⟨h7, hf⟩ | ⟨h7, e7⟩
  rotate_left
  · subst e7; rw [hQ]
    exact r_callT (k := ((0, 0) : Ky)) C ht hU hN hk hW hl lk_X10_141 (cT_X10_needPerson hs hwf h7) ⟨Nat.le_of_ble_eq_true rfl, Nat.le_of_ble_eq_true rfl⟩ rfl rfl rfl (As := [.int v2]) (rest := []) rfl rfl (Nat.le_of_ble_eq_true rfl) dX10_knows_7 ⟨Nat.le_of_ble_eq_true rfl, Nat.le_of_ble_eq_true rfl⟩ (Nat.le_of_ble_eq_true rfl) (Nat.le_of_ble_eq_true rfl)
  refine r_callV (k := ((0, 0) : Ky)) C hW hl lk_X10_141 (c_X10_needPerson hwf (gn_needPerson h7)) ⟨rfl, rfl⟩ ⟨Nat.le_of_ble_eq_true rfl, Nat.le_of_ble_eq_true rfl⟩ rfl rfl rfl (As := [.int v2]) (rest := []) rfl rfl (Nat.le_of_ble_eq_true rfl) dX10_knows_7 ⟨Nat.zero_le _, Nat.zero_le _⟩ (fun H locs hW => ?_)
  show W p l e (rma 10 220 1 6) s m args below meth c H locs 0 0 Q (F0 m 10 ls [])
  exact (ml0_no hf).elim
set_option maxHeartbeats 4000000 in
set_option maxRecDepth 100000 in
theorem cT_X10_thinks {l : Launch} {D : va_G} {tc : Nat → ClassId} {ro : Ro} {oa : Ky → Nat} {sh : Sh} {ln : Nat → Nat} {μ : Mm} {v1 v2 v3 : Int32} {μ' : Mm} {cn : Nat} (hs : l.stackTraces = false) (hwf : WfS sh) (hf : g_X10_thinks sh ln μ v1 v2 v3 = some (.inr cn, μ')) : CtT l D tc ro oa yX10_thinks cX10_thinks 4 (some .boolean) (rma 10 220 1 6) [.ref (oa (0, 0)), .int v1, .int v2, .int v3] sh ln μ cn ln μ' := by
  refine CtT.of (by decide) (Nat.le_of_ble_eq_true rfl) (fun aa p e s m args below meth c A C hr hk hW ht hU hN ls hl => ?_)
  have hx := C.1.1
  have hb := C.1.2.1
  obtain ⟨Q, hQ⟩ : ∃ Q, Q = vx_MQ below (fun _ _ _ _ => False) (XCt D tc oa sh cn ln μ' A) args s (rma 10 220 1 6).cells (rma 10 220 1 6).slots A := ⟨_, rfl⟩
  rw [← hQ]
  have hl : lv_has ls 4 [(0, .ref (oa (0, 0))), (1, .int v1), (2, .int v2), (3, .int v3)] := hl
  unfold g_X10_thinks at hf
  refine lv_aload_n hx hb dX10_thinks_0 rfl (lv_at hl 0 rfl) ?_
  refine lv_iload_n hx hb dX10_thinks_1 rfl (lv_at hl 1 rfl) ?_
  rcases xb_of hf with ⟨h2, hf⟩ | ⟨h2, e2⟩
  rotate_left
  · subst e2; rw [hQ]
    exact r_callT (k := ((0, 0) : Ky)) C ht hU hN hk hW hl lk_X10_141 (cT_X10_needPerson hs hwf h2) ⟨Nat.le_of_ble_eq_true rfl, Nat.le_of_ble_eq_true rfl⟩ rfl rfl rfl (As := [.int v1]) (rest := []) rfl rfl (Nat.le_of_ble_eq_true rfl) dX10_thinks_2 ⟨Nat.le_of_ble_eq_true rfl, Nat.le_of_ble_eq_true rfl⟩ (Nat.le_of_ble_eq_true rfl) (Nat.le_of_ble_eq_true rfl)
  refine r_callV (k := ((0, 0) : Ky)) C hW hl lk_X10_141 (c_X10_needPerson hwf (gn_needPerson h2)) ⟨rfl, rfl⟩ ⟨Nat.le_of_ble_eq_true rfl, Nat.le_of_ble_eq_true rfl⟩ rfl rfl rfl (As := [.int v1]) (rest := []) rfl rfl (Nat.le_of_ble_eq_true rfl) dX10_thinks_2 ⟨Nat.zero_le _, Nat.zero_le _⟩ (fun H locs hW => ?_)
  show W p l e (rma 10 220 1 6) s m args below meth c H locs 0 0 Q (F0 m 5 ls [])
  refine lv_aload_n hx hb dX10_thinks_5 rfl (lv_at hl 0 rfl) ?_
  refine lv_iload_n hx hb dX10_thinks_6 rfl (lv_at hl 2 rfl) ?_
  rcases xb_of hf with ⟨h7, hf⟩ | ⟨h7, e7⟩
  rotate_left
  · subst e7; rw [hQ]
    exact r_callT (k := ((0, 0) : Ky)) C ht hU hN hk hW hl lk_X10_141 (cT_X10_needPerson hs hwf h7) ⟨Nat.le_of_ble_eq_true rfl, Nat.le_of_ble_eq_true rfl⟩ rfl rfl rfl (As := [.int v2]) (rest := []) rfl rfl (Nat.le_of_ble_eq_true rfl) dX10_thinks_7 ⟨Nat.le_of_ble_eq_true rfl, Nat.le_of_ble_eq_true rfl⟩ (Nat.le_of_ble_eq_true rfl) (Nat.le_of_ble_eq_true rfl)
  refine r_callV (k := ((0, 0) : Ky)) C hW hl lk_X10_141 (c_X10_needPerson hwf (gn_needPerson h7)) ⟨rfl, rfl⟩ ⟨Nat.le_of_ble_eq_true rfl, Nat.le_of_ble_eq_true rfl⟩ rfl rfl rfl (As := [.int v2]) (rest := []) rfl rfl (Nat.le_of_ble_eq_true rfl) dX10_thinks_7 ⟨Nat.zero_le _, Nat.zero_le _⟩ (fun H locs hW => ?_)
  show W p l e (rma 10 220 1 6) s m args below meth c H locs 0 0 Q (F0 m 10 ls [])
  refine lv_aload_n hx hb dX10_thinks_10 rfl (lv_at hl 0 rfl) ?_
  refine lv_iload_n hx hb dX10_thinks_11 rfl (lv_at hl 3 rfl) ?_
  rcases xb_of hf with ⟨h12, hf⟩ | ⟨h12, e12⟩
  rotate_left
  · subst e12; rw [hQ]
    exact r_callT (k := ((0, 0) : Ky)) C ht hU hN hk hW hl lk_X10_141 (cT_X10_needPerson hs hwf h12) ⟨Nat.le_of_ble_eq_true rfl, Nat.le_of_ble_eq_true rfl⟩ rfl rfl rfl (As := [.int v3]) (rest := []) rfl rfl (Nat.le_of_ble_eq_true rfl) dX10_thinks_12 ⟨Nat.le_of_ble_eq_true rfl, Nat.le_of_ble_eq_true rfl⟩ (Nat.le_of_ble_eq_true rfl) (Nat.le_of_ble_eq_true rfl)
  refine r_callV (k := ((0, 0) : Ky)) C hW hl lk_X10_141 (c_X10_needPerson hwf (gn_needPerson h12)) ⟨rfl, rfl⟩ ⟨Nat.le_of_ble_eq_true rfl, Nat.le_of_ble_eq_true rfl⟩ rfl rfl rfl (As := [.int v3]) (rest := []) rfl rfl (Nat.le_of_ble_eq_true rfl) dX10_thinks_12 ⟨Nat.zero_le _, Nat.zero_le _⟩ (fun H locs hW => ?_)
  show W p l e (rma 10 220 1 6) s m args below meth c H locs 0 0 Q (F0 m 15 ls [])
  exact (ml_no hf).elim
set_option maxHeartbeats 4000000 in
set_option maxRecDepth 100000 in
theorem cT_X10_common {l : Launch} {D : va_G} {tc : Nat → ClassId} {ro : Ro} {oa : Ky → Nat} {sh : Sh} {ln : Nat → Nat} {μ : Mm} {v1 : Int32} {μ' : Mm} {cn : Nat} (hs : l.stackTraces = false) (hwf : WfS sh) (hf : g_X10_common sh ln μ v1 = some (.inr cn, μ')) : CtT l D tc ro oa yX10_common cX10_common 2 (some .int) (rma 10 220 1 6) [.ref (oa (0, 0)), .int v1] sh ln μ cn ln μ' := by
  refine CtT.of (by decide) (Nat.le_of_ble_eq_true rfl) (fun aa p e s m args below meth c A C hr hk hW ht hU hN ls hl => ?_)
  have hx := C.1.1
  have hb := C.1.2.1
  obtain ⟨Q, hQ⟩ : ∃ Q, Q = vx_MQ below (fun _ _ _ _ => False) (XCt D tc oa sh cn ln μ' A) args s (rma 10 220 1 6).cells (rma 10 220 1 6).slots A := ⟨_, rfl⟩
  rw [← hQ]
  have hl : lv_has ls 2 [(0, .ref (oa (0, 0))), (1, .int v1)] := hl
  unfold g_X10_common at hf
  refine lv_aload_n hx hb dX10_common_0 rfl (lv_at hl 0 rfl) ?_
  refine lv_iload_n hx hb dX10_common_1 rfl (lv_at hl 1 rfl) ?_
  rcases xb_of hf with ⟨h2, hf⟩ | ⟨h2, e2⟩
  rotate_left
  · subst e2; rw [hQ]
    exact r_callT (k := ((0, 0) : Ky)) C ht hU hN hk hW hl lk_X10_141 (cT_X10_needPerson hs hwf h2) ⟨Nat.le_of_ble_eq_true rfl, Nat.le_of_ble_eq_true rfl⟩ rfl rfl rfl (As := [.int v1]) (rest := []) rfl rfl (Nat.le_of_ble_eq_true rfl) dX10_common_2 ⟨Nat.le_of_ble_eq_true rfl, Nat.le_of_ble_eq_true rfl⟩ (Nat.le_of_ble_eq_true rfl) (Nat.le_of_ble_eq_true rfl)
  refine r_callV (k := ((0, 0) : Ky)) C hW hl lk_X10_141 (c_X10_needPerson hwf (gn_needPerson h2)) ⟨rfl, rfl⟩ ⟨Nat.le_of_ble_eq_true rfl, Nat.le_of_ble_eq_true rfl⟩ rfl rfl rfl (As := [.int v1]) (rest := []) rfl rfl (Nat.le_of_ble_eq_true rfl) dX10_common_2 ⟨Nat.zero_le _, Nat.zero_le _⟩ (fun H locs hW => ?_)
  show W p l e (rma 10 220 1 6) s m args below meth c H locs 0 0 Q (F0 m 5 ls [])
  exact (ml_no hf).elim
set_option maxHeartbeats 4000000 in
set_option maxRecDepth 100000 in
theorem cT_X10_muddy {l : Launch} {D : va_G} {tc : Nat → ClassId} {ro : Ro} {oa : Ky → Nat} {sh : Sh} {ln : Nat → Nat} {μ : Mm} {v1 : Int32} {μ' : Mm} {cn : Nat} (hs : l.stackTraces = false) (hwf : WfS sh) (hf : g_X10_muddy sh ln μ v1 = some (.inr cn, μ')) : CtT l D tc ro oa yX10_muddy cX10_muddy 2 (some .int) (rma 10 220 1 6) [.ref (oa (0, 0)), .int v1] sh ln μ cn ln μ' := by
  refine CtT.of (by decide) (Nat.le_of_ble_eq_true rfl) (fun aa p e s m args below meth c A C hr hk hW ht hU hN ls hl => ?_)
  have hx := C.1.1
  have hb := C.1.2.1
  obtain ⟨Q, hQ⟩ : ∃ Q, Q = vx_MQ below (fun _ _ _ _ => False) (XCt D tc oa sh cn ln μ' A) args s (rma 10 220 1 6).cells (rma 10 220 1 6).slots A := ⟨_, rfl⟩
  rw [← hQ]
  have hl : lv_has ls 2 [(0, .ref (oa (0, 0))), (1, .int v1)] := hl
  unfold g_X10_muddy at hf
  refine lv_aload_n hx hb dX10_muddy_0 rfl (lv_at hl 0 rfl) ?_
  refine lv_iload_n hx hb dX10_muddy_1 rfl (lv_at hl 1 rfl) ?_
  rcases xb_of hf with ⟨h2, hf⟩ | ⟨h2, e2⟩
  rotate_left
  · subst e2; rw [hQ]
    exact r_callT (k := ((0, 0) : Ky)) C ht hU hN hk hW hl lk_X10_269 (cT_X10_needPersonOrNone hs hwf h2) ⟨Nat.le_of_ble_eq_true rfl, Nat.le_of_ble_eq_true rfl⟩ rfl rfl rfl (As := [.int v1]) (rest := []) rfl rfl (Nat.le_of_ble_eq_true rfl) dX10_muddy_2 ⟨Nat.le_of_ble_eq_true rfl, Nat.le_of_ble_eq_true rfl⟩ (Nat.le_of_ble_eq_true rfl) (Nat.le_of_ble_eq_true rfl)
  refine r_callV (k := ((0, 0) : Ky)) C hW hl lk_X10_269 (c_X10_needPersonOrNone hwf (gn_needPersonOrNone h2)) ⟨rfl, rfl⟩ ⟨Nat.le_of_ble_eq_true rfl, Nat.le_of_ble_eq_true rfl⟩ rfl rfl rfl (As := [.int v1]) (rest := []) rfl rfl (Nat.le_of_ble_eq_true rfl) dX10_muddy_2 ⟨Nat.zero_le _, Nat.zero_le _⟩ (fun H locs hW => ?_)
  show W p l e (rma 10 220 1 6) s m args below meth c H locs 0 0 Q (F0 m 5 ls [])
  exact (ml_no hf).elim
set_option maxHeartbeats 4000000 in
set_option maxRecDepth 100000 in
theorem cT_X10_backs {l : Launch} {D : va_G} {tc : Nat → ClassId} {ro : Ro} {oa : Ky → Nat} {sh : Sh} {ln : Nat → Nat} {μ : Mm} {v1 : Int32} {μ' : Mm} {cn : Nat} (hs : l.stackTraces = false) (hwf : WfS sh) (hf : g_X10_backs sh ln μ v1 = some (.inr cn, μ')) : CtT l D tc ro oa yX10_backs cX10_backs 2 (some .int) (rma 10 220 1 6) [.ref (oa (0, 0)), .int v1] sh ln μ cn ln μ' := by
  refine CtT.of (by decide) (Nat.le_of_ble_eq_true rfl) (fun aa p e s m args below meth c A C hr hk hW ht hU hN ls hl => ?_)
  have hx := C.1.1
  have hb := C.1.2.1
  obtain ⟨Q, hQ⟩ : ∃ Q, Q = vx_MQ below (fun _ _ _ _ => False) (XCt D tc oa sh cn ln μ' A) args s (rma 10 220 1 6).cells (rma 10 220 1 6).slots A := ⟨_, rfl⟩
  rw [← hQ]
  have hl : lv_has ls 2 [(0, .ref (oa (0, 0))), (1, .int v1)] := hl
  unfold g_X10_backs at hf
  refine lv_aload_n hx hb dX10_backs_0 rfl (lv_at hl 0 rfl) ?_
  refine lv_iload_n hx hb dX10_backs_1 rfl (lv_at hl 1 rfl) ?_
  rcases xb_of hf with ⟨h2, hf⟩ | ⟨h2, e2⟩
  rotate_left
  · subst e2; rw [hQ]
    exact r_callT (k := ((0, 0) : Ky)) C ht hU hN hk hW hl lk_X10_141 (cT_X10_needPerson hs hwf h2) ⟨Nat.le_of_ble_eq_true rfl, Nat.le_of_ble_eq_true rfl⟩ rfl rfl rfl (As := [.int v1]) (rest := []) rfl rfl (Nat.le_of_ble_eq_true rfl) dX10_backs_2 ⟨Nat.le_of_ble_eq_true rfl, Nat.le_of_ble_eq_true rfl⟩ (Nat.le_of_ble_eq_true rfl) (Nat.le_of_ble_eq_true rfl)
  refine r_callV (k := ((0, 0) : Ky)) C hW hl lk_X10_141 (c_X10_needPerson hwf (gn_needPerson h2)) ⟨rfl, rfl⟩ ⟨Nat.le_of_ble_eq_true rfl, Nat.le_of_ble_eq_true rfl⟩ rfl rfl rfl (As := [.int v1]) (rest := []) rfl rfl (Nat.le_of_ble_eq_true rfl) dX10_backs_2 ⟨Nat.zero_le _, Nat.zero_le _⟩ (fun H locs hW => ?_)
  show W p l e (rma 10 220 1 6) s m args below meth c H locs 0 0 Q (F0 m 5 ls [])
  exact (ml_no hf).elim
set_option maxHeartbeats 4000000 in
set_option maxRecDepth 100000 in
theorem cT_X10_gives {l : Launch} {D : va_G} {tc : Nat → ClassId} {ro : Ro} {oa : Ky → Nat} {sh : Sh} {ln : Nat → Nat} {μ : Mm} {v1 : Int32} {μ' : Mm} {cn : Nat} (hs : l.stackTraces = false) (hwf : WfS sh) (hf : g_X10_gives sh ln μ v1 = some (.inr cn, μ')) : CtT l D tc ro oa yX10_gives cX10_gives 2 (some .int) (rma 10 220 1 6) [.ref (oa (0, 0)), .int v1] sh ln μ cn ln μ' := by
  refine CtT.of (by decide) (Nat.le_of_ble_eq_true rfl) (fun aa p e s m args below meth c A C hr hk hW ht hU hN ls hl => ?_)
  have hx := C.1.1
  have hb := C.1.2.1
  obtain ⟨Q, hQ⟩ : ∃ Q, Q = vx_MQ below (fun _ _ _ _ => False) (XCt D tc oa sh cn ln μ' A) args s (rma 10 220 1 6).cells (rma 10 220 1 6).slots A := ⟨_, rfl⟩
  rw [← hQ]
  have hl : lv_has ls 2 [(0, .ref (oa (0, 0))), (1, .int v1)] := hl
  unfold g_X10_gives at hf
  refine lv_aload_n hx hb dX10_gives_0 rfl (lv_at hl 0 rfl) ?_
  refine lv_iload_n hx hb dX10_gives_1 rfl (lv_at hl 1 rfl) ?_
  rcases xb_of hf with ⟨h2, hf⟩ | ⟨h2, e2⟩
  rotate_left
  · subst e2; rw [hQ]
    exact r_callT (k := ((0, 0) : Ky)) C ht hU hN hk hW hl lk_X10_141 (cT_X10_needPerson hs hwf h2) ⟨Nat.le_of_ble_eq_true rfl, Nat.le_of_ble_eq_true rfl⟩ rfl rfl rfl (As := [.int v1]) (rest := []) rfl rfl (Nat.le_of_ble_eq_true rfl) dX10_gives_2 ⟨Nat.le_of_ble_eq_true rfl, Nat.le_of_ble_eq_true rfl⟩ (Nat.le_of_ble_eq_true rfl) (Nat.le_of_ble_eq_true rfl)
  refine r_callV (k := ((0, 0) : Ky)) C hW hl lk_X10_141 (c_X10_needPerson hwf (gn_needPerson h2)) ⟨rfl, rfl⟩ ⟨Nat.le_of_ble_eq_true rfl, Nat.le_of_ble_eq_true rfl⟩ rfl rfl rfl (As := [.int v1]) (rest := []) rfl rfl (Nat.le_of_ble_eq_true rfl) dX10_gives_2 ⟨Nat.zero_le _, Nat.zero_le _⟩ (fun H locs hW => ?_)
  show W p l e (rma 10 220 1 6) s m args below meth c H locs 0 0 Q (F0 m 5 ls [])
  exact (ml_no hf).elim
set_option maxHeartbeats 4000000 in
set_option maxRecDepth 100000 in
theorem cT_X10_never {l : Launch} {D : va_G} {tc : Nat → ClassId} {ro : Ro} {oa : Ky → Nat} {sh : Sh} {ln : Nat → Nat} {μ : Mm} {v1 : Int32} {μ' : Mm} {cn : Nat} (hs : l.stackTraces = false) (hwf : WfS sh) (hf : g_X10_never sh ln μ v1 = some (.inr cn, μ')) : CtT l D tc ro oa yX10_never cX10_never 2 (some .int) (rma 10 220 1 6) [.ref (oa (0, 0)), .int v1] sh ln μ cn ln μ' := by
  refine CtT.of (by decide) (Nat.le_of_ble_eq_true rfl) (fun aa p e s m args below meth c A C hr hk hW ht hU hN ls hl => ?_)
  have hx := C.1.1
  have hb := C.1.2.1
  obtain ⟨Q, hQ⟩ : ∃ Q, Q = vx_MQ below (fun _ _ _ _ => False) (XCt D tc oa sh cn ln μ' A) args s (rma 10 220 1 6).cells (rma 10 220 1 6).slots A := ⟨_, rfl⟩
  rw [← hQ]
  have hl : lv_has ls 2 [(0, .ref (oa (0, 0))), (1, .int v1)] := hl
  unfold g_X10_never at hf
  refine lv_aload_n hx hb dX10_never_0 rfl (lv_at hl 0 rfl) ?_
  refine lv_iload_n hx hb dX10_never_1 rfl (lv_at hl 1 rfl) ?_
  rcases xb_of hf with ⟨h2, hf⟩ | ⟨h2, e2⟩
  rotate_left
  · subst e2; rw [hQ]
    exact r_callT (k := ((0, 0) : Ky)) C ht hU hN hk hW hl lk_X10_141 (cT_X10_needPerson hs hwf h2) ⟨Nat.le_of_ble_eq_true rfl, Nat.le_of_ble_eq_true rfl⟩ rfl rfl rfl (As := [.int v1]) (rest := []) rfl rfl (Nat.le_of_ble_eq_true rfl) dX10_never_2 ⟨Nat.le_of_ble_eq_true rfl, Nat.le_of_ble_eq_true rfl⟩ (Nat.le_of_ble_eq_true rfl) (Nat.le_of_ble_eq_true rfl)
  refine r_callV (k := ((0, 0) : Ky)) C hW hl lk_X10_141 (c_X10_needPerson hwf (gn_needPerson h2)) ⟨rfl, rfl⟩ ⟨Nat.le_of_ble_eq_true rfl, Nat.le_of_ble_eq_true rfl⟩ rfl rfl rfl (As := [.int v1]) (rest := []) rfl rfl (Nat.le_of_ble_eq_true rfl) dX10_never_2 ⟨Nat.zero_le _, Nat.zero_le _⟩ (fun H locs hW => ?_)
  show W p l e (rma 10 220 1 6) s m args below meth c H locs 0 0 Q (F0 m 5 ls [])
  exact (ml_no hf).elim
set_option maxHeartbeats 4000000 in
set_option maxRecDepth 100000 in
theorem cT_X10_question {l : Launch} {D : va_G} {tc : Nat → ClassId} {ro : Ro} {oa : Ky → Nat} {sh : Sh} {ln : Nat → Nat} {μ : Mm} {v1 : Int32} {μ' : Mm} {cn : Nat} (hs : l.stackTraces = false) (hwf : WfS sh) (hf : g_X10_question sh ln μ v1 = some (.inr cn, μ')) : CtT l D tc ro oa yX10_question cX10_question 2 (some .int) (rma 10 220 1 6) [.ref (oa (0, 0)), .int v1] sh ln μ cn ln μ' := by
  refine CtT.of (by decide) (Nat.le_of_ble_eq_true rfl) (fun aa p e s m args below meth c A C hr hk hW ht hU hN ls hl => ?_)
  have hx := C.1.1
  have hb := C.1.2.1
  obtain ⟨Q, hQ⟩ : ∃ Q, Q = vx_MQ below (fun _ _ _ _ => False) (XCt D tc oa sh cn ln μ' A) args s (rma 10 220 1 6).cells (rma 10 220 1 6).slots A := ⟨_, rfl⟩
  rw [← hQ]
  have hl : lv_has ls 2 [(0, .ref (oa (0, 0))), (1, .int v1)] := hl
  unfold g_X10_question at hf
  refine lv_aload_n hx hb dX10_question_0 rfl (lv_at hl 0 rfl) ?_
  refine lv_iload_n hx hb dX10_question_1 rfl (lv_at hl 1 rfl) ?_
  rcases xb_of hf with ⟨h2, hf⟩ | ⟨h2, e2⟩
  rotate_left
  · subst e2; rw [hQ]
    exact r_callT (k := ((0, 0) : Ky)) C ht hU hN hk hW hl lk_X10_141 (cT_X10_needPerson hs hwf h2) ⟨Nat.le_of_ble_eq_true rfl, Nat.le_of_ble_eq_true rfl⟩ rfl rfl rfl (As := [.int v1]) (rest := []) rfl rfl (Nat.le_of_ble_eq_true rfl) dX10_question_2 ⟨Nat.le_of_ble_eq_true rfl, Nat.le_of_ble_eq_true rfl⟩ (Nat.le_of_ble_eq_true rfl) (Nat.le_of_ble_eq_true rfl)
  refine r_callV (k := ((0, 0) : Ky)) C hW hl lk_X10_141 (c_X10_needPerson hwf (gn_needPerson h2)) ⟨rfl, rfl⟩ ⟨Nat.le_of_ble_eq_true rfl, Nat.le_of_ble_eq_true rfl⟩ rfl rfl rfl (As := [.int v1]) (rest := []) rfl rfl (Nat.le_of_ble_eq_true rfl) dX10_question_2 ⟨Nat.zero_le _, Nat.zero_le _⟩ (fun H locs hW => ?_)
  show W p l e (rma 10 220 1 6) s m args below meth c H locs 0 0 Q (F0 m 5 ls [])
  exact (ml_no hf).elim
set_option maxHeartbeats 4000000 in
set_option maxRecDepth 100000 in
theorem cT_X10_queries {l : Launch} {D : va_G} {tc : Nat → ClassId} {ro : Ro} {oa : Ky → Nat} {sh : Sh} {ln : Nat → Nat} {μ : Mm} {v1 : Int32} {μ' : Mm} {cn : Nat} (hs : l.stackTraces = false) (hwf : WfS sh) (hf : g_X10_queries sh ln μ v1 = some (.inr cn, μ')) : CtT l D tc ro oa yX10_queries cX10_queries 2 (some .int) (rma 10 220 1 6) [.ref (oa (0, 0)), .int v1] sh ln μ cn ln μ' := by
  refine CtT.of (by decide) (Nat.le_of_ble_eq_true rfl) (fun aa p e s m args below meth c A C hr hk hW ht hU hN ls hl => ?_)
  have hx := C.1.1
  have hb := C.1.2.1
  obtain ⟨Q, hQ⟩ : ∃ Q, Q = vx_MQ below (fun _ _ _ _ => False) (XCt D tc oa sh cn ln μ' A) args s (rma 10 220 1 6).cells (rma 10 220 1 6).slots A := ⟨_, rfl⟩
  rw [← hQ]
  have hl : lv_has ls 2 [(0, .ref (oa (0, 0))), (1, .int v1)] := hl
  unfold g_X10_queries at hf
  refine lv_aload_n hx hb dX10_queries_0 rfl (lv_at hl 0 rfl) ?_
  refine lv_iload_n hx hb dX10_queries_1 rfl (lv_at hl 1 rfl) ?_
  rcases xb_of hf with ⟨h2, hf⟩ | ⟨h2, e2⟩
  rotate_left
  · subst e2; rw [hQ]
    exact r_callT (k := ((0, 0) : Ky)) C ht hU hN hk hW hl lk_X10_141 (cT_X10_needPerson hs hwf h2) ⟨Nat.le_of_ble_eq_true rfl, Nat.le_of_ble_eq_true rfl⟩ rfl rfl rfl (As := [.int v1]) (rest := []) rfl rfl (Nat.le_of_ble_eq_true rfl) dX10_queries_2 ⟨Nat.le_of_ble_eq_true rfl, Nat.le_of_ble_eq_true rfl⟩ (Nat.le_of_ble_eq_true rfl) (Nat.le_of_ble_eq_true rfl)
  refine r_callV (k := ((0, 0) : Ky)) C hW hl lk_X10_141 (c_X10_needPerson hwf (gn_needPerson h2)) ⟨rfl, rfl⟩ ⟨Nat.le_of_ble_eq_true rfl, Nat.le_of_ble_eq_true rfl⟩ rfl rfl rfl (As := [.int v1]) (rest := []) rfl rfl (Nat.le_of_ble_eq_true rfl) dX10_queries_2 ⟨Nat.zero_le _, Nat.zero_le _⟩ (fun H locs hW => ?_)
  show W p l e (rma 10 220 1 6) s m args below meth c H locs 0 0 Q (F0 m 5 ls [])
  exact (ml_no hf).elim
set_option maxHeartbeats 4000000 in
set_option maxRecDepth 100000 in
theorem cT_X10_spill {l : Launch} {D : va_G} {tc : Nat → ClassId} {ro : Ro} {oa : Ky → Nat} {sh : Sh} {ln : Nat → Nat} {μ : Mm} {v1 : Int32} {μ' : Mm} {cn : Nat} (hs : l.stackTraces = false) (hwf : WfS sh) (hf : g_X10_spill sh ln μ v1 = some (.inr cn, μ')) : CtT l D tc ro oa yX10_spill cX10_spill 2 (some .int) (rma 10 220 1 6) [.ref (oa (0, 0)), .int v1] sh ln μ cn ln μ' := by
  refine CtT.of (by decide) (Nat.le_of_ble_eq_true rfl) (fun aa p e s m args below meth c A C hr hk hW ht hU hN ls hl => ?_)
  have hx := C.1.1
  have hb := C.1.2.1
  obtain ⟨Q, hQ⟩ : ∃ Q, Q = vx_MQ below (fun _ _ _ _ => False) (XCt D tc oa sh cn ln μ' A) args s (rma 10 220 1 6).cells (rma 10 220 1 6).slots A := ⟨_, rfl⟩
  rw [← hQ]
  have hl : lv_has ls 2 [(0, .ref (oa (0, 0))), (1, .int v1)] := hl
  unfold g_X10_spill at hf
  refine lv_aload_n hx hb dX10_spill_0 rfl (lv_at hl 0 rfl) ?_
  refine lv_iload_n hx hb dX10_spill_1 rfl (lv_at hl 1 rfl) ?_
  rcases xb_of hf with ⟨h2, hf⟩ | ⟨h2, e2⟩
  rotate_left
  · subst e2; rw [hQ]
    exact r_callT (k := ((0, 0) : Ky)) C ht hU hN hk hW hl lk_X10_141 (cT_X10_needPerson hs hwf h2) ⟨Nat.le_of_ble_eq_true rfl, Nat.le_of_ble_eq_true rfl⟩ rfl rfl rfl (As := [.int v1]) (rest := []) rfl rfl (Nat.le_of_ble_eq_true rfl) dX10_spill_2 ⟨Nat.le_of_ble_eq_true rfl, Nat.le_of_ble_eq_true rfl⟩ (Nat.le_of_ble_eq_true rfl) (Nat.le_of_ble_eq_true rfl)
  refine r_callV (k := ((0, 0) : Ky)) C hW hl lk_X10_141 (c_X10_needPerson hwf (gn_needPerson h2)) ⟨rfl, rfl⟩ ⟨Nat.le_of_ble_eq_true rfl, Nat.le_of_ble_eq_true rfl⟩ rfl rfl rfl (As := [.int v1]) (rest := []) rfl rfl (Nat.le_of_ble_eq_true rfl) dX10_spill_2 ⟨Nat.zero_le _, Nat.zero_le _⟩ (fun H locs hW => ?_)
  show W p l e (rma 10 220 1 6) s m args below meth c H locs 0 0 Q (F0 m 5 ls [])
  exact (ml_no hf).elim
set_option maxHeartbeats 4000000 in
set_option maxRecDepth 100000 in
theorem cT_X10_game {l : Launch} {D : va_G} {tc : Nat → ClassId} {ro : Ro} {oa : Ky → Nat} {sh : Sh} {ln : Nat → Nat} {μ : Mm} {v1 v2 : Int32} {μ' : Mm} {cn : Nat} (hs : l.stackTraces = false) (hwf : WfS sh) (hf : g_X10_game sh ln μ v1 v2 = some (.inr cn, μ')) : CtT l D tc ro oa yX10_game cX10_game 3 (some .int) (rma 10 220 1 6) [.ref (oa (0, 0)), .int v1, .int v2] sh ln μ cn ln μ' := by
  refine CtT.of (by decide) (Nat.le_of_ble_eq_true rfl) (fun aa p e s m args below meth c A C hr hk hW ht hU hN ls hl => ?_)
  have hx := C.1.1
  have hb := C.1.2.1
  obtain ⟨Q, hQ⟩ : ∃ Q, Q = vx_MQ below (fun _ _ _ _ => False) (XCt D tc oa sh cn ln μ' A) args s (rma 10 220 1 6).cells (rma 10 220 1 6).slots A := ⟨_, rfl⟩
  rw [← hQ]
  have hl : lv_has ls 3 [(0, .ref (oa (0, 0))), (1, .int v1), (2, .int v2)] := hl
  unfold g_X10_game at hf
  refine lv_aload_n hx hb dX10_game_0 rfl (lv_at hl 0 rfl) ?_
  refine lv_iload_n hx hb dX10_game_1 rfl (lv_at hl 1 rfl) ?_
  rcases xb_of hf with ⟨h2, hf⟩ | ⟨h2, e2⟩
  rotate_left
  · subst e2; rw [hQ]
    exact r_callT (k := ((0, 0) : Ky)) C ht hU hN hk hW hl lk_X10_141 (cT_X10_needPerson hs hwf h2) ⟨Nat.le_of_ble_eq_true rfl, Nat.le_of_ble_eq_true rfl⟩ rfl rfl rfl (As := [.int v1]) (rest := []) rfl rfl (Nat.le_of_ble_eq_true rfl) dX10_game_2 ⟨Nat.le_of_ble_eq_true rfl, Nat.le_of_ble_eq_true rfl⟩ (Nat.le_of_ble_eq_true rfl) (Nat.le_of_ble_eq_true rfl)
  refine r_callV (k := ((0, 0) : Ky)) C hW hl lk_X10_141 (c_X10_needPerson hwf (gn_needPerson h2)) ⟨rfl, rfl⟩ ⟨Nat.le_of_ble_eq_true rfl, Nat.le_of_ble_eq_true rfl⟩ rfl rfl rfl (As := [.int v1]) (rest := []) rfl rfl (Nat.le_of_ble_eq_true rfl) dX10_game_2 ⟨Nat.zero_le _, Nat.zero_le _⟩ (fun H locs hW => ?_)
  show W p l e (rma 10 220 1 6) s m args below meth c H locs 0 0 Q (F0 m 5 ls [])
  exact (ml_no hf).elim
set_option maxHeartbeats 4000000 in
set_option maxRecDepth 100000 in
theorem cT_X10_steps {l : Launch} {D : va_G} {tc : Nat → ClassId} {ro : Ro} {oa : Ky → Nat} {sh : Sh} {ln : Nat → Nat} {μ : Mm} {v1 v2 : Int32} {μ' : Mm} {cn : Nat} (hs : l.stackTraces = false) (hwf : WfS sh) (hf : g_X10_steps sh ln μ v1 v2 = some (.inr cn, μ')) : CtT l D tc ro oa yX10_steps cX10_steps 3 (some .int) (rma 10 220 1 6) [.ref (oa (0, 0)), .int v1, .int v2] sh ln μ cn ln μ' := by
  refine CtT.of (by decide) (Nat.le_of_ble_eq_true rfl) (fun aa p e s m args below meth c A C hr hk hW ht hU hN ls hl => ?_)
  have hx := C.1.1
  have hb := C.1.2.1
  obtain ⟨Q, hQ⟩ : ∃ Q, Q = vx_MQ below (fun _ _ _ _ => False) (XCt D tc oa sh cn ln μ' A) args s (rma 10 220 1 6).cells (rma 10 220 1 6).slots A := ⟨_, rfl⟩
  rw [← hQ]
  have hl : lv_has ls 3 [(0, .ref (oa (0, 0))), (1, .int v1), (2, .int v2)] := hl
  unfold g_X10_steps at hf
  refine lv_aload_n hx hb dX10_steps_0 rfl (lv_at hl 0 rfl) ?_
  refine lv_iload_n hx hb dX10_steps_1 rfl (lv_at hl 1 rfl) ?_
  rcases xb_of hf with ⟨h2, hf⟩ | ⟨h2, e2⟩
  rotate_left
  · subst e2; rw [hQ]
    exact r_callT (k := ((0, 0) : Ky)) C ht hU hN hk hW hl lk_X10_141 (cT_X10_needPerson hs hwf h2) ⟨Nat.le_of_ble_eq_true rfl, Nat.le_of_ble_eq_true rfl⟩ rfl rfl rfl (As := [.int v1]) (rest := []) rfl rfl (Nat.le_of_ble_eq_true rfl) dX10_steps_2 ⟨Nat.le_of_ble_eq_true rfl, Nat.le_of_ble_eq_true rfl⟩ (Nat.le_of_ble_eq_true rfl) (Nat.le_of_ble_eq_true rfl)
  refine r_callV (k := ((0, 0) : Ky)) C hW hl lk_X10_141 (c_X10_needPerson hwf (gn_needPerson h2)) ⟨rfl, rfl⟩ ⟨Nat.le_of_ble_eq_true rfl, Nat.le_of_ble_eq_true rfl⟩ rfl rfl rfl (As := [.int v1]) (rest := []) rfl rfl (Nat.le_of_ble_eq_true rfl) dX10_steps_2 ⟨Nat.zero_le _, Nat.zero_le _⟩ (fun H locs hW => ?_)
  show W p l e (rma 10 220 1 6) s m args below meth c H locs 0 0 Q (F0 m 5 ls [])
  refine lv_aload_n hx hb dX10_steps_5 rfl (lv_at hl 0 rfl) ?_
  refine lv_iload_n hx hb dX10_steps_6 rfl (lv_at hl 2 rfl) ?_
  rcases xb_of hf with ⟨h7, hf⟩ | ⟨h7, e7⟩
  rotate_left
  · subst e7; rw [hQ]
    exact r_callT (k := ((0, 0) : Ky)) C ht hU hN hk hW hl lk_X10_141 (cT_X10_needPerson hs hwf h7) ⟨Nat.le_of_ble_eq_true rfl, Nat.le_of_ble_eq_true rfl⟩ rfl rfl rfl (As := [.int v2]) (rest := []) rfl rfl (Nat.le_of_ble_eq_true rfl) dX10_steps_7 ⟨Nat.le_of_ble_eq_true rfl, Nat.le_of_ble_eq_true rfl⟩ (Nat.le_of_ble_eq_true rfl) (Nat.le_of_ble_eq_true rfl)
  refine r_callV (k := ((0, 0) : Ky)) C hW hl lk_X10_141 (c_X10_needPerson hwf (gn_needPerson h7)) ⟨rfl, rfl⟩ ⟨Nat.le_of_ble_eq_true rfl, Nat.le_of_ble_eq_true rfl⟩ rfl rfl rfl (As := [.int v2]) (rest := []) rfl rfl (Nat.le_of_ble_eq_true rfl) dX10_steps_7 ⟨Nat.zero_le _, Nat.zero_le _⟩ (fun H locs hW => ?_)
  show W p l e (rma 10 220 1 6) s m args below meth c H locs 0 0 Q (F0 m 10 ls [])
  exact (ml0_no hf).elim
set_option maxHeartbeats 4000000 in
set_option maxRecDepth 100000 in
theorem cT_X10_nth {l : Launch} {D : va_G} {tc : Nat → ClassId} {ro : Ro} {oa : Ky → Nat} {sh : Sh} {ln : Nat → Nat} {μ : Mm} {v1 v2 : Int32} {μ' : Mm} {cn : Nat} (hs : l.stackTraces = false) (hwf : WfS sh) (hf : g_X10_nth sh ln μ v1 v2 = some (.inr cn, μ')) : CtT l D tc ro oa yX10_nth cX10_nth 3 (some .int) (rma 10 220 1 6) [.ref (oa (0, 0)), .int v1, .int v2] sh ln μ cn ln μ' := by
  refine CtT.of (by decide) (Nat.le_of_ble_eq_true rfl) (fun aa p e s m args below meth c A C hr hk hW ht hU hN ls hl => ?_)
  have hx := C.1.1
  have hb := C.1.2.1
  obtain ⟨Q, hQ⟩ : ∃ Q, Q = vx_MQ below (fun _ _ _ _ => False) (XCt D tc oa sh cn ln μ' A) args s (rma 10 220 1 6).cells (rma 10 220 1 6).slots A := ⟨_, rfl⟩
  rw [← hQ]
  have hl : lv_has ls 3 [(0, .ref (oa (0, 0))), (1, .int v1), (2, .int v2)] := hl
  unfold g_X10_nth at hf
  refine lv_aload_n hx hb dX10_nth_0 rfl (lv_at hl 0 rfl) ?_
  refine lv_iload_n hx hb dX10_nth_1 rfl (lv_at hl 1 rfl) ?_
  rcases xb_of hf with ⟨h2, hf⟩ | ⟨h2, e2⟩
  rotate_left
  · subst e2; rw [hQ]
    exact r_callT (k := ((0, 0) : Ky)) C ht hU hN hk hW hl lk_X10_269 (cT_X10_needPersonOrNone hs hwf h2) ⟨Nat.le_of_ble_eq_true rfl, Nat.le_of_ble_eq_true rfl⟩ rfl rfl rfl (As := [.int v1]) (rest := []) rfl rfl (Nat.le_of_ble_eq_true rfl) dX10_nth_2 ⟨Nat.le_of_ble_eq_true rfl, Nat.le_of_ble_eq_true rfl⟩ (Nat.le_of_ble_eq_true rfl) (Nat.le_of_ble_eq_true rfl)
  refine r_callV (k := ((0, 0) : Ky)) C hW hl lk_X10_269 (c_X10_needPersonOrNone hwf (gn_needPersonOrNone h2)) ⟨rfl, rfl⟩ ⟨Nat.le_of_ble_eq_true rfl, Nat.le_of_ble_eq_true rfl⟩ rfl rfl rfl (As := [.int v1]) (rest := []) rfl rfl (Nat.le_of_ble_eq_true rfl) dX10_nth_2 ⟨Nat.zero_le _, Nat.zero_le _⟩ (fun H locs hW => ?_)
  show W p l e (rma 10 220 1 6) s m args below meth c H locs 0 0 Q (F0 m 5 ls [])
  exact (ml0_no hf).elim
set_option maxHeartbeats 4000000 in
set_option maxRecDepth 100000 in
theorem cT_X10_guess {l : Launch} {D : va_G} {tc : Nat → ClassId} {ro : Ro} {oa : Ky → Nat} {sh : Sh} {ln : Nat → Nat} {μ : Mm} {v1 : Int32} {μ' : Mm} {cn : Nat} (hs : l.stackTraces = false) (hwf : WfS sh) (hf : g_X10_guess sh ln μ v1 = some (.inr cn, μ')) : CtT l D tc ro oa yX10_guess cX10_guess 2 (some .int) (rma 10 220 1 6) [.ref (oa (0, 0)), .int v1] sh ln μ cn ln μ' := by
  refine CtT.of (by decide) (Nat.le_of_ble_eq_true rfl) (fun aa p e s m args below meth c A C hr hk hW ht hU hN ls hl => ?_)
  have hx := C.1.1
  have hb := C.1.2.1
  obtain ⟨Q, hQ⟩ : ∃ Q, Q = vx_MQ below (fun _ _ _ _ => False) (XCt D tc oa sh cn ln μ' A) args s (rma 10 220 1 6).cells (rma 10 220 1 6).slots A := ⟨_, rfl⟩
  rw [← hQ]
  have hl : lv_has ls 2 [(0, .ref (oa (0, 0))), (1, .int v1)] := hl
  unfold g_X10_guess at hf
  refine lv_aload_n hx hb dX10_guess_0 rfl (lv_at hl 0 rfl) ?_
  refine lv_iload_n hx hb dX10_guess_1 rfl (lv_at hl 1 rfl) ?_
  rcases xb_of hf with ⟨h2, hf⟩ | ⟨h2, e2⟩
  rotate_left
  · subst e2; rw [hQ]
    exact r_callT (k := ((0, 0) : Ky)) C ht hU hN hk hW hl lk_X10_141 (cT_X10_needPerson hs hwf h2) ⟨Nat.le_of_ble_eq_true rfl, Nat.le_of_ble_eq_true rfl⟩ rfl rfl rfl (As := [.int v1]) (rest := []) rfl rfl (Nat.le_of_ble_eq_true rfl) dX10_guess_2 ⟨Nat.le_of_ble_eq_true rfl, Nat.le_of_ble_eq_true rfl⟩ (Nat.le_of_ble_eq_true rfl) (Nat.le_of_ble_eq_true rfl)
  refine r_callV (k := ((0, 0) : Ky)) C hW hl lk_X10_141 (c_X10_needPerson hwf (gn_needPerson h2)) ⟨rfl, rfl⟩ ⟨Nat.le_of_ble_eq_true rfl, Nat.le_of_ble_eq_true rfl⟩ rfl rfl rfl (As := [.int v1]) (rest := []) rfl rfl (Nat.le_of_ble_eq_true rfl) dX10_guess_2 ⟨Nat.zero_le _, Nat.zero_le _⟩ (fun H locs hW => ?_)
  show W p l e (rma 10 220 1 6) s m args below meth c H locs 0 0 Q (F0 m 5 ls [])
  exact (ml_no hf).elim
set_option maxHeartbeats 4000000 in
set_option maxRecDepth 100000 in
theorem cT_X10_right {l : Launch} {D : va_G} {tc : Nat → ClassId} {ro : Ro} {oa : Ky → Nat} {sh : Sh} {ln : Nat → Nat} {μ : Mm} {v1 : Int32} {μ' : Mm} {cn : Nat} (hs : l.stackTraces = false) (hwf : WfS sh) (hf : g_X10_right sh ln μ v1 = some (.inr cn, μ')) : CtT l D tc ro oa yX10_right cX10_right 2 (some .int) (rma 10 220 1 6) [.ref (oa (0, 0)), .int v1] sh ln μ cn ln μ' := by
  refine CtT.of (by decide) (Nat.le_of_ble_eq_true rfl) (fun aa p e s m args below meth c A C hr hk hW ht hU hN ls hl => ?_)
  have hx := C.1.1
  have hb := C.1.2.1
  obtain ⟨Q, hQ⟩ : ∃ Q, Q = vx_MQ below (fun _ _ _ _ => False) (XCt D tc oa sh cn ln μ' A) args s (rma 10 220 1 6).cells (rma 10 220 1 6).slots A := ⟨_, rfl⟩
  rw [← hQ]
  have hl : lv_has ls 2 [(0, .ref (oa (0, 0))), (1, .int v1)] := hl
  unfold g_X10_right at hf
  refine lv_aload_n hx hb dX10_right_0 rfl (lv_at hl 0 rfl) ?_
  refine lv_iload_n hx hb dX10_right_1 rfl (lv_at hl 1 rfl) ?_
  rcases xb_of hf with ⟨h2, hf⟩ | ⟨h2, e2⟩
  rotate_left
  · subst e2; rw [hQ]
    exact r_callT (k := ((0, 0) : Ky)) C ht hU hN hk hW hl lk_X10_269 (cT_X10_needPersonOrNone hs hwf h2) ⟨Nat.le_of_ble_eq_true rfl, Nat.le_of_ble_eq_true rfl⟩ rfl rfl rfl (As := [.int v1]) (rest := []) rfl rfl (Nat.le_of_ble_eq_true rfl) dX10_right_2 ⟨Nat.le_of_ble_eq_true rfl, Nat.le_of_ble_eq_true rfl⟩ (Nat.le_of_ble_eq_true rfl) (Nat.le_of_ble_eq_true rfl)
  refine r_callV (k := ((0, 0) : Ky)) C hW hl lk_X10_269 (c_X10_needPersonOrNone hwf (gn_needPersonOrNone h2)) ⟨rfl, rfl⟩ ⟨Nat.le_of_ble_eq_true rfl, Nat.le_of_ble_eq_true rfl⟩ rfl rfl rfl (As := [.int v1]) (rest := []) rfl rfl (Nat.le_of_ble_eq_true rfl) dX10_right_2 ⟨Nat.zero_le _, Nat.zero_le _⟩ (fun H locs hW => ?_)
  show W p l e (rma 10 220 1 6) s m args below meth c H locs 0 0 Q (F0 m 5 ls [])
  exact (ml_no hf).elim
set_option maxHeartbeats 4000000 in
set_option maxRecDepth 100000 in
theorem cT_X10_married {l : Launch} {D : va_G} {tc : Nat → ClassId} {ro : Ro} {oa : Ky → Nat} {sh : Sh} {ln : Nat → Nat} {μ : Mm} {v1 : Int32} {μ' : Mm} {cn : Nat} (hs : l.stackTraces = false) (hwf : WfS sh) (hf : g_X10_married sh ln μ v1 = some (.inr cn, μ')) : CtT l D tc ro oa yX10_married cX10_married 2 (some .int) (rma 10 220 1 6) [.ref (oa (0, 0)), .int v1] sh ln μ cn ln μ' := by
  refine CtT.of (by decide) (Nat.le_of_ble_eq_true rfl) (fun aa p e s m args below meth c A C hr hk hW ht hU hN ls hl => ?_)
  have hx := C.1.1
  have hb := C.1.2.1
  obtain ⟨Q, hQ⟩ : ∃ Q, Q = vx_MQ below (fun _ _ _ _ => False) (XCt D tc oa sh cn ln μ' A) args s (rma 10 220 1 6).cells (rma 10 220 1 6).slots A := ⟨_, rfl⟩
  rw [← hQ]
  have hl : lv_has ls 2 [(0, .ref (oa (0, 0))), (1, .int v1)] := hl
  unfold g_X10_married at hf
  refine lv_aload_n hx hb dX10_married_0 rfl (lv_at hl 0 rfl) ?_
  refine lv_iload_n hx hb dX10_married_1 rfl (lv_at hl 1 rfl) ?_
  rcases xb_of hf with ⟨h2, hf⟩ | ⟨h2, e2⟩
  rotate_left
  · subst e2; rw [hQ]
    exact r_callT (k := ((0, 0) : Ky)) C ht hU hN hk hW hl lk_X10_269 (cT_X10_needPersonOrNone hs hwf h2) ⟨Nat.le_of_ble_eq_true rfl, Nat.le_of_ble_eq_true rfl⟩ rfl rfl rfl (As := [.int v1]) (rest := []) rfl rfl (Nat.le_of_ble_eq_true rfl) dX10_married_2 ⟨Nat.le_of_ble_eq_true rfl, Nat.le_of_ble_eq_true rfl⟩ (Nat.le_of_ble_eq_true rfl) (Nat.le_of_ble_eq_true rfl)
  refine r_callV (k := ((0, 0) : Ky)) C hW hl lk_X10_269 (c_X10_needPersonOrNone hwf (gn_needPersonOrNone h2)) ⟨rfl, rfl⟩ ⟨Nat.le_of_ble_eq_true rfl, Nat.le_of_ble_eq_true rfl⟩ rfl rfl rfl (As := [.int v1]) (rest := []) rfl rfl (Nat.le_of_ble_eq_true rfl) dX10_married_2 ⟨Nat.zero_le _, Nat.zero_le _⟩ (fun H locs hW => ?_)
  show W p l e (rma 10 220 1 6) s m args below meth c H locs 0 0 Q (F0 m 5 ls [])
  exact (ml_no hf).elim
set_option maxHeartbeats 4000000 in
set_option maxRecDepth 100000 in
theorem cT_X10_led {l : Launch} {D : va_G} {tc : Nat → ClassId} {ro : Ro} {oa : Ky → Nat} {sh : Sh} {ln : Nat → Nat} {μ : Mm} {v1 : Int32} {μ' : Mm} {cn : Nat} (hs : l.stackTraces = false) (hwf : WfS sh) (hf : g_X10_led sh ln μ v1 = some (.inr cn, μ')) : CtT l D tc ro oa yX10_led cX10_led 4 (some .int) (rma 10 220 1 6) [.ref (oa (0, 0)), .int v1] sh ln μ cn ln μ' := by
  refine CtT.of (by decide) (Nat.le_of_ble_eq_true rfl) (fun aa p e s m args below meth c A C hr hk hW ht hU hN ls hl => ?_)
  have hx := C.1.1
  have hb := C.1.2.1
  obtain ⟨Q, hQ⟩ : ∃ Q, Q = vx_MQ below (fun _ _ _ _ => False) (XCt D tc oa sh cn ln μ' A) args s (rma 10 220 1 6).cells (rma 10 220 1 6).slots A := ⟨_, rfl⟩
  rw [← hQ]
  have hl : lv_has ls 4 [(0, .ref (oa (0, 0))), (1, .int v1)] := hl
  unfold g_X10_led at hf
  refine lv_aload_n hx hb dX10_led_0 rfl (lv_at hl 0 rfl) ?_
  refine lv_iload_n hx hb dX10_led_1 rfl (lv_at hl 1 rfl) ?_
  rcases xb_of hf with ⟨h2, hf⟩ | ⟨h2, e2⟩
  rotate_left
  · subst e2; rw [hQ]
    exact r_callT (k := ((0, 0) : Ky)) C ht hU hN hk hW hl lk_X10_141 (cT_X10_needPerson hs hwf h2) ⟨Nat.le_of_ble_eq_true rfl, Nat.le_of_ble_eq_true rfl⟩ rfl rfl rfl (As := [.int v1]) (rest := []) rfl rfl (Nat.le_of_ble_eq_true rfl) dX10_led_2 ⟨Nat.le_of_ble_eq_true rfl, Nat.le_of_ble_eq_true rfl⟩ (Nat.le_of_ble_eq_true rfl) (Nat.le_of_ble_eq_true rfl)
  refine r_callV (k := ((0, 0) : Ky)) C hW hl lk_X10_141 (c_X10_needPerson hwf (gn_needPerson h2)) ⟨rfl, rfl⟩ ⟨Nat.le_of_ble_eq_true rfl, Nat.le_of_ble_eq_true rfl⟩ rfl rfl rfl (As := [.int v1]) (rest := []) rfl rfl (Nat.le_of_ble_eq_true rfl) dX10_led_2 ⟨Nat.zero_le _, Nat.zero_le _⟩ (fun H locs hW => ?_)
  show W p l e (rma 10 220 1 6) s m args below meth c H locs 0 0 Q (F0 m 5 ls [])
  exact (ml0_no hf).elim
set_option maxHeartbeats 4000000 in
set_option maxRecDepth 100000 in
theorem cT_X10_treat {l : Launch} {D : va_G} {tc : Nat → ClassId} {ro : Ro} {oa : Ky → Nat} {sh : Sh} {ln : Nat → Nat} {μ : Mm} {v1 v2 v3 : Int32} {sh' : Sh} {lm' : Nat → Nat} {μ' : Mm} {kc ks : Nat} {cn : Nat} (hs : l.stackTraces = false) (hwf : WfS sh) (hf : g_X10_treat sh ln μ v1 v2 v3 = some ((.inr cn, sh', lm', μ'), kc, ks)) : (sh = sh' ∧ ln = lm' ∧ μ = μ' ∧ 0 = kc ∧ 0 = ks) ∧ CtT l D tc ro oa yX10_treat cX10_treat 4 (some .int) (rma 10 220 1 6) [.ref (oa (0, 0)), .int v1, .int v2, .int v3] sh ln μ cn ln μ := by
  have hq : sh = sh' ∧ ln = lm' ∧ μ = μ' ∧ 0 = kc ∧ 0 = ks := by
    have hf := hf
    unfold g_X10_treat at hf
    rcases xbO_of hf with ⟨-, hf⟩ | ⟨-, h⟩
    rotate_left
    · exact h
    rcases xbO_of hf with ⟨-, hf⟩ | ⟨-, h⟩
    rotate_left
    · exact h
    rcases xbO_of hf with ⟨-, hf⟩ | ⟨-, h⟩
    rotate_left
    · exact h
    rcases xbO_of hf with ⟨-, hf⟩ | ⟨-, h⟩
    rotate_left
    · exact h
    exact (act_no hf).elim
  refine ⟨hq, ?_⟩
  refine CtT.of (by decide) (Nat.le_of_ble_eq_true rfl) (fun aa p e s m args below meth c A C hr hk hW ht hU hN ls hl => ?_)
  have hx := C.1.1
  have hb := C.1.2.1
  obtain ⟨Q, hQ⟩ : ∃ Q, Q = vx_MQ below (fun _ _ _ _ => False) (XCt D tc oa sh cn ln μ A) args s (rma 10 220 1 6).cells (rma 10 220 1 6).slots A := ⟨_, rfl⟩
  rw [← hQ]
  have hl : lv_has ls 4 [(0, .ref (oa (0, 0))), (1, .int v1), (2, .int v2), (3, .int v3)] := hl
  unfold g_X10_treat at hf
  refine lv_aload_n hx hb dX10_treat_0 rfl (lv_at hl 0 rfl) ?_
  refine lv_iload_n hx hb dX10_treat_1 rfl (lv_at hl 1 rfl) ?_
  rcases xbO_of hf with ⟨h2, hf⟩ | ⟨h2, -⟩
  rotate_left
  · rw [hQ]
    exact r_callT (k := ((0, 0) : Ky)) C ht hU hN hk hW hl lk_X10_141 (cT_X10_needPerson hs hwf h2) ⟨Nat.le_of_ble_eq_true rfl, Nat.le_of_ble_eq_true rfl⟩ rfl rfl rfl (As := [.int v1]) (rest := []) rfl rfl (Nat.le_of_ble_eq_true rfl) dX10_treat_2 ⟨Nat.le_of_ble_eq_true rfl, Nat.le_of_ble_eq_true rfl⟩ (Nat.le_of_ble_eq_true rfl) (Nat.le_of_ble_eq_true rfl)
  refine r_callV (k := ((0, 0) : Ky)) C hW hl lk_X10_141 (c_X10_needPerson hwf (gn_needPerson h2)) ⟨rfl, rfl⟩ ⟨Nat.le_of_ble_eq_true rfl, Nat.le_of_ble_eq_true rfl⟩ rfl rfl rfl (As := [.int v1]) (rest := []) rfl rfl (Nat.le_of_ble_eq_true rfl) dX10_treat_2 ⟨Nat.zero_le _, Nat.zero_le _⟩ (fun H locs hW => ?_)
  show W p l e (rma 10 220 1 6) s m args below meth c H locs 0 0 Q (F0 m 5 ls [])
  refine lv_aload_n hx hb dX10_treat_5 rfl (lv_at hl 0 rfl) ?_
  refine lv_iload_n hx hb dX10_treat_6 rfl (lv_at hl 2 rfl) ?_
  rcases xbO_of hf with ⟨h7, hf⟩ | ⟨h7, -⟩
  rotate_left
  · rw [hQ]
    exact r_callT (k := ((0, 0) : Ky)) C ht hU hN hk hW hl lk_X10_141 (cT_X10_needPerson hs hwf h7) ⟨Nat.le_of_ble_eq_true rfl, Nat.le_of_ble_eq_true rfl⟩ rfl rfl rfl (As := [.int v2]) (rest := []) rfl rfl (Nat.le_of_ble_eq_true rfl) dX10_treat_7 ⟨Nat.le_of_ble_eq_true rfl, Nat.le_of_ble_eq_true rfl⟩ (Nat.le_of_ble_eq_true rfl) (Nat.le_of_ble_eq_true rfl)
  refine r_callV (k := ((0, 0) : Ky)) C hW hl lk_X10_141 (c_X10_needPerson hwf (gn_needPerson h7)) ⟨rfl, rfl⟩ ⟨Nat.le_of_ble_eq_true rfl, Nat.le_of_ble_eq_true rfl⟩ rfl rfl rfl (As := [.int v2]) (rest := []) rfl rfl (Nat.le_of_ble_eq_true rfl) dX10_treat_7 ⟨Nat.zero_le _, Nat.zero_le _⟩ (fun H locs hW => ?_)
  show W p l e (rma 10 220 1 6) s m args below meth c H locs 0 0 Q (F0 m 10 ls [])
  refine lv_aload_n hx hb dX10_treat_10 rfl (lv_at hl 0 rfl) ?_
  refine lv_iload_n hx hb dX10_treat_11 rfl (lv_at hl 1 rfl) ?_
  refine lv_iload_n hx hb dX10_treat_12 rfl (lv_at hl 2 rfl) ?_
  rcases xbO_of hf with ⟨h13, hf⟩ | ⟨h13, -⟩
  rotate_left
  · rw [hQ]
    exact r_callT (k := ((0, 0) : Ky)) C ht hU hN hk hW hl lk_X10_194 (cT_X10_needTwo hs hwf h13) ⟨Nat.le_of_ble_eq_true rfl, Nat.le_of_ble_eq_true rfl⟩ rfl rfl rfl (As := [.int v1, .int v2]) (rest := []) rfl rfl (Nat.le_of_ble_eq_true rfl) dX10_treat_13 ⟨Nat.le_of_ble_eq_true rfl, Nat.le_of_ble_eq_true rfl⟩ (Nat.le_of_ble_eq_true rfl) (Nat.le_of_ble_eq_true rfl)
  refine r_callV (k := ((0, 0) : Ky)) C hW hl lk_X10_194 (c_X10_needTwo (gn_needTwo h13)) ⟨rfl, rfl⟩ ⟨Nat.le_of_ble_eq_true rfl, Nat.le_of_ble_eq_true rfl⟩ rfl rfl rfl (As := [.int v1, .int v2]) (rest := []) rfl rfl (Nat.le_of_ble_eq_true rfl) dX10_treat_13 ⟨Nat.zero_le _, Nat.zero_le _⟩ (fun H locs hW => ?_)
  show W p l e (rma 10 220 1 6) s m args below meth c H locs 0 0 Q (F0 m 16 ls [])
  refine lv_aload_n hx hb dX10_treat_16 rfl (lv_at hl 0 rfl) ?_
  refine lv_iload_n hx hb dX10_treat_17 rfl (lv_at hl 1 rfl) ?_
  refine lv_iload_n hx hb dX10_treat_18 rfl (lv_at hl 2 rfl) ?_
  rcases xbO_of hf with ⟨h19, hf⟩ | ⟨h19, -⟩
  rotate_left
  · rw [hQ]
    exact r_callT (k := ((0, 0) : Ky)) C ht hU hN hk hW hl lk_X10_198 (cT_X10_needSight hs hwf h19) ⟨Nat.le_of_ble_eq_true rfl, Nat.le_of_ble_eq_true rfl⟩ rfl rfl rfl (As := [.int v1, .int v2]) (rest := []) rfl rfl (Nat.le_of_ble_eq_true rfl) dX10_treat_19 ⟨Nat.le_of_ble_eq_true rfl, Nat.le_of_ble_eq_true rfl⟩ (Nat.le_of_ble_eq_true rfl) (Nat.le_of_ble_eq_true rfl)
  refine r_callV (k := ((0, 0) : Ky)) C hW hl lk_X10_198 (c_X10_needSight hwf (gn_needSight h19)) ⟨rfl, rfl⟩ ⟨Nat.le_of_ble_eq_true rfl, Nat.le_of_ble_eq_true rfl⟩ rfl rfl rfl (As := [.int v1, .int v2]) (rest := []) rfl rfl (Nat.le_of_ble_eq_true rfl) dX10_treat_19 ⟨Nat.zero_le _, Nat.zero_le _⟩ (fun H locs hW => ?_)
  show W p l e (rma 10 220 1 6) s m args below meth c H locs 0 0 Q (F0 m 22 ls [])
  exact (act_no hf).elim
set_option maxHeartbeats 4000000 in
set_option maxRecDepth 100000 in
theorem cT_X10_turn {l : Launch} {D : va_G} {tc : Nat → ClassId} {ro : Ro} {oa : Ky → Nat} {sh : Sh} {ln : Nat → Nat} {μ : Mm} {v1 v2 : Int32} {sh' : Sh} {lm' : Nat → Nat} {μ' : Mm} {kc ks : Nat} {cn : Nat} (hs : l.stackTraces = false) (hwf : WfS sh) (hf : g_X10_turn sh ln μ v1 v2 = some ((.inr cn, sh', lm', μ'), kc, ks)) : (sh = sh' ∧ ln = lm' ∧ μ = μ' ∧ 0 = kc ∧ 0 = ks) ∧ CtT l D tc ro oa yX10_turn cX10_turn 3 (some .int) (rma 10 220 1 6) [.ref (oa (0, 0)), .int v1, .int v2] sh ln μ cn ln μ := by
  have hq : sh = sh' ∧ ln = lm' ∧ μ = μ' ∧ 0 = kc ∧ 0 = ks := by
    have hf := hf
    unfold g_X10_turn at hf
    rcases xbO_of hf with ⟨-, hf⟩ | ⟨-, h⟩
    rotate_left
    · exact h
    rcases xbO_of hf with ⟨-, hf⟩ | ⟨-, h⟩
    rotate_left
    · exact h
    exact (act_no hf).elim
  refine ⟨hq, ?_⟩
  refine CtT.of (by decide) (Nat.le_of_ble_eq_true rfl) (fun aa p e s m args below meth c A C hr hk hW ht hU hN ls hl => ?_)
  have hx := C.1.1
  have hb := C.1.2.1
  obtain ⟨Q, hQ⟩ : ∃ Q, Q = vx_MQ below (fun _ _ _ _ => False) (XCt D tc oa sh cn ln μ A) args s (rma 10 220 1 6).cells (rma 10 220 1 6).slots A := ⟨_, rfl⟩
  rw [← hQ]
  have hl : lv_has ls 3 [(0, .ref (oa (0, 0))), (1, .int v1), (2, .int v2)] := hl
  unfold g_X10_turn at hf
  refine lv_aload_n hx hb dX10_turn_0 rfl (lv_at hl 0 rfl) ?_
  refine lv_iload_n hx hb dX10_turn_1 rfl (lv_at hl 1 rfl) ?_
  rcases xbO_of hf with ⟨h2, hf⟩ | ⟨h2, -⟩
  rotate_left
  · rw [hQ]
    exact r_callT (k := ((0, 0) : Ky)) C ht hU hN hk hW hl lk_X10_141 (cT_X10_needPerson hs hwf h2) ⟨Nat.le_of_ble_eq_true rfl, Nat.le_of_ble_eq_true rfl⟩ rfl rfl rfl (As := [.int v1]) (rest := []) rfl rfl (Nat.le_of_ble_eq_true rfl) dX10_turn_2 ⟨Nat.le_of_ble_eq_true rfl, Nat.le_of_ble_eq_true rfl⟩ (Nat.le_of_ble_eq_true rfl) (Nat.le_of_ble_eq_true rfl)
  refine r_callV (k := ((0, 0) : Ky)) C hW hl lk_X10_141 (c_X10_needPerson hwf (gn_needPerson h2)) ⟨rfl, rfl⟩ ⟨Nat.le_of_ble_eq_true rfl, Nat.le_of_ble_eq_true rfl⟩ rfl rfl rfl (As := [.int v1]) (rest := []) rfl rfl (Nat.le_of_ble_eq_true rfl) dX10_turn_2 ⟨Nat.zero_le _, Nat.zero_le _⟩ (fun H locs hW => ?_)
  show W p l e (rma 10 220 1 6) s m args below meth c H locs 0 0 Q (F0 m 5 ls [])
  refine lv_aload_n hx hb dX10_turn_5 rfl (lv_at hl 0 rfl) ?_
  refine lv_iload_n hx hb dX10_turn_6 rfl (lv_at hl 2 rfl) ?_
  rcases xbO_of hf with ⟨h7, hf⟩ | ⟨h7, -⟩
  rotate_left
  · rw [hQ]
    exact r_callT (k := ((0, 0) : Ky)) C ht hU hN hk hW hl lk_X10_141 (cT_X10_needPerson hs hwf h7) ⟨Nat.le_of_ble_eq_true rfl, Nat.le_of_ble_eq_true rfl⟩ rfl rfl rfl (As := [.int v2]) (rest := []) rfl rfl (Nat.le_of_ble_eq_true rfl) dX10_turn_7 ⟨Nat.le_of_ble_eq_true rfl, Nat.le_of_ble_eq_true rfl⟩ (Nat.le_of_ble_eq_true rfl) (Nat.le_of_ble_eq_true rfl)
  refine r_callV (k := ((0, 0) : Ky)) C hW hl lk_X10_141 (c_X10_needPerson hwf (gn_needPerson h7)) ⟨rfl, rfl⟩ ⟨Nat.le_of_ble_eq_true rfl, Nat.le_of_ble_eq_true rfl⟩ rfl rfl rfl (As := [.int v2]) (rest := []) rfl rfl (Nat.le_of_ble_eq_true rfl) dX10_turn_7 ⟨Nat.zero_le _, Nat.zero_le _⟩ (fun H locs hW => ?_)
  show W p l e (rma 10 220 1 6) s m args below meth c H locs 0 0 Q (F0 m 10 ls [])
  exact (act_no hf).elim
set_option maxHeartbeats 4000000 in
set_option maxRecDepth 100000 in
theorem cT_X10_ask {l : Launch} {D : va_G} {tc : Nat → ClassId} {ro : Ro} {oa : Ky → Nat} {sh : Sh} {ln : Nat → Nat} {μ : Mm} {v1 : Int32} {sh' : Sh} {lm' : Nat → Nat} {μ' : Mm} {kc ks : Nat} {cn : Nat} (hs : l.stackTraces = false) (hwf : WfS sh) (hf : g_X10_ask sh ln μ v1 = some ((.inr cn, sh', lm', μ'), kc, ks)) : (sh = sh' ∧ ln = lm' ∧ μ = μ' ∧ 0 = kc ∧ 0 = ks) ∧ CtT l D tc ro oa yX10_ask cX10_ask 2 (some .boolean) (rma 10 220 1 6) [.ref (oa (0, 0)), .int v1] sh ln μ cn ln μ := by
  have hq : sh = sh' ∧ ln = lm' ∧ μ = μ' ∧ 0 = kc ∧ 0 = ks := by
    have hf := hf
    unfold g_X10_ask at hf
    rcases xbO_of hf with ⟨-, hf⟩ | ⟨-, h⟩
    rotate_left
    · exact h
    exact (act_no hf).elim
  refine ⟨hq, ?_⟩
  refine CtT.of (by decide) (Nat.le_of_ble_eq_true rfl) (fun aa p e s m args below meth c A C hr hk hW ht hU hN ls hl => ?_)
  have hx := C.1.1
  have hb := C.1.2.1
  obtain ⟨Q, hQ⟩ : ∃ Q, Q = vx_MQ below (fun _ _ _ _ => False) (XCt D tc oa sh cn ln μ A) args s (rma 10 220 1 6).cells (rma 10 220 1 6).slots A := ⟨_, rfl⟩
  rw [← hQ]
  have hl : lv_has ls 2 [(0, .ref (oa (0, 0))), (1, .int v1)] := hl
  unfold g_X10_ask at hf
  refine lv_aload_n hx hb dX10_ask_0 rfl (lv_at hl 0 rfl) ?_
  refine lv_iload_n hx hb dX10_ask_1 rfl (lv_at hl 1 rfl) ?_
  rcases xbO_of hf with ⟨h2, hf⟩ | ⟨h2, -⟩
  rotate_left
  · rw [hQ]
    exact r_callT (k := ((0, 0) : Ky)) C ht hU hN hk hW hl lk_X10_141 (cT_X10_needPerson hs hwf h2) ⟨Nat.le_of_ble_eq_true rfl, Nat.le_of_ble_eq_true rfl⟩ rfl rfl rfl (As := [.int v1]) (rest := []) rfl rfl (Nat.le_of_ble_eq_true rfl) dX10_ask_2 ⟨Nat.le_of_ble_eq_true rfl, Nat.le_of_ble_eq_true rfl⟩ (Nat.le_of_ble_eq_true rfl) (Nat.le_of_ble_eq_true rfl)
  refine r_callV (k := ((0, 0) : Ky)) C hW hl lk_X10_141 (c_X10_needPerson hwf (gn_needPerson h2)) ⟨rfl, rfl⟩ ⟨Nat.le_of_ble_eq_true rfl, Nat.le_of_ble_eq_true rfl⟩ rfl rfl rfl (As := [.int v1]) (rest := []) rfl rfl (Nat.le_of_ble_eq_true rfl) dX10_ask_2 ⟨Nat.zero_le _, Nat.zero_le _⟩ (fun H locs hW => ?_)
  show W p l e (rma 10 220 1 6) s m args below meth c H locs 0 0 Q (F0 m 5 ls [])
  exact (act_no hf).elim
set_option maxHeartbeats 4000000 in
set_option maxRecDepth 100000 in
theorem cT_X10_read {l : Launch} {D : va_G} {tc : Nat → ClassId} {ro : Ro} {oa : Ky → Nat} {sh : Sh} {ln : Nat → Nat} {μ : Mm} {v1 : Int32} {sh' : Sh} {lm' : Nat → Nat} {μ' : Mm} {kc ks : Nat} {cn : Nat} (hs : l.stackTraces = false) (hwf : WfS sh) (hf : g_X10_read sh ln μ v1 = some ((.inr cn, sh', lm', μ'), kc, ks)) : (sh = sh' ∧ ln = lm' ∧ μ = μ' ∧ 0 = kc ∧ 0 = ks) ∧ CtT l D tc ro oa yX10_read cX10_read 2 (some .int) (rma 10 220 1 6) [.ref (oa (0, 0)), .int v1] sh ln μ cn ln μ := by
  have hq : sh = sh' ∧ ln = lm' ∧ μ = μ' ∧ 0 = kc ∧ 0 = ks := by
    have hf := hf
    unfold g_X10_read at hf
    rcases xbO_of hf with ⟨-, hf⟩ | ⟨-, h⟩
    rotate_left
    · exact h
    exact (act_no hf).elim
  refine ⟨hq, ?_⟩
  refine CtT.of (by decide) (Nat.le_of_ble_eq_true rfl) (fun aa p e s m args below meth c A C hr hk hW ht hU hN ls hl => ?_)
  have hx := C.1.1
  have hb := C.1.2.1
  obtain ⟨Q, hQ⟩ : ∃ Q, Q = vx_MQ below (fun _ _ _ _ => False) (XCt D tc oa sh cn ln μ A) args s (rma 10 220 1 6).cells (rma 10 220 1 6).slots A := ⟨_, rfl⟩
  rw [← hQ]
  have hl : lv_has ls 2 [(0, .ref (oa (0, 0))), (1, .int v1)] := hl
  unfold g_X10_read at hf
  refine lv_aload_n hx hb dX10_read_0 rfl (lv_at hl 0 rfl) ?_
  refine lv_iload_n hx hb dX10_read_1 rfl (lv_at hl 1 rfl) ?_
  rcases xbO_of hf with ⟨h2, hf⟩ | ⟨h2, -⟩
  rotate_left
  · rw [hQ]
    exact r_callT (k := ((0, 0) : Ky)) C ht hU hN hk hW hl lk_X10_141 (cT_X10_needPerson hs hwf h2) ⟨Nat.le_of_ble_eq_true rfl, Nat.le_of_ble_eq_true rfl⟩ rfl rfl rfl (As := [.int v1]) (rest := []) rfl rfl (Nat.le_of_ble_eq_true rfl) dX10_read_2 ⟨Nat.le_of_ble_eq_true rfl, Nat.le_of_ble_eq_true rfl⟩ (Nat.le_of_ble_eq_true rfl) (Nat.le_of_ble_eq_true rfl)
  refine r_callV (k := ((0, 0) : Ky)) C hW hl lk_X10_141 (c_X10_needPerson hwf (gn_needPerson h2)) ⟨rfl, rfl⟩ ⟨Nat.le_of_ble_eq_true rfl, Nat.le_of_ble_eq_true rfl⟩ rfl rfl rfl (As := [.int v1]) (rest := []) rfl rfl (Nat.le_of_ble_eq_true rfl) dX10_read_2 ⟨Nat.zero_le _, Nat.zero_le _⟩ (fun H locs hW => ?_)
  show W p l e (rma 10 220 1 6) s m args below meth c H locs 0 0 Q (F0 m 5 ls [])
  exact (act_no hf).elim
set_option maxHeartbeats 4000000 in
set_option maxRecDepth 100000 in
theorem cT_X10_query {l : Launch} {D : va_G} {tc : Nat → ClassId} {ro : Ro} {oa : Ky → Nat} {sh : Sh} {ln : Nat → Nat} {μ : Mm} {v1 v2 v3 : Int32} {sh' : Sh} {lm' : Nat → Nat} {μ' : Mm} {kc ks : Nat} {cn : Nat} (hs : l.stackTraces = false) (hwf : WfS sh) (hf : g_X10_query sh ln μ v1 v2 v3 = some ((.inr cn, sh', lm', μ'), kc, ks)) : (sh = sh' ∧ ln = lm' ∧ μ = μ' ∧ 0 = kc ∧ 0 = ks) ∧ CtT l D tc ro oa yX10_query cX10_query 4 (some .int) (rma 10 220 1 6) [.ref (oa (0, 0)), .int v1, .int v2, .int v3] sh ln μ cn ln μ := by
  have hq : sh = sh' ∧ ln = lm' ∧ μ = μ' ∧ 0 = kc ∧ 0 = ks := by
    have hf := hf
    unfold g_X10_query at hf
    rcases xbO_of hf with ⟨-, hf⟩ | ⟨-, h⟩
    rotate_left
    · exact h
    rcases xbO_of hf with ⟨-, hf⟩ | ⟨-, h⟩
    rotate_left
    · exact h
    rcases xbO_of hf with ⟨-, hf⟩ | ⟨-, h⟩
    rotate_left
    · exact h
    exact (act_no hf).elim
  refine ⟨hq, ?_⟩
  refine CtT.of (by decide) (Nat.le_of_ble_eq_true rfl) (fun aa p e s m args below meth c A C hr hk hW ht hU hN ls hl => ?_)
  have hx := C.1.1
  have hb := C.1.2.1
  obtain ⟨Q, hQ⟩ : ∃ Q, Q = vx_MQ below (fun _ _ _ _ => False) (XCt D tc oa sh cn ln μ A) args s (rma 10 220 1 6).cells (rma 10 220 1 6).slots A := ⟨_, rfl⟩
  rw [← hQ]
  have hl : lv_has ls 4 [(0, .ref (oa (0, 0))), (1, .int v1), (2, .int v2), (3, .int v3)] := hl
  unfold g_X10_query at hf
  refine lv_aload_n hx hb dX10_query_0 rfl (lv_at hl 0 rfl) ?_
  refine lv_iload_n hx hb dX10_query_1 rfl (lv_at hl 1 rfl) ?_
  rcases xbO_of hf with ⟨h2, hf⟩ | ⟨h2, -⟩
  rotate_left
  · rw [hQ]
    exact r_callT (k := ((0, 0) : Ky)) C ht hU hN hk hW hl lk_X10_141 (cT_X10_needPerson hs hwf h2) ⟨Nat.le_of_ble_eq_true rfl, Nat.le_of_ble_eq_true rfl⟩ rfl rfl rfl (As := [.int v1]) (rest := []) rfl rfl (Nat.le_of_ble_eq_true rfl) dX10_query_2 ⟨Nat.le_of_ble_eq_true rfl, Nat.le_of_ble_eq_true rfl⟩ (Nat.le_of_ble_eq_true rfl) (Nat.le_of_ble_eq_true rfl)
  refine r_callV (k := ((0, 0) : Ky)) C hW hl lk_X10_141 (c_X10_needPerson hwf (gn_needPerson h2)) ⟨rfl, rfl⟩ ⟨Nat.le_of_ble_eq_true rfl, Nat.le_of_ble_eq_true rfl⟩ rfl rfl rfl (As := [.int v1]) (rest := []) rfl rfl (Nat.le_of_ble_eq_true rfl) dX10_query_2 ⟨Nat.zero_le _, Nat.zero_le _⟩ (fun H locs hW => ?_)
  show W p l e (rma 10 220 1 6) s m args below meth c H locs 0 0 Q (F0 m 5 ls [])
  refine lv_aload_n hx hb dX10_query_5 rfl (lv_at hl 0 rfl) ?_
  refine lv_iload_n hx hb dX10_query_6 rfl (lv_at hl 2 rfl) ?_
  rcases xbO_of hf with ⟨h7, hf⟩ | ⟨h7, -⟩
  rotate_left
  · rw [hQ]
    exact r_callT (k := ((0, 0) : Ky)) C ht hU hN hk hW hl lk_X10_141 (cT_X10_needPerson hs hwf h7) ⟨Nat.le_of_ble_eq_true rfl, Nat.le_of_ble_eq_true rfl⟩ rfl rfl rfl (As := [.int v2]) (rest := []) rfl rfl (Nat.le_of_ble_eq_true rfl) dX10_query_7 ⟨Nat.le_of_ble_eq_true rfl, Nat.le_of_ble_eq_true rfl⟩ (Nat.le_of_ble_eq_true rfl) (Nat.le_of_ble_eq_true rfl)
  refine r_callV (k := ((0, 0) : Ky)) C hW hl lk_X10_141 (c_X10_needPerson hwf (gn_needPerson h7)) ⟨rfl, rfl⟩ ⟨Nat.le_of_ble_eq_true rfl, Nat.le_of_ble_eq_true rfl⟩ rfl rfl rfl (As := [.int v2]) (rest := []) rfl rfl (Nat.le_of_ble_eq_true rfl) dX10_query_7 ⟨Nat.zero_le _, Nat.zero_le _⟩ (fun H locs hW => ?_)
  show W p l e (rma 10 220 1 6) s m args below meth c H locs 0 0 Q (F0 m 10 ls [])
  refine lv_aload_n hx hb dX10_query_10 rfl (lv_at hl 0 rfl) ?_
  refine lv_iload_n hx hb dX10_query_11 rfl (lv_at hl 3 rfl) ?_
  rcases xbO_of hf with ⟨h12, hf⟩ | ⟨h12, -⟩
  rotate_left
  · rw [hQ]
    exact r_callT (k := ((0, 0) : Ky)) C ht hU hN hk hW hl lk_X10_230 (cT_X10_needNotice hs hwf h12) ⟨Nat.le_of_ble_eq_true rfl, Nat.le_of_ble_eq_true rfl⟩ rfl rfl rfl (As := [.int v3]) (rest := []) rfl rfl (Nat.le_of_ble_eq_true rfl) dX10_query_12 ⟨Nat.le_of_ble_eq_true rfl, Nat.le_of_ble_eq_true rfl⟩ (Nat.le_of_ble_eq_true rfl) (Nat.le_of_ble_eq_true rfl)
  refine r_callV (k := ((0, 0) : Ky)) C hW hl lk_X10_230 (c_X10_needNotice hwf (gn_needNotice h12)) ⟨rfl, rfl⟩ ⟨Nat.le_of_ble_eq_true rfl, Nat.le_of_ble_eq_true rfl⟩ rfl rfl rfl (As := [.int v3]) (rest := []) rfl rfl (Nat.le_of_ble_eq_true rfl) dX10_query_12 ⟨Nat.zero_le _, Nat.zero_le _⟩ (fun H locs hW => ?_)
  show W p l e (rma 10 220 1 6) s m args below meth c H locs 0 0 Q (F0 m 15 ls [])
  exact (act_no hf).elim
set_option maxHeartbeats 4000000 in
set_option maxRecDepth 100000 in
theorem cT_X10_stroll {l : Launch} {D : va_G} {tc : Nat → ClassId} {ro : Ro} {oa : Ky → Nat} {sh : Sh} {ln : Nat → Nat} {μ : Mm} {v1 : Int32} {sh' : Sh} {lm' : Nat → Nat} {μ' : Mm} {kc ks : Nat} {cn : Nat} (hs : l.stackTraces = false) (hwf : WfS sh) (hf : g_X10_stroll sh ln μ v1 = some ((.inr cn, sh', lm', μ'), kc, ks)) : (sh = sh' ∧ ln = lm' ∧ μ = μ' ∧ 0 = kc ∧ 0 = ks) ∧ CtT l D tc ro oa yX10_stroll cX10_stroll 2 (some .int) (rma 10 220 1 6) [.ref (oa (0, 0)), .int v1] sh ln μ cn ln μ := by
  have hq : sh = sh' ∧ ln = lm' ∧ μ = μ' ∧ 0 = kc ∧ 0 = ks := by
    have hf := hf
    unfold g_X10_stroll at hf
    rcases xbO_of hf with ⟨-, hf⟩ | ⟨-, h⟩
    rotate_left
    · exact h
    exact (act_no hf).elim
  refine ⟨hq, ?_⟩
  refine CtT.of (by decide) (Nat.le_of_ble_eq_true rfl) (fun aa p e s m args below meth c A C hr hk hW ht hU hN ls hl => ?_)
  have hx := C.1.1
  have hb := C.1.2.1
  obtain ⟨Q, hQ⟩ : ∃ Q, Q = vx_MQ below (fun _ _ _ _ => False) (XCt D tc oa sh cn ln μ A) args s (rma 10 220 1 6).cells (rma 10 220 1 6).slots A := ⟨_, rfl⟩
  rw [← hQ]
  have hl : lv_has ls 2 [(0, .ref (oa (0, 0))), (1, .int v1)] := hl
  unfold g_X10_stroll at hf
  refine lv_aload_n hx hb dX10_stroll_0 rfl (lv_at hl 0 rfl) ?_
  refine lv_iload_n hx hb dX10_stroll_1 rfl (lv_at hl 1 rfl) ?_
  refine lv_iconst (v := 1) hx hb dX10_stroll_2 (by decide) ?_
  refine lv_bipush (v := 30) hx hb dX10_stroll_3 (by decide) ?_
  rcases xbO_of hf with ⟨h5, hf⟩ | ⟨h5, -⟩
  rotate_left
  · rw [hQ]
    exact r_callT (k := ((0, 0) : Ky)) C ht hU hN hk hW hl lk_X10_233 (cT_X10_needNumber hs hwf h5) ⟨Nat.le_of_ble_eq_true rfl, Nat.le_of_ble_eq_true rfl⟩ rfl rfl rfl (As := [.int v1, .int (1 : Int32), .int (30 : Int32)]) (rest := []) rfl rfl (Nat.le_of_ble_eq_true rfl) dX10_stroll_5 ⟨Nat.le_of_ble_eq_true rfl, Nat.le_of_ble_eq_true rfl⟩ (Nat.le_of_ble_eq_true rfl) (Nat.le_of_ble_eq_true rfl)
  refine r_callV (k := ((0, 0) : Ky)) C hW hl lk_X10_233 (c_X10_needNumber (gn_needNumber h5)) ⟨rfl, rfl⟩ ⟨Nat.le_of_ble_eq_true rfl, Nat.le_of_ble_eq_true rfl⟩ rfl rfl rfl (As := [.int v1, .int (1 : Int32), .int (30 : Int32)]) (rest := []) rfl rfl (Nat.le_of_ble_eq_true rfl) dX10_stroll_5 ⟨Nat.zero_le _, Nat.zero_le _⟩ (fun H locs hW => ?_)
  show W p l e (rma 10 220 1 6) s m args below meth c H locs 0 0 Q (F0 m 8 ls [])
  exact (act_no hf).elim
set_option maxHeartbeats 4000000 in
set_option maxRecDepth 100000 in
theorem cT_X10_trial {l : Launch} {D : va_G} {tc : Nat → ClassId} {ro : Ro} {oa : Ky → Nat} {sh : Sh} {ln : Nat → Nat} {μ : Mm} {v1 : Int32} {sh' : Sh} {lm' : Nat → Nat} {μ' : Mm} {kc ks : Nat} {cn : Nat} (hs : l.stackTraces = false) (hwf : WfS sh) (hf : g_X10_trial sh ln μ v1 = some ((.inr cn, sh', lm', μ'), kc, ks)) : (sh = sh' ∧ ln = lm' ∧ μ = μ' ∧ 0 = kc ∧ 0 = ks) ∧ CtT l D tc ro oa yX10_trial cX10_trial 2 (some .int) (rma 10 220 1 6) [.ref (oa (0, 0)), .int v1] sh ln μ cn ln μ := by
  have hq : sh = sh' ∧ ln = lm' ∧ μ = μ' ∧ 0 = kc ∧ 0 = ks := by
    have hf := hf
    unfold g_X10_trial at hf
    rcases xbO_of hf with ⟨-, hf⟩ | ⟨-, h⟩
    rotate_left
    · exact h
    exact (lfA_no hf).elim
  refine ⟨hq, ?_⟩
  refine CtT.of (by decide) (Nat.le_of_ble_eq_true rfl) (fun aa p e s m args below meth c A C hr hk hW ht hU hN ls hl => ?_)
  have hx := C.1.1
  have hb := C.1.2.1
  obtain ⟨Q, hQ⟩ : ∃ Q, Q = vx_MQ below (fun _ _ _ _ => False) (XCt D tc oa sh cn ln μ A) args s (rma 10 220 1 6).cells (rma 10 220 1 6).slots A := ⟨_, rfl⟩
  rw [← hQ]
  have hl : lv_has ls 2 [(0, .ref (oa (0, 0))), (1, .int v1)] := hl
  unfold g_X10_trial at hf
  refine lv_aload_n hx hb dX10_trial_0 rfl (lv_at hl 0 rfl) ?_
  refine lv_iload_n hx hb dX10_trial_1 rfl (lv_at hl 1 rfl) ?_
  refine lv_iconst (v := 0) hx hb dX10_trial_2 (by decide) ?_
  refine lv_bipush (v := 30) hx hb dX10_trial_3 (by decide) ?_
  rcases xbO_of hf with ⟨h5, hf⟩ | ⟨h5, -⟩
  rotate_left
  · rw [hQ]
    exact r_callT (k := ((0, 0) : Ky)) C ht hU hN hk hW hl lk_X10_233 (cT_X10_needNumber hs hwf h5) ⟨Nat.le_of_ble_eq_true rfl, Nat.le_of_ble_eq_true rfl⟩ rfl rfl rfl (As := [.int v1, .int (0 : Int32), .int (30 : Int32)]) (rest := []) rfl rfl (Nat.le_of_ble_eq_true rfl) dX10_trial_5 ⟨Nat.le_of_ble_eq_true rfl, Nat.le_of_ble_eq_true rfl⟩ (Nat.le_of_ble_eq_true rfl) (Nat.le_of_ble_eq_true rfl)
  refine r_callV (k := ((0, 0) : Ky)) C hW hl lk_X10_233 (c_X10_needNumber (gn_needNumber h5)) ⟨rfl, rfl⟩ ⟨Nat.le_of_ble_eq_true rfl, Nat.le_of_ble_eq_true rfl⟩ rfl rfl rfl (As := [.int v1, .int (0 : Int32), .int (30 : Int32)]) (rest := []) rfl rfl (Nat.le_of_ble_eq_true rfl) dX10_trial_5 ⟨Nat.zero_le _, Nat.zero_le _⟩ (fun H locs hW => ?_)
  show W p l e (rma 10 220 1 6) s m args below meth c H locs 0 0 Q (F0 m 8 ls [])
  exact (lfA_no hf).elim
set_option maxHeartbeats 4000000 in
set_option maxRecDepth 100000 in
theorem cT_X10_span {l : Launch} {D : va_G} {tc : Nat → ClassId} {ro : Ro} {oa : Ky → Nat} {sh : Sh} {ln : Nat → Nat} {μ : Mm} {v1 v2 : Int32} {sh' : Sh} {lm' : Nat → Nat} {μ' : Mm} {kc ks : Nat} {cn : Nat} (hs : l.stackTraces = false) (hwf : WfS sh) (hf : g_X10_span sh ln μ v1 v2 = some ((.inr cn, sh', lm', μ'), kc, ks)) : (sh = sh' ∧ ln = lm' ∧ μ = μ' ∧ 0 = kc ∧ 0 = ks) ∧ CtT l D tc ro oa yX10_span cX10_span 6 (some .int) (rma 10 220 1 6) [.ref (oa (0, 0)), .int v1, .int v2] sh ln μ cn ln μ := by
  have hq : sh = sh' ∧ ln = lm' ∧ μ = μ' ∧ 0 = kc ∧ 0 = ks := by
    have hf := hf
    unfold g_X10_span at hf
    rcases xbO_of hf with ⟨-, hf⟩ | ⟨-, h⟩
    rotate_left
    · exact h
    exact (lfA_no hf).elim
  refine ⟨hq, ?_⟩
  refine CtT.of (by decide) (Nat.le_of_ble_eq_true rfl) (fun aa p e s m args below meth c A C hr hk hW ht hU hN ls hl => ?_)
  have hx := C.1.1
  have hb := C.1.2.1
  obtain ⟨Q, hQ⟩ : ∃ Q, Q = vx_MQ below (fun _ _ _ _ => False) (XCt D tc oa sh cn ln μ A) args s (rma 10 220 1 6).cells (rma 10 220 1 6).slots A := ⟨_, rfl⟩
  rw [← hQ]
  have hl : lv_has ls 6 [(0, .ref (oa (0, 0))), (1, .int v1), (2, .int v2)] := hl
  unfold g_X10_span at hf
  refine lv_aload_n hx hb dX10_span_0 rfl (lv_at hl 0 rfl) ?_
  refine lv_iload_n hx hb dX10_span_1 rfl (lv_at hl 1 rfl) ?_
  refine lv_iconst (v := 0) hx hb dX10_span_2 (by decide) ?_
  refine lv_bipush (v := 30) hx hb dX10_span_3 (by decide) ?_
  rcases xbO_of hf with ⟨h5, hf⟩ | ⟨h5, -⟩
  rotate_left
  · rw [hQ]
    exact r_callT (k := ((0, 0) : Ky)) C ht hU hN hk hW hl lk_X10_233 (cT_X10_needNumber hs hwf h5) ⟨Nat.le_of_ble_eq_true rfl, Nat.le_of_ble_eq_true rfl⟩ rfl rfl rfl (As := [.int v1, .int (0 : Int32), .int (30 : Int32)]) (rest := []) rfl rfl (Nat.le_of_ble_eq_true rfl) dX10_span_5 ⟨Nat.le_of_ble_eq_true rfl, Nat.le_of_ble_eq_true rfl⟩ (Nat.le_of_ble_eq_true rfl) (Nat.le_of_ble_eq_true rfl)
  refine r_callV (k := ((0, 0) : Ky)) C hW hl lk_X10_233 (c_X10_needNumber (gn_needNumber h5)) ⟨rfl, rfl⟩ ⟨Nat.le_of_ble_eq_true rfl, Nat.le_of_ble_eq_true rfl⟩ rfl rfl rfl (As := [.int v1, .int (0 : Int32), .int (30 : Int32)]) (rest := []) rfl rfl (Nat.le_of_ble_eq_true rfl) dX10_span_5 ⟨Nat.zero_le _, Nat.zero_le _⟩ (fun H locs hW => ?_)
  show W p l e (rma 10 220 1 6) s m args below meth c H locs 0 0 Q (F0 m 8 ls [])
  exact (lfA_no hf).elim
set_option maxHeartbeats 4000000 in
set_option maxRecDepth 100000 in
theorem cT_X10_person {l : Launch} {D : va_G} {tc : Nat → ClassId} {ro : Ro} {oa : Ky → Nat} {sh : Sh} {ln : Nat → Nat} {μ : Mm} {v1 v2 : Int32} {μ' : Mm} {cn : Nat} (hs : l.stackTraces = false) (hwf : WfS sh) (hf : g_X10_person sh ln μ v1 v2 = some (.inr cn, μ')) : CtT l D tc ro oa yX10_person cX10_person 3 (some .int) (rma 10 220 1 6) [.ref (oa (0, 0)), .int v1, .int v2] sh ln μ cn ln μ' := by
  refine CtT.of (by decide) (Nat.le_of_ble_eq_true rfl) (fun aa p e s m args below meth c A C hr hk hW ht hU hN ls hl => ?_)
  have hx := C.1.1
  have hb := C.1.2.1
  obtain ⟨Q, hQ⟩ : ∃ Q, Q = vx_MQ below (fun _ _ _ _ => False) (XCt D tc oa sh cn ln μ' A) args s (rma 10 220 1 6).cells (rma 10 220 1 6).slots A := ⟨_, rfl⟩
  rw [← hQ]
  have hl : lv_has ls 3 [(0, .ref (oa (0, 0))), (1, .int v1), (2, .int v2)] := hl
  unfold g_X10_person at hf
  refine lv_aload_n hx hb dX10_person_0 rfl (lv_at hl 0 rfl) ?_
  refine lv_iload_n hx hb dX10_person_1 rfl (lv_at hl 1 rfl) ?_
  rcases xb_of hf with ⟨h2, hf⟩ | ⟨h2, e2⟩
  rotate_left
  · subst e2; rw [hQ]
    exact r_callT (k := ((0, 0) : Ky)) C ht hU hN hk hW hl lk_X10_141 (cT_X10_needPerson hs hwf h2) ⟨Nat.le_of_ble_eq_true rfl, Nat.le_of_ble_eq_true rfl⟩ rfl rfl rfl (As := [.int v1]) (rest := []) rfl rfl (Nat.le_of_ble_eq_true rfl) dX10_person_2 ⟨Nat.le_of_ble_eq_true rfl, Nat.le_of_ble_eq_true rfl⟩ (Nat.le_of_ble_eq_true rfl) (Nat.le_of_ble_eq_true rfl)
  refine r_callV (k := ((0, 0) : Ky)) C hW hl lk_X10_141 (c_X10_needPerson hwf (gn_needPerson h2)) ⟨rfl, rfl⟩ ⟨Nat.le_of_ble_eq_true rfl, Nat.le_of_ble_eq_true rfl⟩ rfl rfl rfl (As := [.int v1]) (rest := []) rfl rfl (Nat.le_of_ble_eq_true rfl) dX10_person_2 ⟨Nat.zero_le _, Nat.zero_le _⟩ (fun H locs hW => ?_)
  show W p l e (rma 10 220 1 6) s m args below meth c H locs 0 0 Q (F0 m 5 ls [])
  refine lv_iload_n hx hb dX10_person_5 rfl (lv_at hl 2 rfl) ?_
  by_cases c2 : v2 = (0 : Int32)
  · have hf := (if_pos c2).symm.trans hf
    refine lv_tableIn (off := 38) (tgt := 44) hx hb dX10_person_6 (by rw [c2]; decide) (by rw [c2]; decide) (by rw [c2]; rfl) (by decide) ?_
    refine lv_aload_n hx hb dX10_person_44 rfl (lv_at hl 0 rfl) ?_
    refine gf_X10_60 C hW dX10_person_45 ?_
    obtain ⟨hq3, hf⟩ := ce_of hf
    refine lv_aload_n hx hb dX10_person_48 rfl (lv_at hl 0 rfl) ?_
    refine gf_X10_60 C hW dX10_person_49 ?_
    obtain ⟨hq4, hf⟩ := ce_of hf
    refine gf_X10_144 C hW hq4 dX10_person_52 ?_
    refine lv_iload_n hx hb dX10_person_55 rfl (lv_at hl 1 rfl) ?_
    obtain ⟨x56, h56, hf⟩ := bd_of hf
    refine r_callV (k := ((13, (μ (0, 0) 9).toNatClampNeg) : Ky)) C hW hl lk_X10_147 (c_X6_figure hwf hq3 h56) ⟨rfl, rfl⟩ ⟨Nat.le_of_ble_eq_true rfl, Nat.le_of_ble_eq_true rfl⟩ rfl (faB_13 hq3) rfl (As := [.int (μ (13, (μ (0, 0) 9).toNatClampNeg) 3), .int v1]) (rest := []) rfl rfl (Nat.le_of_ble_eq_true rfl) dX10_person_56 ⟨Nat.zero_le _, Nat.zero_le _⟩ (fun H locs hW => ?_)
    show W p l e (rma 10 220 1 6) s m args below meth c H locs 0 0 Q (F0 m 59 ls [.int x56])
    cases hf
  · have hf := (if_neg c2).symm.trans hf
    have n2 := lv_neT c2 (a := 0) (by decide)
    by_cases c5 : v2 = (1 : Int32)
    · have hf := (if_pos c5).symm.trans hf
      refine lv_tableIn (off := 54) (tgt := 60) hx hb dX10_person_6 (by rw [c5]; decide) (by rw [c5]; decide) (by rw [c5]; rfl) (by decide) ?_
      refine lv_aload_n hx hb dX10_person_60 rfl (lv_at hl 0 rfl) ?_
      refine gf_X10_60 C hW dX10_person_61 ?_
      obtain ⟨hq6, hf⟩ := ce_of hf
      refine gf_X10_151 C hW hq6 dX10_person_64 ?_
      refine lv_iload_n hx hb dX10_person_67 rfl (lv_at hl 1 rfl) ?_
      obtain ⟨x68, h68, hf⟩ := bd_of hf
      refine r_callV (k := ((11, 15 + 5 * ((μ (0, 0) 9).toNatClampNeg) + 1) : Ky)) C hW hl lk_X10_155 (c_X1_at hwf (cex_st hq6 (by decide)) h68) ⟨rfl, rfl⟩ ⟨Nat.le_of_ble_eq_true rfl, Nat.le_of_ble_eq_true rfl⟩ rfl (faB_11 (cex_st hq6 (by decide))) rfl (As := [.int v1]) (rest := []) rfl rfl (Nat.le_of_ble_eq_true rfl) dX10_person_68 ⟨Nat.zero_le _, Nat.zero_le _⟩ (fun H locs hW => ?_)
      show W p l e (rma 10 220 1 6) s m args below meth c H locs 0 0 Q (F0 m 71 ls [.int x68])
      cases hf
    · have hf := (if_neg c5).symm.trans hf
      have n5 := lv_neT c5 (a := 1) (by decide)
      by_cases c7 : v2 = (2 : Int32)
      · have hf := (if_pos c7).symm.trans hf
        refine lv_tableIn (off := 66) (tgt := 72) hx hb dX10_person_6 (by rw [c7]; decide) (by rw [c7]; decide) (by rw [c7]; rfl) (by decide) ?_
        refine lv_aload_n hx hb dX10_person_72 rfl (lv_at hl 0 rfl) ?_
        refine gf_X10_60 C hW dX10_person_73 ?_
        obtain ⟨hq8, hf⟩ := ce_of hf
        refine lv_iload_n hx hb dX10_person_76 rfl (lv_at hl 1 rfl) ?_
        obtain ⟨x77, h77, hf⟩ := bd_of hf
        refine r_callV (k := ((13, (μ (0, 0) 9).toNatClampNeg) : Ky)) C hW hl lk_X10_160 (c_X6_seers hwf hq8 h77) ⟨rfl, rfl⟩ ⟨Nat.le_of_ble_eq_true rfl, Nat.le_of_ble_eq_true rfl⟩ rfl (faB_13 hq8) rfl (As := [.int v1]) (rest := []) rfl rfl (Nat.le_of_ble_eq_true rfl) dX10_person_77 ⟨Nat.zero_le _, Nat.zero_le _⟩ (fun H locs hW => ?_)
        show W p l e (rma 10 220 1 6) s m args below meth c H locs 0 0 Q (F0 m 80 ls [.int x77])
        cases hf
      · have hf := (if_neg c7).symm.trans hf
        have n7 := lv_neT c7 (a := 2) (by decide)
        by_cases c9 : v2 = (3 : Int32)
        · have hf := (if_pos c9).symm.trans hf
          refine lv_tableIn (off := 75) (tgt := 81) hx hb dX10_person_6 (by rw [c9]; decide) (by rw [c9]; decide) (by rw [c9]; rfl) (by decide) ?_
          refine lv_aload_n hx hb dX10_person_81 rfl (lv_at hl 0 rfl) ?_
          refine gf_X10_19 C hW dX10_person_82 ?_
          refine lv_aload_n hx hb dX10_person_85 rfl (lv_at hl 0 rfl) ?_
          refine gf_X10_60 C hW dX10_person_86 ?_
          obtain ⟨hq10, hf⟩ := ce_of hf
          refine lv_aload_n hx hb dX10_person_89 rfl (lv_at hl 0 rfl) ?_
          refine gf_X10_60 C hW dX10_person_90 ?_
          obtain ⟨hq11, hf⟩ := ce_of hf
          refine gf_X10_163 C hW hq11 dX10_person_93 ?_
          refine lv_iload_n hx hb dX10_person_96 rfl (lv_at hl 1 rfl) ?_
          refine lv_aload_n hx hb dX10_person_97 rfl (lv_at hl 0 rfl) ?_
          refine gf_X10_60 C hW dX10_person_98 ?_
          obtain ⟨hq12, hf⟩ := ce_of hf
          refine gf_X10_144 C hW hq12 dX10_person_101 ?_
          obtain ⟨x104, h104, hf⟩ := bd_of hf
          refine r_callV (k := ((3, 0) : Ky)) C hW hl lk_X10_166 (c_X4_isSure hwf hq10 (cex_st hq11 (by decide)) h104) ⟨rfl, rfl⟩ ⟨Nat.le_of_ble_eq_true rfl, Nat.le_of_ble_eq_true rfl⟩ rfl rfl rfl (As := [.ref (oa (13, (μ (0, 0) 9).toNatClampNeg)), .ref (oa (11, 15 + 5 * ((μ (0, 0) 9).toNatClampNeg) + 2)), .int v1, .int (μ (13, (μ (0, 0) 9).toNatClampNeg) 3)]) (rest := []) rfl rfl (Nat.le_of_ble_eq_true rfl) dX10_person_104 ⟨Nat.zero_le _, Nat.zero_le _⟩ (fun H locs hW => ?_)
          show W p l e (rma 10 220 1 6) s m args below meth c H locs 0 0 Q (F0 m 107 ls [.int x104])
          refine lv_if_eq (tgt := 114) hx hb dX10_person_107 (by decide) (fun c13 => ?_) (fun c13 => ?_)
          · have hf := (if_pos c13).symm.trans hf
            refine lv_iconst (v := 0) hx hb dX10_person_114 (by decide) ?_
            cases hf
          · have hf := (if_neg c13).symm.trans hf
            refine lv_iconst (v := 1) hx hb dX10_person_110 (by decide) ?_
            refine lv_goto (tgt := 115) hx hb dX10_person_111 (by decide) ?_
            cases hf
        · have hf := (if_neg c9).symm.trans hf
          have n9 := lv_neT c9 (a := 3) (by decide)
          by_cases c14 : v2 = (4 : Int32)
          · have hf := (if_pos c14).symm.trans hf
            refine lv_tableIn (off := 110) (tgt := 116) hx hb dX10_person_6 (by rw [c14]; decide) (by rw [c14]; decide) (by rw [c14]; rfl) (by decide) ?_
            refine lv_aload_n hx hb dX10_person_116 rfl (lv_at hl 0 rfl) ?_
            refine gf_X10_19 C hW dX10_person_117 ?_
            refine lv_aload_n hx hb dX10_person_120 rfl (lv_at hl 0 rfl) ?_
            refine gf_X10_60 C hW dX10_person_121 ?_
            obtain ⟨hq15, hf⟩ := ce_of hf
            refine lv_iload_n hx hb dX10_person_124 rfl (lv_at hl 1 rfl) ?_
            obtain ⟨x125, h125, hf⟩ := bd_of hf
            refine r_callV (k := ((3, 0) : Ky)) C hW hl lk_X10_170 (c_X4_holds hwf hq15 h125) ⟨rfl, rfl⟩ ⟨Nat.le_of_ble_eq_true rfl, Nat.le_of_ble_eq_true rfl⟩ rfl rfl rfl (As := [.ref (oa (13, (μ (0, 0) 9).toNatClampNeg)), .int v1]) (rest := []) rfl rfl (Nat.le_of_ble_eq_true rfl) dX10_person_125 ⟨Nat.zero_le _, Nat.zero_le _⟩ (fun H locs hW => ?_)
            show W p l e (rma 10 220 1 6) s m args below meth c H locs 0 0 Q (F0 m 128 ls [.int x125])
            cases hf
          · have hf := (if_neg c14).symm.trans hf
            have n14 := lv_neT c14 (a := 4) (by decide)
            by_cases c16 : v2 = (5 : Int32)
            · have hf := (if_pos c16).symm.trans hf
              refine lv_tableIn (off := 123) (tgt := 129) hx hb dX10_person_6 (by rw [c16]; decide) (by rw [c16]; decide) (by rw [c16]; rfl) (by decide) ?_
              refine lv_aload_n hx hb dX10_person_129 rfl (lv_at hl 0 rfl) ?_
              refine gf_X10_19 C hW dX10_person_130 ?_
              refine lv_aload_n hx hb dX10_person_133 rfl (lv_at hl 0 rfl) ?_
              refine gf_X10_60 C hW dX10_person_134 ?_
              obtain ⟨hq17, hf⟩ := ce_of hf
              refine lv_iload_n hx hb dX10_person_137 rfl (lv_at hl 1 rfl) ?_
              obtain ⟨x138, h138, hf⟩ := bd_of hf
              refine r_callV (k := ((3, 0) : Ky)) C hW hl lk_X10_174 (c_X4_knownBits hwf hq17 h138) ⟨rfl, rfl⟩ ⟨Nat.le_of_ble_eq_true rfl, Nat.le_of_ble_eq_true rfl⟩ rfl rfl rfl (As := [.ref (oa (13, (μ (0, 0) 9).toNatClampNeg)), .int v1]) (rest := []) rfl rfl (Nat.le_of_ble_eq_true rfl) dX10_person_138 ⟨Nat.zero_le _, Nat.zero_le _⟩ (fun H locs hW => ?_)
              show W p l e (rma 10 220 1 6) s m args below meth c H locs 0 0 Q (F0 m 141 ls [.int x138])
              cases hf
            · have hf := (if_neg c16).symm.trans hf
              have n16 := lv_neT c16 (a := 5) (by decide)
              refine lv_tableOut (tgt := 142) hx hb dX10_person_6 (by omega) (by decide) ?_
              obtain ⟨rfl, rfl⟩ : 2 = cn ∧ μ = μ' := by cases hf; exact ⟨rfl, rfl⟩
              rw [hQ]
              exact r_throw (np := 148) (sa := ro.1 28) (cn := 2) (E := "java/util/NoSuchElementException") (Y0 := "java/lang/RuntimeException") (names := ["java/lang/Exception"]) (text := "there is no such thing to be told of a person") C hs ht hU hN hk hW hl rfl exw_2 exd_2 (by decide) (by decide) (by decide) (C.2.2.2.1 ("BackVillage", 179, "there is no such thing to be told of a person", 28) mr_179) dX10_person_142 dX10_person_145 (Or.inl ⟨dX10_person_146, rfl⟩) dX10_person_148 dX10_person_151 (Nat.le_of_ble_eq_true rfl) (Nat.le_of_ble_eq_true rfl) (Nat.le_of_ble_eq_true rfl) (Nat.le_of_ble_eq_true rfl) (Nat.le_of_ble_eq_true rfl) (Nat.le_of_ble_eq_true rfl)
set_option maxHeartbeats 4000000 in
set_option maxRecDepth 100000 in
theorem cT_X10_claim {l : Launch} {D : va_G} {tc : Nat → ClassId} {ro : Ro} {oa : Ky → Nat} {sh : Sh} {ln : Nat → Nat} {μ : Mm} {v1 v2 : Int32} {sh' : Sh} {lm' : Nat → Nat} {μ' : Mm} {kc ks : Nat} {cn : Nat} (hs : l.stackTraces = false) (hwf : WfS sh) (hf : g_X10_claim sh ln μ v1 v2 = some ((.inr cn, sh', lm', μ'), kc, ks)) : (sh = sh' ∧ ln = lm' ∧ μ = μ' ∧ 0 = kc ∧ 0 = ks) ∧ CtT l D tc ro oa yX10_claim cX10_claim 3 (some .int) (rma 10 220 1 6) [.ref (oa (0, 0)), .int v1, .int v2] sh ln μ cn ln μ := by
  have hq : sh = sh' ∧ ln = lm' ∧ μ = μ' ∧ 0 = kc ∧ 0 = ks := by
    have hf := hf
    unfold g_X10_claim at hf
    rcases xbO_of hf with ⟨-, hf⟩ | ⟨-, h⟩
    rotate_left
    · exact h
    rcases xbO_of hf with ⟨-, hf⟩ | ⟨-, h⟩
    rotate_left
    · exact h
    obtain ⟨-, hf⟩ := ce_of hf
    obtain ⟨x, -, hf⟩ := bd_of hf
    by_cases cx : v1 ≤ x
    · rw [if_pos cx] at hf; exact (act_no hf).elim
    · rw [if_neg cx] at hf; cases hf; exact ⟨rfl, rfl, rfl, rfl, rfl⟩
  refine ⟨hq, ?_⟩
  refine CtT.of (by decide) (Nat.le_of_ble_eq_true rfl) (fun aa p e s m args below meth c A C hr hk hW ht hU hN ls hl => ?_)
  have hx := C.1.1
  have hb := C.1.2.1
  obtain ⟨Q, hQ⟩ : ∃ Q, Q = vx_MQ below (fun _ _ _ _ => False) (XCt D tc oa sh cn ln μ A) args s (rma 10 220 1 6).cells (rma 10 220 1 6).slots A := ⟨_, rfl⟩
  rw [← hQ]
  have hl : lv_has ls 3 [(0, .ref (oa (0, 0))), (1, .int v1), (2, .int v2)] := hl
  unfold g_X10_claim at hf
  refine lv_aload_n hx hb dX10_claim_0 rfl (lv_at hl 0 rfl) ?_
  refine lv_iload_n hx hb dX10_claim_1 rfl (lv_at hl 2 rfl) ?_
  rcases xbO_of hf with ⟨h2, hf⟩ | ⟨h2, -⟩
  rotate_left
  · rw [hQ]
    exact r_callT (k := ((0, 0) : Ky)) C ht hU hN hk hW hl lk_X10_230 (cT_X10_needNotice hs hwf h2) ⟨Nat.le_of_ble_eq_true rfl, Nat.le_of_ble_eq_true rfl⟩ rfl rfl rfl (As := [.int v2]) (rest := []) rfl rfl (Nat.le_of_ble_eq_true rfl) dX10_claim_2 ⟨Nat.le_of_ble_eq_true rfl, Nat.le_of_ble_eq_true rfl⟩ (Nat.le_of_ble_eq_true rfl) (Nat.le_of_ble_eq_true rfl)
  refine r_callV (k := ((0, 0) : Ky)) C hW hl lk_X10_230 (c_X10_needNotice hwf (gn_needNotice h2)) ⟨rfl, rfl⟩ ⟨Nat.le_of_ble_eq_true rfl, Nat.le_of_ble_eq_true rfl⟩ rfl rfl rfl (As := [.int v2]) (rest := []) rfl rfl (Nat.le_of_ble_eq_true rfl) dX10_claim_2 ⟨Nat.zero_le _, Nat.zero_le _⟩ (fun H locs hW => ?_)
  show W p l e (rma 10 220 1 6) s m args below meth c H locs 0 0 Q (F0 m 5 ls [])
  refine lv_aload_n hx hb dX10_claim_5 rfl (lv_at hl 0 rfl) ?_
  refine lv_iload_n hx hb dX10_claim_6 rfl (lv_at hl 1 rfl) ?_
  refine lv_iconst (v := 0) hx hb dX10_claim_7 (by decide) ?_
  refine lv_bipush (v := 9) hx hb dX10_claim_8 (by decide) ?_
  rcases xbO_of hf with ⟨h10, hf⟩ | ⟨h10, -⟩
  rotate_left
  · rw [hQ]
    exact r_callT (k := ((0, 0) : Ky)) C ht hU hN hk hW hl lk_X10_233 (cT_X10_needNumber hs hwf h10) ⟨Nat.le_of_ble_eq_true rfl, Nat.le_of_ble_eq_true rfl⟩ rfl rfl rfl (As := [.int v1, .int (0 : Int32), .int (9 : Int32)]) (rest := []) rfl rfl (Nat.le_of_ble_eq_true rfl) dX10_claim_10 ⟨Nat.le_of_ble_eq_true rfl, Nat.le_of_ble_eq_true rfl⟩ (Nat.le_of_ble_eq_true rfl) (Nat.le_of_ble_eq_true rfl)
  refine r_callV (k := ((0, 0) : Ky)) C hW hl lk_X10_233 (c_X10_needNumber (gn_needNumber h10)) ⟨rfl, rfl⟩ ⟨Nat.le_of_ble_eq_true rfl, Nat.le_of_ble_eq_true rfl⟩ rfl rfl rfl (As := [.int v1, .int (0 : Int32), .int (9 : Int32)]) (rest := []) rfl rfl (Nat.le_of_ble_eq_true rfl) dX10_claim_10 ⟨Nat.zero_le _, Nat.zero_le _⟩ (fun H locs hW => ?_)
  show W p l e (rma 10 220 1 6) s m args below meth c H locs 0 0 Q (F0 m 13 ls [])
  refine lv_aload_n hx hb dX10_claim_13 rfl (lv_at hl 0 rfl) ?_
  refine gf_X10_60 C hW dX10_claim_14 ?_
  obtain ⟨hq1, hf⟩ := ce_of hf
  refine lv_aload_n hx hb dX10_claim_17 rfl (lv_at hl 0 rfl) ?_
  refine gf_X10_60 C hW dX10_claim_18 ?_
  have hq2 := hq1
  refine gf_X10_144 C hW hq2 dX10_claim_21 ?_
  refine lv_iload_n hx hb dX10_claim_24 rfl (lv_at hl 2 rfl) ?_
  obtain ⟨x25, h25, hf⟩ := bd_of hf
  refine r_callV (k := ((13, (μ (0, 0) 9).toNatClampNeg) : Ky)) C hW hl lk_X10_237 (c_X6_many hwf hq1 h25) ⟨rfl, rfl⟩ ⟨Nat.le_of_ble_eq_true rfl, Nat.le_of_ble_eq_true rfl⟩ rfl (faB_13 hq1) rfl (As := [.int (μ (13, (μ (0, 0) 9).toNatClampNeg) 3), .int v2]) (rest := []) rfl rfl (Nat.le_of_ble_eq_true rfl) dX10_claim_25 ⟨Nat.zero_le _, Nat.zero_le _⟩ (fun H locs hW => ?_)
  show W p l e (rma 10 220 1 6) s m args below meth c H locs 0 0 Q (F0 m 28 ls [.int x25])
  refine lv_iload_n hx hb dX10_claim_28 rfl (lv_at hl 1 rfl) ?_
  refine lv_icmp_ge (tgt := 42) hx hb dX10_claim_29 (by decide) (fun c3 => ?_) (fun c3 => ?_)
  · have hf := (if_pos c3).symm.trans hf
    exact (act_no hf).elim
  · have hf := (if_neg c3).symm.trans hf
    obtain rfl : 4 = cn := by cases hf; rfl
    rw [hQ]
    exact r_throw (np := 38) (sa := ro.1 35) (cn := 4) (E := "java/lang/IllegalStateException") (Y0 := "java/lang/RuntimeException") (names := ["java/lang/Exception"]) (text := "so many do not have it") C hs ht hU hN hk hW hl rfl exw_4 exd_4 (by decide) (by decide) (by decide) (C.2.2.2.1 ("BackVillage", 242, "so many do not have it", 35) mr_242) dX10_claim_32 dX10_claim_35 (Or.inl ⟨dX10_claim_36, rfl⟩) dX10_claim_38 dX10_claim_41 (Nat.le_of_ble_eq_true rfl) (Nat.le_of_ble_eq_true rfl) (Nat.le_of_ble_eq_true rfl) (Nat.le_of_ble_eq_true rfl) (Nat.le_of_ble_eq_true rfl) (Nat.le_of_ble_eq_true rfl)
