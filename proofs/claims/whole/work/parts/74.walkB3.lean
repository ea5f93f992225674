set_option maxHeartbeats 4000000 in
set_option maxRecDepth 100000 in
theorem c_X4_bestIn {l : Launch} {D : va_G} {tc : Nat → ClassId} {ro : Ro} {oa : Ky → Nat} {aa : Nat → Nat} {sh : Sh} {ln : Nat → Nat} {j1 : Nat} {μ : Mm} {v2 v3 : Int32} {res : Int32} (hwf : WfS sh) (hj1 : sh 2 j1 = 1) (hf : f_X4_bestIn sh ln j1 μ v2 v3 = some res) : Ct l D tc ro (faB oa aa sh) (feB tc oa aa sh ln) yX4_bestIn cX4_bestIn 7 (some .int) (rmq 2 43) [.ref (oa (3, 0)), .ref (oa (13, j1)), .int v2, .int v3] μ (some (.int res)) μ := by
  refine Ct.of (by decide) (Nat.le_of_ble_eq_true rfl) (fun p e s m args below meth c A C hr hk hW ls hl => ?_)
  have hx := C.1.1
  have hb := C.1.2.1
  obtain ⟨Q, hQ⟩ : ∃ Q, Q = MQ below (Ctq D (faB oa aa sh) (feB tc oa aa sh ln) (some (.int res)) μ A) args s 0 0 A := ⟨_, rfl⟩
  rw [← hQ]
  have hl : lv_has ls 7 [(0, .ref (oa (3, 0))), (1, .ref (oa (13, j1))), (2, .int v2), (3, .int v3)] := hl
  unfold f_X4_bestIn at hf
  refine lv_aload_n hx hb dX4_bestIn_0 rfl (lv_at hl 1 rfl) ?_
  refine lv_iload_n hx hb dX4_bestIn_1 rfl (lv_at hl 2 rfl) ?_
  refine lv_iload_n hx hb dX4_bestIn_2 rfl (lv_at hl 3 rfl) ?_
  obtain ⟨x3, h3, hf⟩ := bd_of hf
  refine r_callV (k := ((13, j1) : Ky)) C hW hl lk_X4_48 (c_X6_group hwf hj1 h3) ⟨rfl, rfl⟩ ⟨Nat.le_of_ble_eq_true rfl, Nat.le_of_ble_eq_true rfl⟩ rfl (faB_13 hj1) rfl (As := [.int v2, .int v3]) (rest := []) rfl rfl (Nat.le_of_ble_eq_true rfl) dX4_bestIn_3 ⟨Nat.zero_le _, Nat.zero_le _⟩ (fun H locs hW => ?_)
  show W p l e (rmq 2 43) s m args below meth c H locs 0 0 Q (F0 m 6 ls [.int x3])
  refine lv_bipush (v := 8) hx hb dX4_bestIn_6 (by decide) ?_
  refine lv_imul hx hb dX4_bestIn_8 ?_
  refine lv_istore (lv' := [(4, .int (x3 * (8 : Int32))), (0, .ref (oa (3, 0))), (1, .ref (oa (13, j1))), (2, .int v2), (3, .int v3)]) hx hb dX4_bestIn_9 hl (by decide) rfl (fun ls hl => ?_)
  refine lv_iconst (v := 0) hx hb dX4_bestIn_11 (by decide) ?_
  refine lv_istore (lv' := [(5, .int (0 : Int32)), (4, .int (x3 * (8 : Int32))), (0, .ref (oa (3, 0))), (1, .ref (oa (13, j1))), (2, .int v2), (3, .int v3)]) hx hb dX4_bestIn_12 hl (by decide) rfl (fun ls hl => ?_)
  refine lv_iconst (v := 1) hx hb dX4_bestIn_14 (by decide) ?_
  refine lv_istore (lv' := [(6, .int (1 : Int32)), (5, .int (0 : Int32)), (4, .int (x3 * (8 : Int32))), (0, .ref (oa (3, 0))), (1, .ref (oa (13, j1))), (2, .int v2), (3, .int v3)]) hx hb dX4_bestIn_15 hl (by decide) rfl (fun ls hl => ?_)
  have L17 : ∀ (v4 v5 v6 : Int32) (H : Heap) (locs : List Loc) (ls : Array Slot), Wh (fun z : Int32 × Int32 => f_X4_bestIn_L17 sh ln j1 v4 μ z.1 z.2) (v5, v6) = some res → Wd D (faB oa aa sh) (feB tc oa aa sh ln) A s.heap μ H locs → lv_has ls 7 [(0, .ref (oa (3, 0))), (1, .ref (oa (13, j1))), (4, .int v4), (5, .int v5), (6, .int v6)] → W p l e (rmq 2 43) s m args below meth c H locs 0 0 Q (F0 m 17 ls []) := by
    intro v4 v5 v6 H locs ls hf hW hl
    refine Wh_rule hf (fun z : Int32 × Int32 => ∀ (H : Heap) (locs : List Loc) (ls : Array Slot), Wd D (faB oa aa sh) (feB tc oa aa sh ln) A s.heap μ H locs → lv_has ls 7 [(0, .ref (oa (3, 0))), (1, .ref (oa (13, j1))), (4, .int v4), (5, .int z.1), (6, .int z.2)] → W p l e (rmq 2 43) s m args below meth c H locs 0 0 Q (F0 m 17 ls [])) (fun z o1 hf Kl1 Kr1 => ?_) _ _ _ hW hl
    obtain ⟨v5, v6⟩ := z
    intro H locs ls hW hl
    have hf : f_X4_bestIn_L17 sh ln j1 v4 μ v5 v6 = some o1 := hf
    unfold f_X4_bestIn_L17 at hf
    have hW : Wd D (faB oa aa sh) (feB tc oa aa sh ln) A s.heap μ H locs := hW
    have hl : lv_has ls 7 [(0, .ref (oa (3, 0))), (1, .ref (oa (13, j1))), (4, .int v4), (5, .int v5), (6, .int v6)] := hl
    refine lv_iload hx hb dX4_bestIn_17 (lv_at hl 4 rfl) ?_
    refine lv_aload_n hx hb dX4_bestIn_19 rfl (lv_at hl 1 rfl) ?_
    refine gf_X4_197 C hW hj1 dX4_bestIn_20 ?_
    refine lv_icmp_ge (tgt := 63) hx hb dX4_bestIn_23 (by decide) (fun c1 => ?_) (fun c1 => ?_)
    · have hf := (if_pos c1).symm.trans hf
      obtain ⟨x9002, hf, hx9002⟩ := map_of hf
      have e9002 := (Kr1 _ hx9002.symm).symm
      subst e9002
      refine lv_iload hx hb dX4_bestIn_63 (lv_at hl 3 rfl) ?_
      obtain rfl := Option.some.inj hf
      rw [hQ]
      exact r_iret C hr hk hW rfl rfl dX4_bestIn_65
    · have hf := (if_neg c1).symm.trans hf
      refine lv_aload_n hx hb dX4_bestIn_26 rfl (lv_at hl 0 rfl) ?_
      refine gf_X4_18 C hW dX4_bestIn_27 ?_
      refine lv_iload hx hb dX4_bestIn_30 (lv_at hl 2 rfl) ?_
      refine lv_iload hx hb dX4_bestIn_32 (lv_at hl 4 rfl) ?_
      refine lv_iadd hx hb dX4_bestIn_34 ?_
      obtain ⟨x35, h35, hf⟩ := bd_of hf
      refine r_callV (k := ((11, 1) : Ky)) C hW hl lk_X4_56 (c_X1_at hwf rfl h35) ⟨rfl, rfl⟩ ⟨Nat.le_of_ble_eq_true rfl, Nat.le_of_ble_eq_true rfl⟩ rfl (faB_11 rfl) rfl (As := [.int (v4 + v6)]) (rest := []) rfl rfl (Nat.le_of_ble_eq_true rfl) dX4_bestIn_35 ⟨Nat.zero_le _, Nat.zero_le _⟩ (fun H locs hW => ?_)
      show W p l e (rmq 2 43) s m args below meth c H locs 0 0 Q (F0 m 38 ls [.int x35])
      refine lv_aload_n hx hb dX4_bestIn_38 rfl (lv_at hl 0 rfl) ?_
      refine gf_X4_18 C hW dX4_bestIn_39 ?_
      refine lv_iload hx hb dX4_bestIn_42 (lv_at hl 2 rfl) ?_
      refine lv_iload hx hb dX4_bestIn_44 (lv_at hl 3 rfl) ?_
      refine lv_iadd hx hb dX4_bestIn_46 ?_
      obtain ⟨x47, h47, hf⟩ := bd_of hf
      refine r_callV (k := ((11, 1) : Ky)) C hW hl lk_X4_56 (c_X1_at hwf rfl h47) ⟨rfl, rfl⟩ ⟨Nat.le_of_ble_eq_true rfl, Nat.le_of_ble_eq_true rfl⟩ rfl (faB_11 rfl) rfl (As := [.int (v4 + v5)]) (rest := [.int x35]) rfl rfl (Nat.le_of_ble_eq_true rfl) dX4_bestIn_47 ⟨Nat.zero_le _, Nat.zero_le _⟩ (fun H locs hW => ?_)
      show W p l e (rmq 2 43) s m args below meth c H locs 0 0 Q (F0 m 50 ls [.int x47, .int x35])
      refine lv_icmp_le (tgt := 57) hx hb dX4_bestIn_50 (by decide) (fun c3 => ?_) (fun c3 => ?_)
      · have hf := (if_pos c3).symm.trans hf
        refine lv_iinc (v := (v6 + (1 : Int32))) (lv' := [(6, .int (v6 + (1 : Int32))), (0, .ref (oa (3, 0))), (1, .ref (oa (13, j1))), (4, .int v4), (5, .int v5)]) hx hb dX4_bestIn_57 hl (k := 4) rfl rfl (by decide) rfl (fun ls hl => ?_)
        refine lv_goto (tgt := 17) hx hb dX4_bestIn_60 (by decide) ?_
        obtain rfl := Option.some.inj hf
        exact Kl1 _ rfl _ _ _ hW (lv_sub hl [1, 2, 3, 4, 0] rfl)
      · have hf := (if_neg c3).symm.trans hf
        refine lv_iload hx hb dX4_bestIn_53 (lv_at hl 4 rfl) ?_
        refine lv_istore (lv' := [(5, .int v6), (0, .ref (oa (3, 0))), (1, .ref (oa (13, j1))), (4, .int v4), (6, .int v6)]) hx hb dX4_bestIn_55 hl (by decide) rfl (fun ls hl => ?_)
        refine lv_iinc (v := (v6 + (1 : Int32))) (lv' := [(6, .int (v6 + (1 : Int32))), (5, .int v6), (0, .ref (oa (3, 0))), (1, .ref (oa (13, j1))), (4, .int v4)]) hx hb dX4_bestIn_57 hl (k := 4) rfl rfl (by decide) rfl (fun ls hl => ?_)
        refine lv_goto (tgt := 17) hx hb dX4_bestIn_60 (by decide) ?_
        obtain rfl := Option.some.inj hf
        exact Kl1 _ rfl _ _ _ hW (lv_sub hl [2, 3, 4, 1, 0] rfl)
  exact L17 (x3 * (8 : Int32)) (0 : Int32) (1 : Int32) _ _ _ hf hW (lv_sub hl [3, 4, 2, 1, 0] rfl)
set_option maxHeartbeats 4000000 in
set_option maxRecDepth 100000 in
theorem c_X4_guessIn {l : Launch} {D : va_G} {tc : Nat → ClassId} {ro : Ro} {oa : Ky → Nat} {aa : Nat → Nat} {sh : Sh} {ln : Nat → Nat} {j1 : Nat} {μ : Mm} {v2 v3 : Int32} {res : Int32 × Mm} (hwf : WfS sh) (hj1 : sh 2 j1 = 1) (hf : f_X4_guessIn sh ln j1 μ v2 v3 = some res) : Ct l D tc ro (faB oa aa sh) (feB tc oa aa sh ln) yX4_guessIn cX4_guessIn 4 (some .int) (rmq 4 92) [.ref (oa (3, 0)), .ref (oa (13, j1)), .int v2, .int v3] μ (some (.int res.1)) res.2 := by
  refine Ct.of (by decide) (Nat.le_of_ble_eq_true rfl) (fun p e s m args below meth c A C hr hk hW ls hl => ?_)
  have hx := C.1.1
  have hb := C.1.2.1
  obtain ⟨Q, hQ⟩ : ∃ Q, Q = MQ below (Ctq D (faB oa aa sh) (feB tc oa aa sh ln) (some (.int res.1)) res.2 A) args s 0 0 A := ⟨_, rfl⟩
  rw [← hQ]
  have hl : lv_has ls 4 [(0, .ref (oa (3, 0))), (1, .ref (oa (13, j1))), (2, .int v2), (3, .int v3)] := hl
  unfold f_X4_guessIn at hf
  refine lv_aload_n hx hb dX4_guessIn_0 rfl (lv_at hl 0 rfl) ?_
  refine lv_aload_n hx hb dX4_guessIn_1 rfl (lv_at hl 1 rfl) ?_
  refine lv_iload_n hx hb dX4_guessIn_2 rfl (lv_at hl 2 rfl) ?_
  obtain ⟨x3, h3, hf⟩ := bd_of hf
  refine r_callV (k := ((3, 0) : Ky)) C hW hl lk_X4_188 (c_X4_tally hwf hj1 h3) ⟨rfl, rfl⟩ ⟨Nat.le_of_ble_eq_true rfl, Nat.le_of_ble_eq_true rfl⟩ rfl rfl rfl (As := [.ref (oa (13, j1)), .int v2]) (rest := []) rfl rfl (Nat.le_of_ble_eq_true rfl) dX4_guessIn_3 ⟨Nat.zero_le _, Nat.zero_le _⟩ (fun H locs hW => ?_)
  show W p l e (rmq 4 92) s m args below meth c H locs 0 0 Q (F0 m 6 ls [])
  refine lv_aload_n hx hb dX4_guessIn_6 rfl (lv_at hl 0 rfl) ?_
  refine lv_aload_n hx hb dX4_guessIn_7 rfl (lv_at hl 1 rfl) ?_
  refine lv_iload_n hx hb dX4_guessIn_8 rfl (lv_at hl 2 rfl) ?_
  refine lv_iload_n hx hb dX4_guessIn_9 rfl (lv_at hl 3 rfl) ?_
  obtain ⟨x10, h10, hf⟩ := bd_of hf
  refine r_callV (k := ((3, 0) : Ky)) C hW hl lk_X4_191 (c_X4_bestIn hwf hj1 h10) ⟨rfl, rfl⟩ ⟨Nat.le_of_ble_eq_true rfl, Nat.le_of_ble_eq_true rfl⟩ rfl rfl rfl (As := [.ref (oa (13, j1)), .int v2, .int v3]) (rest := []) rfl rfl (Nat.le_of_ble_eq_true rfl) dX4_guessIn_10 ⟨Nat.zero_le _, Nat.zero_le _⟩ (fun H locs hW => ?_)
  show W p l e (rmq 4 92) s m args below meth c H locs 0 0 Q (F0 m 13 ls [.int x10])
  obtain rfl := Option.some.inj hf
  rw [hQ]
  exact r_iret C hr hk hW rfl rfl dX4_guessIn_13
set_option maxHeartbeats 4000000 in
set_option maxRecDepth 100000 in
theorem c_X4_strikeWrong {l : Launch} {D : va_G} {tc : Nat → ClassId} {ro : Ro} {oa : Ky → Nat} {aa : Nat → Nat} {sh : Sh} {ln : Nat → Nat} {j1 : Nat} {μ : Mm} {v2 : Int32} {res : Mm} (hwf : WfS sh) (hj1 : sh 2 j1 = 1) (hf : f_X4_strikeWrong sh ln j1 μ v2 = some res) : Ct l D tc ro (faB oa aa sh) (feB tc oa aa sh ln) yX4_strikeWrong cX4_strikeWrong 4 none (rmq 3 69) [.ref (oa (3, 0)), .ref (oa (13, j1)), .int v2] μ none res := by
  refine Ct.of (by decide) (Nat.le_of_ble_eq_true rfl) (fun p e s m args below meth c A C hr hk hW ls hl => ?_)
  have hx := C.1.1
  have hb := C.1.2.1
  obtain ⟨Q, hQ⟩ : ∃ Q, Q = MQ below (Ctq D (faB oa aa sh) (feB tc oa aa sh ln) none res A) args s 0 0 A := ⟨_, rfl⟩
  rw [← hQ]
  have hl : lv_has ls 4 [(0, .ref (oa (3, 0))), (1, .ref (oa (13, j1))), (2, .int v2)] := hl
  unfold f_X4_strikeWrong at hf
  refine lv_iconst (v := 0) hx hb dX4_strikeWrong_0 (by decide) ?_
  refine lv_istore_n (lv' := [(3, .int (0 : Int32)), (0, .ref (oa (3, 0))), (1, .ref (oa (13, j1))), (2, .int v2)]) hx hb dX4_strikeWrong_1 rfl hl (by decide) rfl (fun ls hl => ?_)
  have L2 : ∀ (μ : Mm) (v3 : Int32) (H : Heap) (locs : List Loc) (ls : Array Slot), Wh (fun z : Mm × Int32 => f_X4_strikeWrong_L2 sh ln j1 v2 z.1 z.2) (μ, v3) = some res → Wd D (faB oa aa sh) (feB tc oa aa sh ln) A s.heap μ H locs → lv_has ls 4 [(0, .ref (oa (3, 0))), (1, .ref (oa (13, j1))), (2, .int v2), (3, .int v3)] → W p l e (rmq 3 69) s m args below meth c H locs 0 0 Q (F0 m 2 ls []) := by
    intro μ v3 H locs ls hf hW hl
    refine Wh_rule hf (fun z : Mm × Int32 => ∀ (H : Heap) (locs : List Loc) (ls : Array Slot), Wd D (faB oa aa sh) (feB tc oa aa sh ln) A s.heap z.1 H locs → lv_has ls 4 [(0, .ref (oa (3, 0))), (1, .ref (oa (13, j1))), (2, .int v2), (3, .int z.2)] → W p l e (rmq 3 69) s m args below meth c H locs 0 0 Q (F0 m 2 ls [])) (fun z o1 hf Kl1 Kr1 => ?_) _ _ _ hW hl
    obtain ⟨μ, v3⟩ := z
    intro H locs ls hW hl
    have hf : f_X4_strikeWrong_L2 sh ln j1 v2 μ v3 = some o1 := hf
    unfold f_X4_strikeWrong_L2 at hf
    have hW : Wd D (faB oa aa sh) (feB tc oa aa sh ln) A s.heap μ H locs := hW
    have hl : lv_has ls 4 [(0, .ref (oa (3, 0))), (1, .ref (oa (13, j1))), (2, .int v2), (3, .int v3)] := hl
    refine lv_iload_n hx hb dX4_strikeWrong_2 rfl (lv_at hl 3 rfl) ?_
    refine lv_aload_n hx hb dX4_strikeWrong_3 rfl (lv_at hl 1 rfl) ?_
    refine gf_X4_52 C hW hj1 dX4_strikeWrong_4 ?_
    refine lv_icmp_ge (tgt := 53) hx hb dX4_strikeWrong_7 (by decide) (fun c1 => ?_) (fun c1 => ?_)
    · have hf := (if_pos c1).symm.trans hf
      obtain ⟨x9002, hf, hx9002⟩ := map_of hf
      have e9002 := (Kr1 _ hx9002.symm).symm
      subst e9002
      obtain rfl := Option.some.inj hf
      rw [hQ]
      exact r_vret C hr hk hW rfl rfl dX4_strikeWrong_53
    · have hf := (if_neg c1).symm.trans hf
      refine lv_aload_n hx hb dX4_strikeWrong_10 rfl (lv_at hl 0 rfl) ?_
      refine gf_X4_28 C hW dX4_strikeWrong_11 ?_
      refine lv_iload_n hx hb dX4_strikeWrong_14 rfl (lv_at hl 3 rfl) ?_
      obtain ⟨x15, h15, hf⟩ := bd_of hf
      refine r_callV (k := ((11, 4) : Ky)) C hW hl lk_X4_56 (c_X1_at hwf rfl h15) ⟨rfl, rfl⟩ ⟨Nat.le_of_ble_eq_true rfl, Nat.le_of_ble_eq_true rfl⟩ rfl (faB_11 rfl) rfl (As := [.int v3]) (rest := []) rfl rfl (Nat.le_of_ble_eq_true rfl) dX4_strikeWrong_15 ⟨Nat.zero_le _, Nat.zero_le _⟩ (fun H locs hW => ?_)
      show W p l e (rmq 3 69) s m args below meth c H locs 0 0 Q (F0 m 18 ls [.int x15])
      refine lv_iconst (v := 1) hx hb dX4_strikeWrong_18 (by decide) ?_
      refine lv_icmp_ne (tgt := 47) hx hb dX4_strikeWrong_19 (by decide) (fun c3 => ?_) (fun c3 => ?_)
      · have hf := (if_neg c3).symm.trans hf
        refine lv_iinc (v := (v3 + (1 : Int32))) (lv' := [(3, .int (v3 + (1 : Int32))), (0, .ref (oa (3, 0))), (1, .ref (oa (13, j1))), (2, .int v2)]) hx hb dX4_strikeWrong_47 hl (k := 3) rfl rfl (by decide) rfl (fun ls hl => ?_)
        refine lv_goto (tgt := 2) hx hb dX4_strikeWrong_50 (by decide) ?_
        obtain rfl := Option.some.inj hf
        exact Kl1 _ rfl _ _ _ hW (lv_sub hl [1, 2, 3, 0] rfl)
      · have hf := (if_pos c3).symm.trans hf
        refine lv_aload_n hx hb dX4_strikeWrong_22 rfl (lv_at hl 0 rfl) ?_
        refine lv_aload_n hx hb dX4_strikeWrong_23 rfl (lv_at hl 1 rfl) ?_
        refine lv_iload_n hx hb dX4_strikeWrong_24 rfl (lv_at hl 2 rfl) ?_
        refine lv_iload_n hx hb dX4_strikeWrong_25 rfl (lv_at hl 3 rfl) ?_
        obtain ⟨x26, h26, hf⟩ := bd_of hf
        refine r_callV (k := ((3, 0) : Ky)) C hW hl lk_X4_191 (c_X4_bestIn hwf hj1 h26) ⟨rfl, rfl⟩ ⟨Nat.le_of_ble_eq_true rfl, Nat.le_of_ble_eq_true rfl⟩ rfl rfl rfl (As := [.ref (oa (13, j1)), .int v2, .int v3]) (rest := []) rfl rfl (Nat.le_of_ble_eq_true rfl) dX4_strikeWrong_26 ⟨Nat.zero_le _, Nat.zero_le _⟩ (fun H locs hW => ?_)
        show W p l e (rmq 3 69) s m args below meth c H locs 0 0 Q (F0 m 29 ls [.int x26])
        refine lv_aload_n hx hb dX4_strikeWrong_29 rfl (lv_at hl 1 rfl) ?_
        refine lv_iload_n hx hb dX4_strikeWrong_30 rfl (lv_at hl 3 rfl) ?_
        refine lv_iload_n hx hb dX4_strikeWrong_31 rfl (lv_at hl 2 rfl) ?_
        obtain ⟨x32, h32, hf⟩ := bd_of hf
        refine r_callV (k := ((13, j1) : Ky)) C hW hl lk_X4_60 (c_X6_figure hwf hj1 h32) ⟨rfl, rfl⟩ ⟨Nat.le_of_ble_eq_true rfl, Nat.le_of_ble_eq_true rfl⟩ rfl (faB_13 hj1) rfl (As := [.int v3, .int v2]) (rest := [.int x26]) rfl rfl (Nat.le_of_ble_eq_true rfl) dX4_strikeWrong_32 ⟨Nat.zero_le _, Nat.zero_le _⟩ (fun H locs hW => ?_)
        show W p l e (rmq 3 69) s m args below meth c H locs 0 0 Q (F0 m 35 ls [.int x32, .int x26])
        refine lv_icmp_eq (tgt := 47) hx hb dX4_strikeWrong_35 (by decide) (fun c4 => ?_) (fun c4 => ?_)
        · have hf := (if_pos c4).symm.trans hf
          refine lv_iinc (v := (v3 + (1 : Int32))) (lv' := [(3, .int (v3 + (1 : Int32))), (0, .ref (oa (3, 0))), (1, .ref (oa (13, j1))), (2, .int v2)]) hx hb dX4_strikeWrong_47 hl (k := 3) rfl rfl (by decide) rfl (fun ls hl => ?_)
          refine lv_goto (tgt := 2) hx hb dX4_strikeWrong_50 (by decide) ?_
          obtain rfl := Option.some.inj hf
          exact Kl1 _ rfl _ _ _ hW (lv_sub hl [1, 2, 3, 0] rfl)
        · have hf := (if_neg c4).symm.trans hf
          refine lv_aload_n hx hb dX4_strikeWrong_38 rfl (lv_at hl 0 rfl) ?_
          refine gf_X4_28 C hW dX4_strikeWrong_39 ?_
          refine lv_iload_n hx hb dX4_strikeWrong_42 rfl (lv_at hl 3 rfl) ?_
          refine lv_iconst (v := 0) hx hb dX4_strikeWrong_43 (by decide) ?_
          obtain ⟨x44, h44, hf⟩ := bd_of hf
          refine r_callV (k := ((11, 4) : Ky)) C hW hl lk_X4_110 (c_X1_put hwf rfl h44) ⟨rfl, rfl⟩ ⟨Nat.le_of_ble_eq_true rfl, Nat.le_of_ble_eq_true rfl⟩ rfl (faB_11 rfl) rfl (As := [.int v3, .int (0 : Int32)]) (rest := []) rfl rfl (Nat.le_of_ble_eq_true rfl) dX4_strikeWrong_44 ⟨Nat.zero_le _, Nat.zero_le _⟩ (fun H locs hW => ?_)
          show W p l e (rmq 3 69) s m args below meth c H locs 0 0 Q (F0 m 47 ls [])
          refine lv_iinc (v := (v3 + (1 : Int32))) (lv' := [(3, .int (v3 + (1 : Int32))), (0, .ref (oa (3, 0))), (1, .ref (oa (13, j1))), (2, .int v2)]) hx hb dX4_strikeWrong_47 hl (k := 3) rfl rfl (by decide) rfl (fun ls hl => ?_)
          refine lv_goto (tgt := 2) hx hb dX4_strikeWrong_50 (by decide) ?_
          obtain rfl := Option.some.inj hf
          exact Kl1 _ rfl _ _ _ hW (lv_sub hl [1, 2, 3, 0] rfl)
  exact L2 μ (0 : Int32) _ _ _ hf hW (lv_sub hl [1, 2, 3, 0] rfl)
set_option maxHeartbeats 4000000 in
set_option maxRecDepth 100000 in
theorem c_X4_rightGuesses {l : Launch} {D : va_G} {tc : Nat → ClassId} {ro : Ro} {oa : Ky → Nat} {aa : Nat → Nat} {sh : Sh} {ln : Nat → Nat} {j1 : Nat} {μ : Mm} {v2 : Int32} {res : Int32 × Mm} (hwf : WfS sh) (hj1 : sh 2 j1 = 1) (hf : f_X4_rightGuesses sh ln j1 μ v2 = some res) : Ct l D tc ro (faB oa aa sh) (feB tc oa aa sh ln) yX4_rightGuesses cX4_rightGuesses 5 (some .int) (rmq 4 92) [.ref (oa (3, 0)), .ref (oa (13, j1)), .int v2] μ (some (.int res.1)) res.2 := by
  refine Ct.of (by decide) (Nat.le_of_ble_eq_true rfl) (fun p e s m args below meth c A C hr hk hW ls hl => ?_)
  have hx := C.1.1
  have hb := C.1.2.1
  obtain ⟨Q, hQ⟩ : ∃ Q, Q = MQ below (Ctq D (faB oa aa sh) (feB tc oa aa sh ln) (some (.int res.1)) res.2 A) args s 0 0 A := ⟨_, rfl⟩
  rw [← hQ]
  have hl : lv_has ls 5 [(0, .ref (oa (3, 0))), (1, .ref (oa (13, j1))), (2, .int v2)] := hl
  unfold f_X4_rightGuesses at hf
  refine lv_aload_n hx hb dX4_rightGuesses_0 rfl (lv_at hl 0 rfl) ?_
  refine gf_X4_28 C hW dX4_rightGuesses_1 ?_
  refine lv_aload_n hx hb dX4_rightGuesses_4 rfl (lv_at hl 1 rfl) ?_
  refine gf_X4_84 C hW hj1 dX4_rightGuesses_5 ?_
  refine lv_aload_n hx hb dX4_rightGuesses_8 rfl (lv_at hl 1 rfl) ?_
  refine gf_X4_52 C hW hj1 dX4_rightGuesses_9 ?_
  obtain ⟨x12, h12, hf⟩ := bd_of hf
  refine r_callV (k := ((11, 4) : Ky)) C hW hl lk_X4_120 (c_X1_become hwf rfl (cex_st hj1 (by decide)) h12) ⟨rfl, rfl⟩ ⟨Nat.le_of_ble_eq_true rfl, Nat.le_of_ble_eq_true rfl⟩ rfl (faB_11 rfl) rfl (As := [.ref (oa (11, 15 + 5 * j1 + 2)), .int (μ (13, j1) 2)]) (rest := []) rfl rfl (Nat.le_of_ble_eq_true rfl) dX4_rightGuesses_12 ⟨Nat.zero_le _, Nat.zero_le _⟩ (fun H locs hW => ?_)
  show W p l e (rmq 4 92) s m args below meth c H locs 0 0 Q (F0 m 15 ls [])
  refine lv_iconst (v := 0) hx hb dX4_rightGuesses_15 (by decide) ?_
  refine lv_istore_n (lv' := [(3, .int (0 : Int32)), (0, .ref (oa (3, 0))), (1, .ref (oa (13, j1))), (2, .int v2)]) hx hb dX4_rightGuesses_16 rfl hl (by decide) rfl (fun ls hl => ?_)
  have L17 : ∀ (μ : Mm) (v3 : Int32) (H : Heap) (locs : List Loc) (ls : Array Slot), Wh (fun z : Mm × Int32 => f_X4_rightGuesses_L17 sh ln j1 v2 z.1 z.2) (μ, v3) = some res → Wd D (faB oa aa sh) (feB tc oa aa sh ln) A s.heap μ H locs → lv_has ls 5 [(0, .ref (oa (3, 0))), (1, .ref (oa (13, j1))), (2, .int v2), (3, .int v3)] → W p l e (rmq 4 92) s m args below meth c H locs 0 0 Q (F0 m 17 ls []) := by
    intro μ v3 H locs ls hf hW hl
    refine Wh_rule hf (fun z : Mm × Int32 => ∀ (H : Heap) (locs : List Loc) (ls : Array Slot), Wd D (faB oa aa sh) (feB tc oa aa sh ln) A s.heap z.1 H locs → lv_has ls 5 [(0, .ref (oa (3, 0))), (1, .ref (oa (13, j1))), (2, .int v2), (3, .int z.2)] → W p l e (rmq 4 92) s m args below meth c H locs 0 0 Q (F0 m 17 ls [])) (fun z o1 hf Kl1 Kr1 => ?_) _ _ _ hW hl
    obtain ⟨μ, v3⟩ := z
    intro H locs ls hW hl
    have hf : f_X4_rightGuesses_L17 sh ln j1 v2 μ v3 = some o1 := hf
    unfold f_X4_rightGuesses_L17 at hf
    have hW : Wd D (faB oa aa sh) (feB tc oa aa sh ln) A s.heap μ H locs := hW
    have hl : lv_has ls 5 [(0, .ref (oa (3, 0))), (1, .ref (oa (13, j1))), (2, .int v2), (3, .int v3)] := hl
    refine lv_iload_n hx hb dX4_rightGuesses_17 rfl (lv_at hl 3 rfl) ?_
    refine lv_aload_n hx hb dX4_rightGuesses_18 rfl (lv_at hl 1 rfl) ?_
    refine gf_X4_78 C hW hj1 dX4_rightGuesses_19 ?_
    refine lv_icmp_ge (tgt := 53) hx hb dX4_rightGuesses_22 (by decide) (fun c1 => ?_) (fun c1 => ?_)
    · have hf := (if_pos c1).symm.trans hf
      obtain ⟨x9004, hf, hx9004⟩ := map_of hf
      have e9004 := (Kr1 _ hx9004.symm).symm
      subst e9004
      refine lv_iconst (v := 0) hx hb dX4_rightGuesses_53 (by decide) ?_
      refine lv_istore_n (lv' := [(3, .int (0 : Int32)), (0, .ref (oa (3, 0))), (1, .ref (oa (13, j1))), (2, .int v2)]) hx hb dX4_rightGuesses_54 rfl hl (by decide) rfl (fun ls hl => ?_)
      refine lv_iconst (v := 0) hx hb dX4_rightGuesses_55 (by decide) ?_
      refine lv_istore (lv' := [(4, .int (0 : Int32)), (3, .int (0 : Int32)), (0, .ref (oa (3, 0))), (1, .ref (oa (13, j1))), (2, .int v2)]) hx hb dX4_rightGuesses_56 hl (by decide) rfl (fun ls hl => ?_)
      have L58 : ∀ (μ : Mm) (v3 v4 : Int32) (H : Heap) (locs : List Loc) (ls : Array Slot), Wh (fun z : Int32 × Int32 => f_X4_rightGuesses_L58 sh ln j1 μ z.1 z.2) (v3, v4) = some res → Wd D (faB oa aa sh) (feB tc oa aa sh ln) A s.heap μ H locs → lv_has ls 5 [(0, .ref (oa (3, 0))), (1, .ref (oa (13, j1))), (3, .int v3), (4, .int v4)] → W p l e (rmq 4 92) s m args below meth c H locs 0 0 Q (F0 m 58 ls []) := by
        intro μ v3 v4 H locs ls hf hW hl
        refine Wh_rule hf (fun z : Int32 × Int32 => ∀ (H : Heap) (locs : List Loc) (ls : Array Slot), Wd D (faB oa aa sh) (feB tc oa aa sh ln) A s.heap μ H locs → lv_has ls 5 [(0, .ref (oa (3, 0))), (1, .ref (oa (13, j1))), (3, .int z.1), (4, .int z.2)] → W p l e (rmq 4 92) s m args below meth c H locs 0 0 Q (F0 m 58 ls [])) (fun z o1 hf Kl1 Kr1 => ?_) _ _ _ hW hl
        obtain ⟨v3, v4⟩ := z
        intro H locs ls hW hl
        have hf : f_X4_rightGuesses_L58 sh ln j1 μ v3 v4 = some o1 := hf
        unfold f_X4_rightGuesses_L58 at hf
        have hW : Wd D (faB oa aa sh) (feB tc oa aa sh ln) A s.heap μ H locs := hW
        have hl : lv_has ls 5 [(0, .ref (oa (3, 0))), (1, .ref (oa (13, j1))), (3, .int v3), (4, .int v4)] := hl
        refine lv_iload hx hb dX4_rightGuesses_58 (lv_at hl 3 rfl) ?_
        refine lv_aload_n hx hb dX4_rightGuesses_60 rfl (lv_at hl 1 rfl) ?_
        refine gf_X4_52 C hW hj1 dX4_rightGuesses_61 ?_
        refine lv_icmp_ge (tgt := 85) hx hb dX4_rightGuesses_64 (by decide) (fun c2 => ?_) (fun c2 => ?_)
        · have hf := (if_pos c2).symm.trans hf
          obtain ⟨x9003, hf, hx9003⟩ := map_of hf
          have e9003 := (Kr1 _ hx9003.symm).symm
          subst e9003
          refine lv_iload_n hx hb dX4_rightGuesses_85 rfl (lv_at hl 2 rfl) ?_
          obtain rfl := Option.some.inj hf
          rw [hQ]
          exact r_iret C hr hk hW rfl rfl dX4_rightGuesses_86
        · have hf := (if_neg c2).symm.trans hf
          refine lv_iload_n hx hb dX4_rightGuesses_67 rfl (lv_at hl 2 rfl) ?_
          refine lv_aload_n hx hb dX4_rightGuesses_68 rfl (lv_at hl 0 rfl) ?_
          refine gf_X4_28 C hW dX4_rightGuesses_69 ?_
          refine lv_iload hx hb dX4_rightGuesses_72 (lv_at hl 3 rfl) ?_
          obtain ⟨x74, h74, hf⟩ := bd_of hf
          refine r_callV (k := ((11, 4) : Ky)) C hW hl lk_X4_56 (c_X1_at hwf rfl h74) ⟨rfl, rfl⟩ ⟨Nat.le_of_ble_eq_true rfl, Nat.le_of_ble_eq_true rfl⟩ rfl (faB_11 rfl) rfl (As := [.int v4]) (rest := [.int v3]) rfl rfl (Nat.le_of_ble_eq_true rfl) dX4_rightGuesses_74 ⟨Nat.zero_le _, Nat.zero_le _⟩ (fun H locs hW => ?_)
          show W p l e (rmq 4 92) s m args below meth c H locs 0 0 Q (F0 m 77 ls [.int x74, .int v3])
          refine lv_iadd hx hb dX4_rightGuesses_77 ?_
          refine lv_istore_n (lv' := [(3, .int (v3 + x74)), (0, .ref (oa (3, 0))), (1, .ref (oa (13, j1))), (4, .int v4)]) hx hb dX4_rightGuesses_78 rfl hl (by decide) rfl (fun ls hl => ?_)
          refine lv_iinc (v := (v4 + (1 : Int32))) (lv' := [(4, .int (v4 + (1 : Int32))), (3, .int (v3 + x74)), (0, .ref (oa (3, 0))), (1, .ref (oa (13, j1)))]) hx hb dX4_rightGuesses_79 hl (k := 3) rfl rfl (by decide) rfl (fun ls hl => ?_)
          refine lv_goto (tgt := 58) hx hb dX4_rightGuesses_82 (by decide) ?_
          obtain rfl := Option.some.inj hf
          exact Kl1 _ rfl _ _ _ hW (lv_sub hl [2, 3, 1, 0] rfl)
      exact L58 μ (0 : Int32) (0 : Int32) _ _ _ hf hW (lv_sub hl [2, 3, 1, 0] rfl)
    · have hf := (if_neg c1).symm.trans hf
      refine lv_iload_n hx hb dX4_rightGuesses_25 rfl (lv_at hl 2 rfl) ?_
      refine lv_iconst (v := -1) hx hb dX4_rightGuesses_26 (by decide) ?_
      refine lv_icmp_eq (tgt := 35) hx hb dX4_rightGuesses_27 (by decide) (fun c5 => ?_) (fun c5 => ?_)
      · have hf := (if_pos c5).symm.trans hf
        refine lv_aload_n hx hb dX4_rightGuesses_35 rfl (lv_at hl 0 rfl) ?_
        refine lv_aload_n hx hb dX4_rightGuesses_36 rfl (lv_at hl 1 rfl) ?_
        refine lv_iload_n hx hb dX4_rightGuesses_37 rfl (lv_at hl 3 rfl) ?_
        obtain ⟨x38, h38, hf⟩ := bd_of hf
        refine r_callV (k := ((3, 0) : Ky)) C hW hl lk_X4_188 (c_X4_tally hwf hj1 h38) ⟨rfl, rfl⟩ ⟨Nat.le_of_ble_eq_true rfl, Nat.le_of_ble_eq_true rfl⟩ rfl rfl rfl (As := [.ref (oa (13, j1)), .int v3]) (rest := []) rfl rfl (Nat.le_of_ble_eq_true rfl) dX4_rightGuesses_38 ⟨Nat.zero_le _, Nat.zero_le _⟩ (fun H locs hW => ?_)
        show W p l e (rmq 4 92) s m args below meth c H locs 0 0 Q (F0 m 41 ls [])
        refine lv_aload_n hx hb dX4_rightGuesses_41 rfl (lv_at hl 0 rfl) ?_
        refine lv_aload_n hx hb dX4_rightGuesses_42 rfl (lv_at hl 1 rfl) ?_
        refine lv_iload_n hx hb dX4_rightGuesses_43 rfl (lv_at hl 3 rfl) ?_
        obtain ⟨x44, h44, hf⟩ := bd_of hf
        refine r_callV (k := ((3, 0) : Ky)) C hW hl lk_X4_194 (c_X4_strikeWrong hwf hj1 h44) ⟨rfl, rfl⟩ ⟨Nat.le_of_ble_eq_true rfl, Nat.le_of_ble_eq_true rfl⟩ rfl rfl rfl (As := [.ref (oa (13, j1)), .int v3]) (rest := []) rfl rfl (Nat.le_of_ble_eq_true rfl) dX4_rightGuesses_44 ⟨Nat.zero_le _, Nat.zero_le _⟩ (fun H locs hW => ?_)
        show W p l e (rmq 4 92) s m args below meth c H locs 0 0 Q (F0 m 47 ls [])
        refine lv_iinc (v := (v3 + (1 : Int32))) (lv' := [(3, .int (v3 + (1 : Int32))), (0, .ref (oa (3, 0))), (1, .ref (oa (13, j1))), (2, .int v2)]) hx hb dX4_rightGuesses_47 hl (k := 3) rfl rfl (by decide) rfl (fun ls hl => ?_)
        refine lv_goto (tgt := 17) hx hb dX4_rightGuesses_50 (by decide) ?_
        obtain rfl := Option.some.inj hf
        exact Kl1 _ rfl _ _ _ hW (lv_sub hl [1, 2, 3, 0] rfl)
      · have hf := (if_neg c5).symm.trans hf
        refine lv_iload_n hx hb dX4_rightGuesses_30 rfl (lv_at hl 2 rfl) ?_
        refine lv_iload_n hx hb dX4_rightGuesses_31 rfl (lv_at hl 3 rfl) ?_
        refine lv_icmp_ne (tgt := 47) hx hb dX4_rightGuesses_32 (by decide) (fun c6 => ?_) (fun c6 => ?_)
        · have hf := (if_neg c6).symm.trans hf
          refine lv_iinc (v := (v3 + (1 : Int32))) (lv' := [(3, .int (v3 + (1 : Int32))), (0, .ref (oa (3, 0))), (1, .ref (oa (13, j1))), (2, .int v2)]) hx hb dX4_rightGuesses_47 hl (k := 3) rfl rfl (by decide) rfl (fun ls hl => ?_)
          refine lv_goto (tgt := 17) hx hb dX4_rightGuesses_50 (by decide) ?_
          obtain rfl := Option.some.inj hf
          exact Kl1 _ rfl _ _ _ hW (lv_sub hl [1, 2, 3, 0] rfl)
        · have hf := (if_pos c6).symm.trans hf
          refine lv_aload_n hx hb dX4_rightGuesses_35 rfl (lv_at hl 0 rfl) ?_
          refine lv_aload_n hx hb dX4_rightGuesses_36 rfl (lv_at hl 1 rfl) ?_
          refine lv_iload_n hx hb dX4_rightGuesses_37 rfl (lv_at hl 3 rfl) ?_
          obtain ⟨x38, h38, hf⟩ := bd_of hf
          refine r_callV (k := ((3, 0) : Ky)) C hW hl lk_X4_188 (c_X4_tally hwf hj1 h38) ⟨rfl, rfl⟩ ⟨Nat.le_of_ble_eq_true rfl, Nat.le_of_ble_eq_true rfl⟩ rfl rfl rfl (As := [.ref (oa (13, j1)), .int v3]) (rest := []) rfl rfl (Nat.le_of_ble_eq_true rfl) dX4_rightGuesses_38 ⟨Nat.zero_le _, Nat.zero_le _⟩ (fun H locs hW => ?_)
          show W p l e (rmq 4 92) s m args below meth c H locs 0 0 Q (F0 m 41 ls [])
          refine lv_aload_n hx hb dX4_rightGuesses_41 rfl (lv_at hl 0 rfl) ?_
          refine lv_aload_n hx hb dX4_rightGuesses_42 rfl (lv_at hl 1 rfl) ?_
          refine lv_iload_n hx hb dX4_rightGuesses_43 rfl (lv_at hl 3 rfl) ?_
          obtain ⟨x44, h44, hf⟩ := bd_of hf
          refine r_callV (k := ((3, 0) : Ky)) C hW hl lk_X4_194 (c_X4_strikeWrong hwf hj1 h44) ⟨rfl, rfl⟩ ⟨Nat.le_of_ble_eq_true rfl, Nat.le_of_ble_eq_true rfl⟩ rfl rfl rfl (As := [.ref (oa (13, j1)), .int v3]) (rest := []) rfl rfl (Nat.le_of_ble_eq_true rfl) dX4_rightGuesses_44 ⟨Nat.zero_le _, Nat.zero_le _⟩ (fun H locs hW => ?_)
          show W p l e (rmq 4 92) s m args below meth c H locs 0 0 Q (F0 m 47 ls [])
          refine lv_iinc (v := (v3 + (1 : Int32))) (lv' := [(3, .int (v3 + (1 : Int32))), (0, .ref (oa (3, 0))), (1, .ref (oa (13, j1))), (2, .int v2)]) hx hb dX4_rightGuesses_47 hl (k := 3) rfl rfl (by decide) rfl (fun ls hl => ?_)
          refine lv_goto (tgt := 17) hx hb dX4_rightGuesses_50 (by decide) ?_
          obtain rfl := Option.some.inj hf
          exact Kl1 _ rfl _ _ _ hW (lv_sub hl [1, 2, 3, 0] rfl)
  exact L17 x12 (0 : Int32) _ _ _ hf hW (lv_sub hl [1, 2, 3, 0] rfl)
set_option maxHeartbeats 4000000 in
set_option maxRecDepth 100000 in
theorem c_X5_unlikeBits {l : Launch} {D : va_G} {tc : Nat → ClassId} {ro : Ro} {oa : Ky → Nat} {aa : Nat → Nat} {sh : Sh} {ln : Nat → Nat} {j1 : Nat} {μ : Mm} {v2 : Int32} {res : Int32} (hwf : WfS sh) (hj1 : sh 2 j1 = 1) (hf : f_X5_unlikeBits sh ln j1 μ v2 = some res) : Ct l D tc ro (faB oa aa sh) (feB tc oa aa sh ln) yX5_unlikeBits cX5_unlikeBits 5 (some .int) (rmq 2 44) [.ref (oa (5, 0)), .ref (oa (13, j1)), .int v2] μ (some (.int res)) μ := by
  refine Ct.of (by decide) (Nat.le_of_ble_eq_true rfl) (fun p e s m args below meth c A C hr hk hW ls hl => ?_)
  have hx := C.1.1
  have hb := C.1.2.1
  obtain ⟨Q, hQ⟩ : ∃ Q, Q = MQ below (Ctq D (faB oa aa sh) (feB tc oa aa sh ln) (some (.int res)) μ A) args s 0 0 A := ⟨_, rfl⟩
  rw [← hQ]
  have hl : lv_has ls 5 [(0, .ref (oa (5, 0))), (1, .ref (oa (13, j1))), (2, .int v2)] := hl
  unfold f_X5_unlikeBits at hf
  refine lv_iconst (v := 0) hx hb dX5_unlikeBits_0 (by decide) ?_
  refine lv_istore_n (lv' := [(3, .int (0 : Int32)), (0, .ref (oa (5, 0))), (1, .ref (oa (13, j1))), (2, .int v2)]) hx hb dX5_unlikeBits_1 rfl hl (by decide) rfl (fun ls hl => ?_)
  refine lv_iconst (v := 0) hx hb dX5_unlikeBits_2 (by decide) ?_
  refine lv_istore (lv' := [(4, .int (0 : Int32)), (3, .int (0 : Int32)), (0, .ref (oa (5, 0))), (1, .ref (oa (13, j1))), (2, .int v2)]) hx hb dX5_unlikeBits_3 hl (by decide) rfl (fun ls hl => ?_)
  have L5 : ∀ (v3 v4 : Int32) (H : Heap) (locs : List Loc) (ls : Array Slot), Wh (fun z : Int32 × Int32 => f_X5_unlikeBits_L5 sh ln j1 v2 μ z.1 z.2) (v3, v4) = some res → Wd D (faB oa aa sh) (feB tc oa aa sh ln) A s.heap μ H locs → lv_has ls 5 [(1, .ref (oa (13, j1))), (2, .int v2), (3, .int v3), (4, .int v4)] → W p l e (rmq 2 44) s m args below meth c H locs 0 0 Q (F0 m 5 ls []) := by
    intro v3 v4 H locs ls hf hW hl
    refine Wh_rule hf (fun z : Int32 × Int32 => ∀ (H : Heap) (locs : List Loc) (ls : Array Slot), Wd D (faB oa aa sh) (feB tc oa aa sh ln) A s.heap μ H locs → lv_has ls 5 [(1, .ref (oa (13, j1))), (2, .int v2), (3, .int z.1), (4, .int z.2)] → W p l e (rmq 2 44) s m args below meth c H locs 0 0 Q (F0 m 5 ls [])) (fun z o1 hf Kl1 Kr1 => ?_) _ _ _ hW hl
    obtain ⟨v3, v4⟩ := z
    intro H locs ls hW hl
    have hf : f_X5_unlikeBits_L5 sh ln j1 v2 μ v3 v4 = some o1 := hf
    unfold f_X5_unlikeBits_L5 at hf
    have hW : Wd D (faB oa aa sh) (feB tc oa aa sh ln) A s.heap μ H locs := hW
    have hl : lv_has ls 5 [(1, .ref (oa (13, j1))), (2, .int v2), (3, .int v3), (4, .int v4)] := hl
    refine lv_iload hx hb dX5_unlikeBits_5 (lv_at hl 3 rfl) ?_
    refine lv_aload_n hx hb dX5_unlikeBits_7 rfl (lv_at hl 0 rfl) ?_
    refine gf_X5_42 C hW hj1 dX5_unlikeBits_8 ?_
    refine lv_icmp_ge (tgt := 47) hx hb dX5_unlikeBits_11 (by decide) (fun c1 => ?_) (fun c1 => ?_)
    · have hf := (if_pos c1).symm.trans hf
      obtain ⟨x9002, hf, hx9002⟩ := map_of hf
      have e9002 := (Kr1 _ hx9002.symm).symm
      subst e9002
      refine lv_iload_n hx hb dX5_unlikeBits_47 rfl (lv_at hl 2 rfl) ?_
      obtain rfl := Option.some.inj hf
      rw [hQ]
      exact r_iret C hr hk hW rfl rfl dX5_unlikeBits_48
    · have hf := (if_neg c1).symm.trans hf
      refine lv_aload_n hx hb dX5_unlikeBits_14 rfl (lv_at hl 0 rfl) ?_
      refine lv_iload_n hx hb dX5_unlikeBits_15 rfl (lv_at hl 1 rfl) ?_
      refine lv_iload hx hb dX5_unlikeBits_16 (lv_at hl 3 rfl) ?_
      obtain ⟨x18, h18, hf⟩ := bd_of hf
      refine r_callV (k := ((13, j1) : Ky)) C hW hl lk_X5_72 (c_X6_figure hwf hj1 h18) ⟨rfl, rfl⟩ ⟨Nat.le_of_ble_eq_true rfl, Nat.le_of_ble_eq_true rfl⟩ rfl (faB_13 hj1) rfl (As := [.int v2, .int v4]) (rest := []) rfl rfl (Nat.le_of_ble_eq_true rfl) dX5_unlikeBits_18 ⟨Nat.zero_le _, Nat.zero_le _⟩ (fun H locs hW => ?_)
      show W p l e (rmq 2 44) s m args below meth c H locs 0 0 Q (F0 m 21 ls [.int x18])
      refine lv_aload_n hx hb dX5_unlikeBits_21 rfl (lv_at hl 0 rfl) ?_
      refine lv_aload_n hx hb dX5_unlikeBits_22 rfl (lv_at hl 0 rfl) ?_
      refine gf_X5_59 C hW hj1 dX5_unlikeBits_23 ?_
      refine lv_iload hx hb dX5_unlikeBits_26 (lv_at hl 3 rfl) ?_
      obtain ⟨x28, h28, hf⟩ := bd_of hf
      refine r_callV (k := ((13, j1) : Ky)) C hW hl lk_X5_72 (c_X6_figure hwf hj1 h28) ⟨rfl, rfl⟩ ⟨Nat.le_of_ble_eq_true rfl, Nat.le_of_ble_eq_true rfl⟩ rfl (faB_13 hj1) rfl (As := [.int (μ (13, j1) 3), .int v4]) (rest := [.int x18]) rfl rfl (Nat.le_of_ble_eq_true rfl) dX5_unlikeBits_28 ⟨Nat.zero_le _, Nat.zero_le _⟩ (fun H locs hW => ?_)
      show W p l e (rmq 2 44) s m args below meth c H locs 0 0 Q (F0 m 31 ls [.int x28, .int x18])
      refine lv_icmp_eq (tgt := 41) hx hb dX5_unlikeBits_31 (by decide) (fun c3 => ?_) (fun c3 => ?_)
      · have hf := (if_pos c3).symm.trans hf
        refine lv_iinc (v := (v4 + (1 : Int32))) (lv' := [(4, .int (v4 + (1 : Int32))), (1, .ref (oa (13, j1))), (2, .int v2), (3, .int v3)]) hx hb dX5_unlikeBits_41 hl (k := 3) rfl rfl (by decide) rfl (fun ls hl => ?_)
        refine lv_goto (tgt := 5) hx hb dX5_unlikeBits_44 (by decide) ?_
        obtain rfl := Option.some.inj hf
        exact Kl1 _ rfl _ _ _ hW (lv_sub hl [1, 2, 3, 0] rfl)
      · have hf := (if_neg c3).symm.trans hf
        refine lv_iload_n hx hb dX5_unlikeBits_34 rfl (lv_at hl 2 rfl) ?_
        refine lv_iconst (v := 1) hx hb dX5_unlikeBits_35 (by decide) ?_
        refine lv_iload hx hb dX5_unlikeBits_36 (lv_at hl 3 rfl) ?_
        refine lv_ishl hx hb dX5_unlikeBits_38 ?_
        refine lv_ior hx hb dX5_unlikeBits_39 ?_
        refine lv_istore_n (lv' := [(3, .int (v3 ||| ((1 : Int32) <<< (v4 &&& 31)))), (1, .ref (oa (13, j1))), (2, .int v2), (4, .int v4)]) hx hb dX5_unlikeBits_40 rfl hl (by decide) rfl (fun ls hl => ?_)
        refine lv_iinc (v := (v4 + (1 : Int32))) (lv' := [(4, .int (v4 + (1 : Int32))), (3, .int (v3 ||| ((1 : Int32) <<< (v4 &&& 31)))), (1, .ref (oa (13, j1))), (2, .int v2)]) hx hb dX5_unlikeBits_41 hl (k := 3) rfl rfl (by decide) rfl (fun ls hl => ?_)
        refine lv_goto (tgt := 5) hx hb dX5_unlikeBits_44 (by decide) ?_
        obtain rfl := Option.some.inj hf
        exact Kl1 _ rfl _ _ _ hW (lv_sub hl [2, 3, 1, 0] rfl)
  exact L5 (0 : Int32) (0 : Int32) _ _ _ hf hW (lv_sub hl [3, 4, 1, 0] rfl)
set_option maxHeartbeats 4000000 in
set_option maxRecDepth 100000 in
theorem c_X5_gatherDoubts {l : Launch} {D : va_G} {tc : Nat → ClassId} {ro : Ro} {oa : Ky → Nat} {aa : Nat → Nat} {sh : Sh} {ln : Nat → Nat} {j1 : Nat} {μ : Mm} {v2 : Int32} {res : Mm} (hwf : WfS sh) (hj1 : sh 2 j1 = 1) (hf : f_X5_gatherDoubts sh ln j1 μ v2 = some res) : Ct l D tc ro (faB oa aa sh) (feB tc oa aa sh ln) yX5_gatherDoubts cX5_gatherDoubts 5 none (rmq 3 68) [.ref (oa (5, 0)), .ref (oa (13, j1)), .int v2] μ none res := by
  refine Ct.of (by decide) (Nat.le_of_ble_eq_true rfl) (fun p e s m args below meth c A C hr hk hW ls hl => ?_)
  have hx := C.1.1
  have hb := C.1.2.1
  obtain ⟨Q, hQ⟩ : ∃ Q, Q = MQ below (Ctq D (faB oa aa sh) (feB tc oa aa sh ln) none res A) args s 0 0 A := ⟨_, rfl⟩
  rw [← hQ]
  have hl : lv_has ls 5 [(0, .ref (oa (5, 0))), (1, .ref (oa (13, j1))), (2, .int v2)] := hl
  unfold f_X5_gatherDoubts at hf
  refine lv_aload_n hx hb dX5_gatherDoubts_0 rfl (lv_at hl 0 rfl) ?_
  refine lv_iconst (v := 0) hx hb dX5_gatherDoubts_1 (by decide) ?_
  refine pf_X5_56 C hW dX5_gatherDoubts_2 (fun H locs hW => ?_)
  refine lv_aload_n hx hb dX5_gatherDoubts_5 rfl (lv_at hl 1 rfl) ?_
  refine lv_iload_n hx hb dX5_gatherDoubts_6 rfl (lv_at hl 2 rfl) ?_
  refine lv_aload_n hx hb dX5_gatherDoubts_7 rfl (lv_at hl 1 rfl) ?_
  refine gf_X5_59 C hW hj1 dX5_gatherDoubts_8 ?_
  obtain ⟨x11, h11, hf⟩ := bd_of hf
  refine r_callV (k := ((13, j1) : Ky)) C hW hl lk_X5_62 (c_X6_group hwf hj1 h11) ⟨rfl, rfl⟩ ⟨Nat.le_of_ble_eq_true rfl, Nat.le_of_ble_eq_true rfl⟩ rfl (faB_13 hj1) rfl (As := [.int v2, .int ((mst μ (5, 0) 2 (0 : Int32)) (13, j1) 3)]) (rest := []) rfl rfl (Nat.le_of_ble_eq_true rfl) dX5_gatherDoubts_11 ⟨Nat.zero_le _, Nat.zero_le _⟩ (fun H locs hW => ?_)
  show W p l e (rmq 3 68) s m args below meth c H locs 0 0 Q (F0 m 14 ls [.int x11])
  refine lv_istore_n (lv' := [(3, .int x11), (0, .ref (oa (5, 0))), (1, .ref (oa (13, j1))), (2, .int v2)]) hx hb dX5_gatherDoubts_14 rfl hl (by decide) rfl (fun ls hl => ?_)
  refine lv_iconst (v := 0) hx hb dX5_gatherDoubts_15 (by decide) ?_
  refine lv_istore (lv' := [(4, .int (0 : Int32)), (3, .int x11), (0, .ref (oa (5, 0))), (1, .ref (oa (13, j1))), (2, .int v2)]) hx hb dX5_gatherDoubts_16 hl (by decide) rfl (fun ls hl => ?_)
  have L18 : ∀ (μ : Mm) (v3 v4 : Int32) (H : Heap) (locs : List Loc) (ls : Array Slot), Wh (fun z : Mm × Int32 => f_X5_gatherDoubts_L18 sh ln j1 v2 v3 z.1 z.2) (μ, v4) = some res → Wd D (faB oa aa sh) (feB tc oa aa sh ln) A s.heap μ H locs → lv_has ls 5 [(0, .ref (oa (5, 0))), (1, .ref (oa (13, j1))), (2, .int v2), (3, .int v3), (4, .int v4)] → W p l e (rmq 3 68) s m args below meth c H locs 0 0 Q (F0 m 18 ls []) := by
    intro μ v3 v4 H locs ls hf hW hl
    refine Wh_rule hf (fun z : Mm × Int32 => ∀ (H : Heap) (locs : List Loc) (ls : Array Slot), Wd D (faB oa aa sh) (feB tc oa aa sh ln) A s.heap z.1 H locs → lv_has ls 5 [(0, .ref (oa (5, 0))), (1, .ref (oa (13, j1))), (2, .int v2), (3, .int v3), (4, .int z.2)] → W p l e (rmq 3 68) s m args below meth c H locs 0 0 Q (F0 m 18 ls [])) (fun z o1 hf Kl1 Kr1 => ?_) _ _ _ hW hl
    obtain ⟨μ, v4⟩ := z
    intro H locs ls hW hl
    have hf : f_X5_gatherDoubts_L18 sh ln j1 v2 v3 μ v4 = some o1 := hf
    unfold f_X5_gatherDoubts_L18 at hf
    have hW : Wd D (faB oa aa sh) (feB tc oa aa sh ln) A s.heap μ H locs := hW
    have hl : lv_has ls 5 [(0, .ref (oa (5, 0))), (1, .ref (oa (13, j1))), (2, .int v2), (3, .int v3), (4, .int v4)] := hl
    refine lv_iload hx hb dX5_gatherDoubts_18 (lv_at hl 4 rfl) ?_
    refine lv_aload_n hx hb dX5_gatherDoubts_20 rfl (lv_at hl 1 rfl) ?_
    refine gf_X5_66 C hW hj1 dX5_gatherDoubts_21 ?_
    refine lv_icmp_ge (tgt := 100) hx hb dX5_gatherDoubts_24 (by decide) (fun c1 => ?_) (fun c1 => ?_)
    · have hf := (if_pos c1).symm.trans hf
      obtain ⟨x9002, hf, hx9002⟩ := map_of hf
      have e9002 := (Kr1 _ hx9002.symm).symm
      subst e9002
      obtain rfl := Option.some.inj hf
      rw [hQ]
      exact r_vret C hr hk hW rfl rfl dX5_gatherDoubts_100
    · have hf := (if_neg c1).symm.trans hf
      refine lv_aload_n hx hb dX5_gatherDoubts_27 rfl (lv_at hl 1 rfl) ?_
      refine lv_iload hx hb dX5_gatherDoubts_28 (lv_at hl 4 rfl) ?_
      obtain ⟨x30, h30, hf⟩ := bd_of hf
      refine r_callV (k := ((13, j1) : Ky)) C hW hl lk_X5_69 (c_X6_stands hwf hj1 h30) ⟨rfl, rfl⟩ ⟨Nat.le_of_ble_eq_true rfl, Nat.le_of_ble_eq_true rfl⟩ rfl (faB_13 hj1) rfl (As := [.int v4]) (rest := []) rfl rfl (Nat.le_of_ble_eq_true rfl) dX5_gatherDoubts_30 ⟨Nat.zero_le _, Nat.zero_le _⟩ (fun H locs hW => ?_)
      show W p l e (rmq 3 68) s m args below meth c H locs 0 0 Q (F0 m 33 ls [.int x30])
      refine lv_if_eq (tgt := 94) hx hb dX5_gatherDoubts_33 (by decide) (fun c3 => ?_) (fun c3 => ?_)
      · have hf := (if_pos c3).symm.trans hf
        refine lv_iinc (v := (v4 + (1 : Int32))) (lv' := [(4, .int (v4 + (1 : Int32))), (0, .ref (oa (5, 0))), (1, .ref (oa (13, j1))), (2, .int v2), (3, .int v3)]) hx hb dX5_gatherDoubts_94 hl (k := 4) rfl rfl (by decide) rfl (fun ls hl => ?_)
        refine lv_goto (tgt := 18) hx hb dX5_gatherDoubts_97 (by decide) ?_
        obtain rfl := Option.some.inj hf
        exact Kl1 _ rfl _ _ _ hW (lv_sub hl [1, 2, 3, 4, 0] rfl)
      · have hf := (if_neg c3).symm.trans hf
        refine lv_aload_n hx hb dX5_gatherDoubts_36 rfl (lv_at hl 1 rfl) ?_
        refine lv_iload_n hx hb dX5_gatherDoubts_37 rfl (lv_at hl 2 rfl) ?_
        refine lv_iload hx hb dX5_gatherDoubts_38 (lv_at hl 4 rfl) ?_
        obtain ⟨x40, h40, hf⟩ := bd_of hf
        refine r_callV (k := ((13, j1) : Ky)) C hW hl lk_X5_62 (c_X6_group hwf hj1 h40) ⟨rfl, rfl⟩ ⟨Nat.le_of_ble_eq_true rfl, Nat.le_of_ble_eq_true rfl⟩ rfl (faB_13 hj1) rfl (As := [.int v2, .int v4]) (rest := []) rfl rfl (Nat.le_of_ble_eq_true rfl) dX5_gatherDoubts_40 ⟨Nat.zero_le _, Nat.zero_le _⟩ (fun H locs hW => ?_)
        show W p l e (rmq 3 68) s m args below meth c H locs 0 0 Q (F0 m 43 ls [.int x40])
        refine lv_iload_n hx hb dX5_gatherDoubts_43 rfl (lv_at hl 3 rfl) ?_
        refine lv_icmp_ne (tgt := 94) hx hb dX5_gatherDoubts_44 (by decide) (fun c4 => ?_) (fun c4 => ?_)
        · have hf := (if_neg c4).symm.trans hf
          refine lv_iinc (v := (v4 + (1 : Int32))) (lv' := [(4, .int (v4 + (1 : Int32))), (0, .ref (oa (5, 0))), (1, .ref (oa (13, j1))), (2, .int v2), (3, .int v3)]) hx hb dX5_gatherDoubts_94 hl (k := 4) rfl rfl (by decide) rfl (fun ls hl => ?_)
          refine lv_goto (tgt := 18) hx hb dX5_gatherDoubts_97 (by decide) ?_
          obtain rfl := Option.some.inj hf
          exact Kl1 _ rfl _ _ _ hW (lv_sub hl [1, 2, 3, 4, 0] rfl)
        · have hf := (if_pos c4).symm.trans hf
          refine lv_aload_n hx hb dX5_gatherDoubts_47 rfl (lv_at hl 1 rfl) ?_
          refine lv_iload hx hb dX5_gatherDoubts_48 (lv_at hl 4 rfl) ?_
          refine lv_iload_n hx hb dX5_gatherDoubts_50 rfl (lv_at hl 2 rfl) ?_
          obtain ⟨x51, h51, hf⟩ := bd_of hf
          refine r_callV (k := ((13, j1) : Ky)) C hW hl lk_X5_72 (c_X6_figure hwf hj1 h51) ⟨rfl, rfl⟩ ⟨Nat.le_of_ble_eq_true rfl, Nat.le_of_ble_eq_true rfl⟩ rfl (faB_13 hj1) rfl (As := [.int v4, .int v2]) (rest := []) rfl rfl (Nat.le_of_ble_eq_true rfl) dX5_gatherDoubts_51 ⟨Nat.zero_le _, Nat.zero_le _⟩ (fun H locs hW => ?_)
          show W p l e (rmq 3 68) s m args below meth c H locs 0 0 Q (F0 m 54 ls [.int x51])
          refine lv_aload_n hx hb dX5_gatherDoubts_54 rfl (lv_at hl 1 rfl) ?_
          refine lv_aload_n hx hb dX5_gatherDoubts_55 rfl (lv_at hl 1 rfl) ?_
          refine gf_X5_59 C hW hj1 dX5_gatherDoubts_56 ?_
          refine lv_iload_n hx hb dX5_gatherDoubts_59 rfl (lv_at hl 2 rfl) ?_
          obtain ⟨x60, h60, hf⟩ := bd_of hf
          refine r_callV (k := ((13, j1) : Ky)) C hW hl lk_X5_72 (c_X6_figure hwf hj1 h60) ⟨rfl, rfl⟩ ⟨Nat.le_of_ble_eq_true rfl, Nat.le_of_ble_eq_true rfl⟩ rfl (faB_13 hj1) rfl (As := [.int (μ (13, j1) 3), .int v2]) (rest := [.int x51]) rfl rfl (Nat.le_of_ble_eq_true rfl) dX5_gatherDoubts_60 ⟨Nat.zero_le _, Nat.zero_le _⟩ (fun H locs hW => ?_)
          show W p l e (rmq 3 68) s m args below meth c H locs 0 0 Q (F0 m 63 ls [.int x60, .int x51])
          refine lv_icmp_eq (tgt := 94) hx hb dX5_gatherDoubts_63 (by decide) (fun c5 => ?_) (fun c5 => ?_)
          · have hf := (if_pos c5).symm.trans hf
            refine lv_iinc (v := (v4 + (1 : Int32))) (lv' := [(4, .int (v4 + (1 : Int32))), (0, .ref (oa (5, 0))), (1, .ref (oa (13, j1))), (2, .int v2), (3, .int v3)]) hx hb dX5_gatherDoubts_94 hl (k := 4) rfl rfl (by decide) rfl (fun ls hl => ?_)
            refine lv_goto (tgt := 18) hx hb dX5_gatherDoubts_97 (by decide) ?_
            obtain rfl := Option.some.inj hf
            exact Kl1 _ rfl _ _ _ hW (lv_sub hl [1, 2, 3, 4, 0] rfl)
          · have hf := (if_neg c5).symm.trans hf
            refine lv_aload_n hx hb dX5_gatherDoubts_66 rfl (lv_at hl 0 rfl) ?_
            refine gf_X5_16 C hW dX5_gatherDoubts_67 ?_
            refine lv_aload_n hx hb dX5_gatherDoubts_70 rfl (lv_at hl 0 rfl) ?_
            refine gf_X5_56 C hW dX5_gatherDoubts_71 ?_
            refine lv_aload_n hx hb dX5_gatherDoubts_74 rfl (lv_at hl 0 rfl) ?_
            refine lv_aload_n hx hb dX5_gatherDoubts_75 rfl (lv_at hl 1 rfl) ?_
            refine lv_iload hx hb dX5_gatherDoubts_76 (lv_at hl 4 rfl) ?_
            obtain ⟨x78, h78, hf⟩ := bd_of hf
            refine r_callV (k := ((5, 0) : Ky)) C hW hl lk_X5_75 (c_X5_unlikeBits hwf hj1 h78) ⟨rfl, rfl⟩ ⟨Nat.le_of_ble_eq_true rfl, Nat.le_of_ble_eq_true rfl⟩ rfl rfl rfl (As := [.ref (oa (13, j1)), .int v4]) (rest := [.int (μ (5, 0) 2), .ref (oa (11, 10))]) rfl rfl (Nat.le_of_ble_eq_true rfl) dX5_gatherDoubts_78 ⟨Nat.zero_le _, Nat.zero_le _⟩ (fun H locs hW => ?_)
            show W p l e (rmq 3 68) s m args below meth c H locs 0 0 Q (F0 m 81 ls [.int x78, .int (μ (5, 0) 2), .ref (oa (11, 10))])
            obtain ⟨x81, h81, hf⟩ := bd_of hf
            refine r_callV (k := ((11, 10) : Ky)) C hW hl lk_X5_79 (c_X1_put hwf rfl h81) ⟨rfl, rfl⟩ ⟨Nat.le_of_ble_eq_true rfl, Nat.le_of_ble_eq_true rfl⟩ rfl (faB_11 rfl) rfl (As := [.int (μ (5, 0) 2), .int x78]) (rest := []) rfl rfl (Nat.le_of_ble_eq_true rfl) dX5_gatherDoubts_81 ⟨Nat.zero_le _, Nat.zero_le _⟩ (fun H locs hW => ?_)
            show W p l e (rmq 3 68) s m args below meth c H locs 0 0 Q (F0 m 84 ls [])
            refine lv_aload_n hx hb dX5_gatherDoubts_84 rfl (lv_at hl 0 rfl) ?_
            refine lv_dup hx hb dX5_gatherDoubts_85 rfl ?_
            refine gf_X5_56 C hW dX5_gatherDoubts_86 ?_
            refine lv_iconst (v := 1) hx hb dX5_gatherDoubts_89 (by decide) ?_
            refine lv_iadd hx hb dX5_gatherDoubts_90 ?_
            refine pf_X5_56 C hW dX5_gatherDoubts_91 (fun H locs hW => ?_)
            refine lv_iinc (v := (v4 + (1 : Int32))) (lv' := [(4, .int (v4 + (1 : Int32))), (0, .ref (oa (5, 0))), (1, .ref (oa (13, j1))), (2, .int v2), (3, .int v3)]) hx hb dX5_gatherDoubts_94 hl (k := 4) rfl rfl (by decide) rfl (fun ls hl => ?_)
            refine lv_goto (tgt := 18) hx hb dX5_gatherDoubts_97 (by decide) ?_
            obtain rfl := Option.some.inj hf
            exact Kl1 _ rfl _ _ _ hW (lv_sub hl [1, 2, 3, 4, 0] rfl)
  exact L18 (mst μ (5, 0) 2 (0 : Int32)) x11 (0 : Int32) _ _ _ hf hW (lv_sub hl [2, 3, 4, 1, 0] rfl)
set_option maxHeartbeats 4000000 in
set_option maxRecDepth 100000 in
theorem c_X5_settles {l : Launch} {D : va_G} {tc : Nat → ClassId} {ro : Ro} {oa : Ky → Nat} {aa : Nat → Nat} {sh : Sh} {ln : Nat → Nat} {μ : Mm} {v1 : Int32} {res : Int32} (hwf : WfS sh) (hf : f_X5_settles sh ln μ v1 = some res) : Ct l D tc ro (faB oa aa sh) (feB tc oa aa sh ln) yX5_settles cX5_settles 3 (some .boolean) (rmq 1 21) [.ref (oa (5, 0)), .int v1] μ (some (.int res)) μ := by
  refine Ct.of (by decide) (Nat.le_of_ble_eq_true rfl) (fun p e s m args below meth c A C hr hk hW ls hl => ?_)
  have hx := C.1.1
  have hb := C.1.2.1
  obtain ⟨Q, hQ⟩ : ∃ Q, Q = MQ below (Ctq D (faB oa aa sh) (feB tc oa aa sh ln) (some (.int res)) μ A) args s 0 0 A := ⟨_, rfl⟩
  rw [← hQ]
  have hl : lv_has ls 3 [(0, .ref (oa (5, 0))), (1, .int v1)] := hl
  unfold f_X5_settles at hf
  refine lv_iconst (v := 0) hx hb dX5_settles_0 (by decide) ?_
  refine lv_istore_n (lv' := [(2, .int (0 : Int32)), (0, .ref (oa (5, 0))), (1, .int v1)]) hx hb dX5_settles_1 rfl hl (by decide) rfl (fun ls hl => ?_)
  have L2 : ∀ (v2 : Int32) (H : Heap) (locs : List Loc) (ls : Array Slot), Wh (fun z : Int32 => f_X5_settles_L2 sh ln v1 μ z) (v2) = some res → Wd D (faB oa aa sh) (feB tc oa aa sh ln) A s.heap μ H locs → lv_has ls 3 [(0, .ref (oa (5, 0))), (1, .int v1), (2, .int v2)] → W p l e (rmq 1 21) s m args below meth c H locs 0 0 Q (F0 m 2 ls []) := by
    intro v2 H locs ls hf hW hl
    refine Wh_rule hf (fun z : Int32 => ∀ (H : Heap) (locs : List Loc) (ls : Array Slot), Wd D (faB oa aa sh) (feB tc oa aa sh ln) A s.heap μ H locs → lv_has ls 3 [(0, .ref (oa (5, 0))), (1, .int v1), (2, .int z)] → W p l e (rmq 1 21) s m args below meth c H locs 0 0 Q (F0 m 2 ls [])) (fun z o1 hf Kl1 Kr1 => ?_) _ _ _ hW hl
    obtain ⟨v2, ez⟩ : ∃ q, q = z := ⟨_, rfl⟩
    subst ez
    intro H locs ls hW hl
    have hf : f_X5_settles_L2 sh ln v1 μ v2 = some o1 := hf
    unfold f_X5_settles_L2 at hf
    have hW : Wd D (faB oa aa sh) (feB tc oa aa sh ln) A s.heap μ H locs := hW
    have hl : lv_has ls 3 [(0, .ref (oa (5, 0))), (1, .int v1), (2, .int v2)] := hl
    refine lv_iload_n hx hb dX5_settles_2 rfl (lv_at hl 2 rfl) ?_
    refine lv_aload_n hx hb dX5_settles_3 rfl (lv_at hl 0 rfl) ?_
    refine gf_X5_56 C hW dX5_settles_4 ?_
    refine lv_icmp_ge (tgt := 31) hx hb dX5_settles_7 (by decide) (fun c1 => ?_) (fun c1 => ?_)
    · have hf := (if_pos c1).symm.trans hf
      obtain ⟨x9002, hf, hx9002⟩ := map_of hf
      have e9002 := (Kr1 _ hx9002.symm).symm
      subst e9002
      refine lv_iconst (v := 1) hx hb dX5_settles_31 (by decide) ?_
      obtain rfl := Option.some.inj hf
      rw [hQ]
      exact r_zret C hr hk hW (Or.inr rfl) rfl rfl dX5_settles_32
    · have hf := (if_neg c1).symm.trans hf
      refine lv_aload_n hx hb dX5_settles_10 rfl (lv_at hl 0 rfl) ?_
      refine gf_X5_16 C hW dX5_settles_11 ?_
      refine lv_iload_n hx hb dX5_settles_14 rfl (lv_at hl 2 rfl) ?_
      obtain ⟨x15, h15, hf⟩ := bd_of hf
      refine r_callV (k := ((11, 10) : Ky)) C hW hl lk_X5_83 (c_X1_at hwf rfl h15) ⟨rfl, rfl⟩ ⟨Nat.le_of_ble_eq_true rfl, Nat.le_of_ble_eq_true rfl⟩ rfl (faB_11 rfl) rfl (As := [.int v2]) (rest := []) rfl rfl (Nat.le_of_ble_eq_true rfl) dX5_settles_15 ⟨Nat.zero_le _, Nat.zero_le _⟩ (fun H locs hW => ?_)
      show W p l e (rmq 1 21) s m args below meth c H locs 0 0 Q (F0 m 18 ls [.int x15])
      refine lv_iload_n hx hb dX5_settles_18 rfl (lv_at hl 1 rfl) ?_
      refine lv_iand hx hb dX5_settles_19 ?_
      refine lv_if_ne (tgt := 25) hx hb dX5_settles_20 (by decide) (fun c3 => ?_) (fun c3 => ?_)
      · have hf := (if_neg c3).symm.trans hf
        refine lv_iinc (v := (v2 + (1 : Int32))) (lv' := [(2, .int (v2 + (1 : Int32))), (0, .ref (oa (5, 0))), (1, .int v1)]) hx hb dX5_settles_25 hl (k := 2) rfl rfl (by decide) rfl (fun ls hl => ?_)
        refine lv_goto (tgt := 2) hx hb dX5_settles_28 (by decide) ?_
        obtain rfl := Option.some.inj hf
        exact Kl1 _ rfl _ _ _ hW (lv_sub hl [1, 2, 0] rfl)
      · have hf := (if_pos c3).symm.trans hf
        obtain ⟨x9004, hf, hx9004⟩ := map_of hf
        have e9004 := (Kr1 _ hx9004.symm).symm
        subst e9004
        refine lv_iconst (v := 0) hx hb dX5_settles_23 (by decide) ?_
        obtain rfl := Option.some.inj hf
        rw [hQ]
        exact r_zret C hr hk hW (Or.inl rfl) rfl rfl dX5_settles_24
  exact L2 (0 : Int32) _ _ _ hf hW (lv_sub hl [1, 2, 0] rfl)
set_option maxHeartbeats 4000000 in
set_option maxRecDepth 100000 in
theorem c_X5_fewestBacks {l : Launch} {D : va_G} {tc : Nat → ClassId} {ro : Ro} {oa : Ky → Nat} {aa : Nat → Nat} {sh : Sh} {ln : Nat → Nat} {j1 : Nat} {μ : Mm} {v2 : Int32} {res : Int32 × Mm} (hwf : WfS sh) (hj1 : sh 2 j1 = 1) (hf : f_X5_fewestBacks sh ln j1 μ v2 = some res) : Ct l D tc ro (faB oa aa sh) (feB tc oa aa sh ln) yX5_fewestBacks cX5_fewestBacks 6 (some .int) (rmq 4 92) [.ref (oa (5, 0)), .ref (oa (13, j1)), .int v2] μ (some (.int res.1)) res.2 := by
  refine Ct.of (by decide) (Nat.le_of_ble_eq_true rfl) (fun p e s m args below meth c A C hr hk hW ls hl => ?_)
  have hx := C.1.1
  have hb := C.1.2.1
  obtain ⟨Q, hQ⟩ : ∃ Q, Q = MQ below (Ctq D (faB oa aa sh) (feB tc oa aa sh ln) (some (.int res.1)) res.2 A) args s 0 0 A := ⟨_, rfl⟩
  rw [← hQ]
  have hl : lv_has ls 6 [(0, .ref (oa (5, 0))), (1, .ref (oa (13, j1))), (2, .int v2)] := hl
  unfold f_X5_fewestBacks at hf
  refine lv_aload_n hx hb dX5_fewestBacks_0 rfl (lv_at hl 0 rfl) ?_
  refine lv_aload_n hx hb dX5_fewestBacks_1 rfl (lv_at hl 1 rfl) ?_
  refine lv_iload_n hx hb dX5_fewestBacks_2 rfl (lv_at hl 2 rfl) ?_
  obtain ⟨x3, h3, hf⟩ := bd_of hf
  refine r_callV (k := ((5, 0) : Ky)) C hW hl lk_X5_38 (c_X5_gatherDoubts hwf hj1 h3) ⟨rfl, rfl⟩ ⟨Nat.le_of_ble_eq_true rfl, Nat.le_of_ble_eq_true rfl⟩ rfl rfl rfl (As := [.ref (oa (13, j1)), .int v2]) (rest := []) rfl rfl (Nat.le_of_ble_eq_true rfl) dX5_fewestBacks_3 ⟨Nat.zero_le _, Nat.zero_le _⟩ (fun H locs hW => ?_)
  show W p l e (rmq 4 92) s m args below meth c H locs 0 0 Q (F0 m 6 ls [])
  refine lv_bipush (v := -2) hx hb dX5_fewestBacks_6 (by decide) ?_
  refine lv_istore_n (lv' := [(3, .int (-2 : Int32)), (0, .ref (oa (5, 0))), (1, .ref (oa (13, j1))), (2, .int v2)]) hx hb dX5_fewestBacks_8 rfl hl (by decide) rfl (fun ls hl => ?_)
  refine lv_iconst (v := 0) hx hb dX5_fewestBacks_9 (by decide) ?_
  refine lv_istore (lv' := [(4, .int (0 : Int32)), (3, .int (-2 : Int32)), (0, .ref (oa (5, 0))), (1, .ref (oa (13, j1))), (2, .int v2)]) hx hb dX5_fewestBacks_10 hl (by decide) rfl (fun ls hl => ?_)
  have L12 : ∀ (μ : Mm) (v3 v4 : Int32) (H : Heap) (locs : List Loc) (ls : Array Slot), Wh (fun z : Int32 × Int32 => f_X5_fewestBacks_L12 sh ln j1 v2 μ z.1 z.2) (v3, v4) = some res → Wd D (faB oa aa sh) (feB tc oa aa sh ln) A s.heap μ H locs → lv_has ls 6 [(0, .ref (oa (5, 0))), (1, .ref (oa (13, j1))), (2, .int v2), (3, .int v3), (4, .int v4)] → W p l e (rmq 4 92) s m args below meth c H locs 0 0 Q (F0 m 12 ls []) := by
    intro μ v3 v4 H locs ls hf hW hl
    refine Wh_rule hf (fun z : Int32 × Int32 => ∀ (H : Heap) (locs : List Loc) (ls : Array Slot), Wd D (faB oa aa sh) (feB tc oa aa sh ln) A s.heap μ H locs → lv_has ls 6 [(0, .ref (oa (5, 0))), (1, .ref (oa (13, j1))), (2, .int v2), (3, .int z.1), (4, .int z.2)] → W p l e (rmq 4 92) s m args below meth c H locs 0 0 Q (F0 m 12 ls [])) (fun z o1 hf Kl1 Kr1 => ?_) _ _ _ hW hl
    obtain ⟨v3, v4⟩ := z
    intro H locs ls hW hl
    have hf : f_X5_fewestBacks_L12 sh ln j1 v2 μ v3 v4 = some o1 := hf
    unfold f_X5_fewestBacks_L12 at hf
    have hW : Wd D (faB oa aa sh) (feB tc oa aa sh ln) A s.heap μ H locs := hW
    have hl : lv_has ls 6 [(0, .ref (oa (5, 0))), (1, .ref (oa (13, j1))), (2, .int v2), (3, .int v3), (4, .int v4)] := hl
    have J46 : ∀ (v3 v4 s0 : Int32) (H : Heap) (locs : List Loc) (ls : Array Slot), f_X5_fewestBacks_J46 sh ln j1 μ v2 v3 v4 s0 = some o1 → Wd D (faB oa aa sh) (feB tc oa aa sh ln) A s.heap μ H locs → lv_has ls 6 [(0, .ref (oa (5, 0))), (1, .ref (oa (13, j1))), (2, .int v2), (3, .int v3), (4, .int v4)] → W p l e (rmq 4 92) s m args below meth c H locs 0 0 Q (F0 m 46 ls [.int s0]) := by
      intro v3 v4 s0 H locs ls hf hW hl
      unfold f_X5_fewestBacks_J46 at hf
      refine lv_istore (lv' := [(5, .int s0), (0, .ref (oa (5, 0))), (1, .ref (oa (13, j1))), (2, .int v2), (3, .int v3), (4, .int v4)]) hx hb dX5_fewestBacks_46 hl (by decide) rfl (fun ls hl => ?_)
      refine lv_iload hx hb dX5_fewestBacks_48 (lv_at hl 0 rfl) ?_
      refine lv_if_eq (tgt := 74) hx hb dX5_fewestBacks_50 (by decide) (fun c1 => ?_) (fun c1 => ?_)
      · have hf := (if_pos c1).symm.trans hf
        refine lv_iinc (v := (v4 + (1 : Int32))) (lv' := [(4, .int (v4 + (1 : Int32))), (5, .int s0), (0, .ref (oa (5, 0))), (1, .ref (oa (13, j1))), (2, .int v2), (3, .int v3)]) hx hb dX5_fewestBacks_74 hl (k := 5) rfl rfl (by decide) rfl (fun ls hl => ?_)
        refine lv_goto (tgt := 12) hx hb dX5_fewestBacks_77 (by decide) ?_
        obtain rfl := Option.some.inj hf
        exact Kl1 _ rfl _ _ _ hW (lv_sub hl [2, 3, 4, 5, 0] rfl)
      · have hf := (if_neg c1).symm.trans hf
        refine lv_iload hx hb dX5_fewestBacks_53 (lv_at hl 5 rfl) ?_
        refine lv_iload_n hx hb dX5_fewestBacks_55 rfl (lv_at hl 3 rfl) ?_
        refine lv_ishr hx hb dX5_fewestBacks_56 ?_
        refine lv_iconst (v := 1) hx hb dX5_fewestBacks_57 (by decide) ?_
        refine lv_iand hx hb dX5_fewestBacks_58 ?_
        refine lv_if_ne (tgt := 74) hx hb dX5_fewestBacks_59 (by decide) (fun c2 => ?_) (fun c2 => ?_)
        · have hf := (if_neg c2).symm.trans hf
          refine lv_iinc (v := (v4 + (1 : Int32))) (lv' := [(4, .int (v4 + (1 : Int32))), (5, .int s0), (0, .ref (oa (5, 0))), (1, .ref (oa (13, j1))), (2, .int v2), (3, .int v3)]) hx hb dX5_fewestBacks_74 hl (k := 5) rfl rfl (by decide) rfl (fun ls hl => ?_)
          refine lv_goto (tgt := 12) hx hb dX5_fewestBacks_77 (by decide) ?_
          obtain rfl := Option.some.inj hf
          exact Kl1 _ rfl _ _ _ hW (lv_sub hl [2, 3, 4, 5, 0] rfl)
        · have hf := (if_pos c2).symm.trans hf
          refine lv_aload_n hx hb dX5_fewestBacks_62 rfl (lv_at hl 1 rfl) ?_
          refine lv_iload hx hb dX5_fewestBacks_63 (lv_at hl 5 rfl) ?_
          obtain ⟨x65, h65, hf⟩ := bd_of hf
          refine r_callV (k := ((5, 0) : Ky)) C hW hl lk_X5_52 (c_X5_settles hwf h65) ⟨rfl, rfl⟩ ⟨Nat.le_of_ble_eq_true rfl, Nat.le_of_ble_eq_true rfl⟩ rfl rfl rfl (As := [.int v4]) (rest := []) rfl rfl (Nat.le_of_ble_eq_true rfl) dX5_fewestBacks_65 ⟨Nat.zero_le _, Nat.zero_le _⟩ (fun H locs hW => ?_)
          show W p l e (rmq 4 92) s m args below meth c H locs 0 0 Q (F0 m 68 ls [.int x65])
          refine lv_if_eq (tgt := 74) hx hb dX5_fewestBacks_68 (by decide) (fun c3 => ?_) (fun c3 => ?_)
          · have hf := (if_pos c3).symm.trans hf
            refine lv_iinc (v := (v4 + (1 : Int32))) (lv' := [(4, .int (v4 + (1 : Int32))), (5, .int s0), (0, .ref (oa (5, 0))), (1, .ref (oa (13, j1))), (2, .int v2), (3, .int v3)]) hx hb dX5_fewestBacks_74 hl (k := 5) rfl rfl (by decide) rfl (fun ls hl => ?_)
            refine lv_goto (tgt := 12) hx hb dX5_fewestBacks_77 (by decide) ?_
            obtain rfl := Option.some.inj hf
            exact Kl1 _ rfl _ _ _ hW (lv_sub hl [2, 3, 4, 5, 0] rfl)
          · have hf := (if_neg c3).symm.trans hf
            refine lv_iload hx hb dX5_fewestBacks_71 (lv_at hl 5 rfl) ?_
            refine lv_istore_n (lv' := [(3, .int v4), (5, .int s0), (0, .ref (oa (5, 0))), (1, .ref (oa (13, j1))), (2, .int v2), (4, .int v4)]) hx hb dX5_fewestBacks_73 rfl hl (by decide) rfl (fun ls hl => ?_)
            refine lv_iinc (v := (v4 + (1 : Int32))) (lv' := [(4, .int (v4 + (1 : Int32))), (3, .int v4), (5, .int s0), (0, .ref (oa (5, 0))), (1, .ref (oa (13, j1))), (2, .int v2)]) hx hb dX5_fewestBacks_74 hl (k := 5) rfl rfl (by decide) rfl (fun ls hl => ?_)
            refine lv_goto (tgt := 12) hx hb dX5_fewestBacks_77 (by decide) ?_
            obtain rfl := Option.some.inj hf
            exact Kl1 _ rfl _ _ _ hW (lv_sub hl [3, 4, 5, 1, 0] rfl)
    refine lv_iload hx hb dX5_fewestBacks_12 (lv_at hl 4 rfl) ?_
    refine lv_iconst (v := 1) hx hb dX5_fewestBacks_14 (by decide) ?_
    refine lv_aload_n hx hb dX5_fewestBacks_15 rfl (lv_at hl 1 rfl) ?_
    refine gf_X5_42 C hW hj1 dX5_fewestBacks_16 ?_
    refine lv_ishl hx hb dX5_fewestBacks_19 ?_
    refine lv_icmp_ge (tgt := 80) hx hb dX5_fewestBacks_20 (by decide) (fun c4 => ?_) (fun c4 => ?_)
    · have hf := (if_pos c4).symm.trans hf
      obtain ⟨x9005, hf, hx9005⟩ := map_of hf
      have e9005 := (Kr1 _ hx9005.symm).symm
      subst e9005
      refine lv_iload_n hx hb dX5_fewestBacks_80 rfl (lv_at hl 3 rfl) ?_
      obtain rfl := Option.some.inj hf
      rw [hQ]
      exact r_iret C hr hk hW rfl rfl dX5_fewestBacks_81
    · have hf := (if_neg c4).symm.trans hf
      refine lv_iload_n hx hb dX5_fewestBacks_23 rfl (lv_at hl 3 rfl) ?_
      refine lv_bipush (v := -2) hx hb dX5_fewestBacks_24 (by decide) ?_
      refine lv_icmp_eq (tgt := 41) hx hb dX5_fewestBacks_26 (by decide) (fun c6 => ?_) (fun c6 => ?_)
      · have hf := (if_pos c6).symm.trans hf
        refine lv_iconst (v := 1) hx hb dX5_fewestBacks_41 (by decide) ?_
        refine lv_goto (tgt := 46) hx hb dX5_fewestBacks_42 (by decide) ?_
        exact J46 v3 v4 (1 : Int32) _ _ _ hf hW (lv_sub hl [0, 1, 2, 3, 4] rfl)
      · have hf := (if_neg c6).symm.trans hf
        refine lv_iload hx hb dX5_fewestBacks_29 (lv_at hl 4 rfl) ?_
        obtain ⟨x31, h31, hf⟩ := bd_of hf
        refine r_callS C hW hl lk_X5_46 (c_J6_bitCount_0f7a4 h31) ⟨rfl, rfl⟩ ⟨Nat.le_of_ble_eq_true rfl, Nat.le_of_ble_eq_true rfl⟩ (As := [.int v4]) (rest := []) rfl rfl (Nat.le_of_ble_eq_true rfl) dX5_fewestBacks_31 ⟨Nat.zero_le _, Nat.zero_le _⟩ (fun H locs hW => ?_)
        show W p l e (rmq 4 92) s m args below meth c H locs 0 0 Q (F0 m 34 ls [.int x31])
        refine lv_iload_n hx hb dX5_fewestBacks_34 rfl (lv_at hl 3 rfl) ?_
        obtain ⟨x35, h35, hf⟩ := bd_of hf
        refine r_callS C hW hl lk_X5_46 (c_J6_bitCount_0f7a4 h35) ⟨rfl, rfl⟩ ⟨Nat.le_of_ble_eq_true rfl, Nat.le_of_ble_eq_true rfl⟩ (As := [.int v3]) (rest := [.int x31]) rfl rfl (Nat.le_of_ble_eq_true rfl) dX5_fewestBacks_35 ⟨Nat.zero_le _, Nat.zero_le _⟩ (fun H locs hW => ?_)
        show W p l e (rmq 4 92) s m args below meth c H locs 0 0 Q (F0 m 38 ls [.int x35, .int x31])
        refine lv_icmp_ge (tgt := 45) hx hb dX5_fewestBacks_38 (by decide) (fun c7 => ?_) (fun c7 => ?_)
        · have hf := (if_pos c7).symm.trans hf
          refine lv_iconst (v := 0) hx hb dX5_fewestBacks_45 (by decide) ?_
          exact J46 v3 v4 (0 : Int32) _ _ _ hf hW (lv_sub hl [0, 1, 2, 3, 4] rfl)
        · have hf := (if_neg c7).symm.trans hf
          refine lv_iconst (v := 1) hx hb dX5_fewestBacks_41 (by decide) ?_
          refine lv_goto (tgt := 46) hx hb dX5_fewestBacks_42 (by decide) ?_
          exact J46 v3 v4 (1 : Int32) _ _ _ hf hW (lv_sub hl [0, 1, 2, 3, 4] rfl)
  exact L12 x3 (-2 : Int32) (0 : Int32) _ _ _ hf hW (lv_sub hl [2, 3, 4, 1, 0] rfl)
set_option maxHeartbeats 4000000 in
set_option maxRecDepth 100000 in
theorem c_X5_bestMove {l : Launch} {D : va_G} {tc : Nat → ClassId} {ro : Ro} {oa : Ky → Nat} {aa : Nat → Nat} {sh : Sh} {ln : Nat → Nat} {j1 : Nat} {μ : Mm} {v2 v3 : Int32} {res : Int32 × Mm} (hwf : WfS sh) (hj1 : sh 2 j1 = 1) (hf : f_X5_bestMove sh ln j1 μ v2 v3 = some res) : Ct l D tc ro (faB oa aa sh) (feB tc oa aa sh ln) yX5_bestMove cX5_bestMove 9 (some .int) (rmq 1 22) [.ref (oa (5, 0)), .ref (oa (13, j1)), .int v2, .int v3] μ (some (.int res.1)) res.2 := by
  refine Ct.of (by decide) (Nat.le_of_ble_eq_true rfl) (fun p e s m args below meth c A C hr hk hW ls hl => ?_)
  have hx := C.1.1
  have hb := C.1.2.1
  obtain ⟨Q, hQ⟩ : ∃ Q, Q = MQ below (Ctq D (faB oa aa sh) (feB tc oa aa sh ln) (some (.int res.1)) res.2 A) args s 0 0 A := ⟨_, rfl⟩
  rw [← hQ]
  have hl : lv_has ls 9 [(0, .ref (oa (5, 0))), (1, .ref (oa (13, j1))), (2, .int v2), (3, .int v3)] := hl
  unfold f_X5_bestMove at hf
  refine lv_iconst (v := -1) hx hb dX5_bestMove_0 (by decide) ?_
  refine lv_istore (lv' := [(4, .int (-1 : Int32)), (0, .ref (oa (5, 0))), (1, .ref (oa (13, j1))), (2, .int v2), (3, .int v3)]) hx hb dX5_bestMove_1 hl (by decide) rfl (fun ls hl => ?_)
  refine lv_iconst (v := 0) hx hb dX5_bestMove_3 (by decide) ?_
  refine lv_istore (lv' := [(5, .int (0 : Int32)), (4, .int (-1 : Int32)), (0, .ref (oa (5, 0))), (1, .ref (oa (13, j1))), (2, .int v2), (3, .int v3)]) hx hb dX5_bestMove_4 hl (by decide) rfl (fun ls hl => ?_)
  refine lv_iconst (v := 0) hx hb dX5_bestMove_6 (by decide) ?_
  refine lv_istore (lv' := [(6, .int (0 : Int32)), (5, .int (0 : Int32)), (4, .int (-1 : Int32)), (0, .ref (oa (5, 0))), (1, .ref (oa (13, j1))), (2, .int v2), (3, .int v3)]) hx hb dX5_bestMove_7 hl (by decide) rfl (fun ls hl => ?_)
  have L9 : ∀ (μ : Mm) (v4 v5 v6 : Int32) (H : Heap) (locs : List Loc) (ls : Array Slot), Wh (fun z : Int32 × Int32 × Int32 => f_X5_bestMove_L9 sh ln j1 v2 v3 μ z.1 z.2.1 z.2.2) (v4, v5, v6) = some res → Wd D (faB oa aa sh) (feB tc oa aa sh ln) A s.heap μ H locs → lv_has ls 9 [(0, .ref (oa (5, 0))), (1, .ref (oa (13, j1))), (2, .int v2), (3, .int v3), (4, .int v4), (5, .int v5), (6, .int v6)] → W p l e (rmq 1 22) s m args below meth c H locs 0 0 Q (F0 m 9 ls []) := by
    intro μ v4 v5 v6 H locs ls hf hW hl
    refine Wh_rule hf (fun z : Int32 × Int32 × Int32 => ∀ (H : Heap) (locs : List Loc) (ls : Array Slot), Wd D (faB oa aa sh) (feB tc oa aa sh ln) A s.heap μ H locs → lv_has ls 9 [(0, .ref (oa (5, 0))), (1, .ref (oa (13, j1))), (2, .int v2), (3, .int v3), (4, .int z.1), (5, .int z.2.1), (6, .int z.2.2)] → W p l e (rmq 1 22) s m args below meth c H locs 0 0 Q (F0 m 9 ls [])) (fun z o1 hf Kl1 Kr1 => ?_) _ _ _ hW hl
    obtain ⟨v4, v5, v6⟩ := z
    intro H locs ls hW hl
    have hf : f_X5_bestMove_L9 sh ln j1 v2 v3 μ v4 v5 v6 = some o1 := hf
    unfold f_X5_bestMove_L9 at hf
    have hW : Wd D (faB oa aa sh) (feB tc oa aa sh ln) A s.heap μ H locs := hW
    have hl : lv_has ls 9 [(0, .ref (oa (5, 0))), (1, .ref (oa (13, j1))), (2, .int v2), (3, .int v3), (4, .int v4), (5, .int v5), (6, .int v6)] := hl
    have J68 : ∀ (v4 v5 v6 s0 : Int32) (H : Heap) (locs : List Loc) (ls : Array Slot), f_X5_bestMove_J68 sh ln j1 μ v2 v3 v4 v5 v6 s0 = some o1 → Wd D (faB oa aa sh) (feB tc oa aa sh ln) A s.heap μ H locs → lv_has ls 9 [(0, .ref (oa (5, 0))), (1, .ref (oa (13, j1))), (2, .int v2), (3, .int v3), (4, .int v4), (5, .int v5), (6, .int v6)] → W p l e (rmq 1 22) s m args below meth c H locs 0 0 Q (F0 m 68 ls [.int s0]) := by
      intro v4 v5 v6 s0 H locs ls hf hW hl
      unfold f_X5_bestMove_J68 at hf
      refine lv_istore (lv' := [(8, .int s0), (0, .ref (oa (5, 0))), (1, .ref (oa (13, j1))), (2, .int v2), (3, .int v3), (4, .int v4), (5, .int v5), (6, .int v6)]) hx hb dX5_bestMove_68 hl (by decide) rfl (fun ls hl => ?_)
      refine lv_iload hx hb dX5_bestMove_70 (lv_at hl 5 rfl) ?_
      refine lv_iconst (v := -1) hx hb dX5_bestMove_72 (by decide) ?_
      refine lv_icmp_eq (tgt := 83) hx hb dX5_bestMove_73 (by decide) (fun c1 => ?_) (fun c1 => ?_)
      · have hf := (if_pos c1).symm.trans hf
        refine lv_iload hx hb dX5_bestMove_83 (lv_at hl 7 rfl) ?_
        refine lv_istore (lv' := [(4, .int v6), (8, .int s0), (0, .ref (oa (5, 0))), (1, .ref (oa (13, j1))), (2, .int v2), (3, .int v3), (5, .int v5), (6, .int v6)]) hx hb dX5_bestMove_85 hl (by decide) rfl (fun ls hl => ?_)
        refine lv_iload hx hb dX5_bestMove_87 (lv_at hl 1 rfl) ?_
        refine lv_istore (lv' := [(5, .int s0), (4, .int v6), (8, .int s0), (0, .ref (oa (5, 0))), (1, .ref (oa (13, j1))), (2, .int v2), (3, .int v3), (6, .int v6)]) hx hb dX5_bestMove_89 hl (by decide) rfl (fun ls hl => ?_)
        refine lv_iinc (v := (v6 + (1 : Int32))) (lv' := [(6, .int (v6 + (1 : Int32))), (5, .int s0), (4, .int v6), (8, .int s0), (0, .ref (oa (5, 0))), (1, .ref (oa (13, j1))), (2, .int v2), (3, .int v3)]) hx hb dX5_bestMove_91 hl (k := 7) rfl rfl (by decide) rfl (fun ls hl => ?_)
        refine lv_goto (tgt := 9) hx hb dX5_bestMove_94 (by decide) ?_
        obtain rfl := Option.some.inj hf
        exact Kl1 _ rfl _ _ _ hW (lv_sub hl [4, 5, 6, 7, 2, 1, 0] rfl)
      · have hf := (if_neg c1).symm.trans hf
        refine lv_iload hx hb dX5_bestMove_76 (lv_at hl 0 rfl) ?_
        refine lv_iload hx hb dX5_bestMove_78 (lv_at hl 6 rfl) ?_
        refine lv_icmp_le (tgt := 91) hx hb dX5_bestMove_80 (by decide) (fun c2 => ?_) (fun c2 => ?_)
        · have hf := (if_pos c2).symm.trans hf
          refine lv_iinc (v := (v6 + (1 : Int32))) (lv' := [(6, .int (v6 + (1 : Int32))), (8, .int s0), (0, .ref (oa (5, 0))), (1, .ref (oa (13, j1))), (2, .int v2), (3, .int v3), (4, .int v4), (5, .int v5)]) hx hb dX5_bestMove_91 hl (k := 7) rfl rfl (by decide) rfl (fun ls hl => ?_)
          refine lv_goto (tgt := 9) hx hb dX5_bestMove_94 (by decide) ?_
          obtain rfl := Option.some.inj hf
          exact Kl1 _ rfl _ _ _ hW (lv_sub hl [2, 3, 4, 5, 6, 7, 0] rfl)
        · have hf := (if_neg c2).symm.trans hf
          refine lv_iload hx hb dX5_bestMove_83 (lv_at hl 7 rfl) ?_
          refine lv_istore (lv' := [(4, .int v6), (8, .int s0), (0, .ref (oa (5, 0))), (1, .ref (oa (13, j1))), (2, .int v2), (3, .int v3), (5, .int v5), (6, .int v6)]) hx hb dX5_bestMove_85 hl (by decide) rfl (fun ls hl => ?_)
          refine lv_iload hx hb dX5_bestMove_87 (lv_at hl 1 rfl) ?_
          refine lv_istore (lv' := [(5, .int s0), (4, .int v6), (8, .int s0), (0, .ref (oa (5, 0))), (1, .ref (oa (13, j1))), (2, .int v2), (3, .int v3), (6, .int v6)]) hx hb dX5_bestMove_89 hl (by decide) rfl (fun ls hl => ?_)
          refine lv_iinc (v := (v6 + (1 : Int32))) (lv' := [(6, .int (v6 + (1 : Int32))), (5, .int s0), (4, .int v6), (8, .int s0), (0, .ref (oa (5, 0))), (1, .ref (oa (13, j1))), (2, .int v2), (3, .int v3)]) hx hb dX5_bestMove_91 hl (k := 7) rfl rfl (by decide) rfl (fun ls hl => ?_)
          refine lv_goto (tgt := 9) hx hb dX5_bestMove_94 (by decide) ?_
          obtain rfl := Option.some.inj hf
          exact Kl1 _ rfl _ _ _ hW (lv_sub hl [4, 5, 6, 7, 2, 1, 0] rfl)
    refine lv_iload hx hb dX5_bestMove_9 (lv_at hl 6 rfl) ?_
    refine lv_aload_n hx hb dX5_bestMove_11 rfl (lv_at hl 1 rfl) ?_
    refine gf_X5_42 C hW hj1 dX5_bestMove_12 ?_
    refine lv_icmp_ge (tgt := 97) hx hb dX5_bestMove_15 (by decide) (fun c3 => ?_) (fun c3 => ?_)
    · have hf := (if_pos c3).symm.trans hf
      obtain ⟨x9004, hf, hx9004⟩ := map_of hf
      have e9004 := (Kr1 _ hx9004.symm).symm
      subst e9004
      refine lv_aload_n hx hb dX5_bestMove_97 rfl (lv_at hl 0 rfl) ?_
      refine gf_X5_25 C hW dX5_bestMove_98 ?_
      refine lv_iload_n hx hb dX5_bestMove_101 rfl (lv_at hl 3 rfl) ?_
      refine lv_iload hx hb dX5_bestMove_102 (lv_at hl 5 rfl) ?_
      obtain ⟨x104, h104, hf⟩ := bd_of hf
      refine r_callV (k := ((11, 12) : Ky)) C hW hl lk_X5_79 (c_X1_put hwf rfl h104) ⟨rfl, rfl⟩ ⟨Nat.le_of_ble_eq_true rfl, Nat.le_of_ble_eq_true rfl⟩ rfl (faB_11 rfl) rfl (As := [.int v3, .int v5]) (rest := []) rfl rfl (Nat.le_of_ble_eq_true rfl) dX5_bestMove_104 ⟨Nat.zero_le _, Nat.zero_le _⟩ (fun H locs hW => ?_)
      show W p l e (rmq 1 22) s m args below meth c H locs 0 0 Q (F0 m 107 ls [])
      refine lv_iload hx hb dX5_bestMove_107 (lv_at hl 4 rfl) ?_
      obtain rfl := Option.some.inj hf
      rw [hQ]
      exact r_iret C hr hk hW rfl rfl dX5_bestMove_109
    · have hf := (if_neg c3).symm.trans hf
      refine lv_iload hx hb dX5_bestMove_18 (lv_at hl 6 rfl) ?_
      refine lv_iload_n hx hb dX5_bestMove_20 rfl (lv_at hl 2 rfl) ?_
      refine lv_icmp_eq (tgt := 91) hx hb dX5_bestMove_21 (by decide) (fun c5 => ?_) (fun c5 => ?_)
      · have hf := (if_pos c5).symm.trans hf
        refine lv_iinc (v := (v6 + (1 : Int32))) (lv' := [(6, .int (v6 + (1 : Int32))), (0, .ref (oa (5, 0))), (1, .ref (oa (13, j1))), (2, .int v2), (3, .int v3), (4, .int v4), (5, .int v5)]) hx hb dX5_bestMove_91 hl (k := 6) rfl rfl (by decide) rfl (fun ls hl => ?_)
        refine lv_goto (tgt := 9) hx hb dX5_bestMove_94 (by decide) ?_
        obtain rfl := Option.some.inj hf
        exact Kl1 _ rfl _ _ _ hW (lv_sub hl [1, 2, 3, 4, 5, 6, 0] rfl)
      · have hf := (if_neg c5).symm.trans hf
        refine lv_iload_n hx hb dX5_bestMove_24 rfl (lv_at hl 3 rfl) ?_
        refine lv_iload hx hb dX5_bestMove_25 (lv_at hl 6 rfl) ?_
        refine lv_ishr hx hb dX5_bestMove_27 ?_
        refine lv_iconst (v := 1) hx hb dX5_bestMove_28 (by decide) ?_
        refine lv_iand hx hb dX5_bestMove_29 ?_
        refine lv_if_ne (tgt := 91) hx hb dX5_bestMove_30 (by decide) (fun c6 => ?_) (fun c6 => ?_)
        · have hf := (if_neg c6).symm.trans hf
          refine lv_iinc (v := (v6 + (1 : Int32))) (lv' := [(6, .int (v6 + (1 : Int32))), (0, .ref (oa (5, 0))), (1, .ref (oa (13, j1))), (2, .int v2), (3, .int v3), (4, .int v4), (5, .int v5)]) hx hb dX5_bestMove_91 hl (k := 6) rfl rfl (by decide) rfl (fun ls hl => ?_)
          refine lv_goto (tgt := 9) hx hb dX5_bestMove_94 (by decide) ?_
          obtain rfl := Option.some.inj hf
          exact Kl1 _ rfl _ _ _ hW (lv_sub hl [1, 2, 3, 4, 5, 6, 0] rfl)
        · have hf := (if_pos c6).symm.trans hf
          refine lv_iload_n hx hb dX5_bestMove_33 rfl (lv_at hl 3 rfl) ?_
          refine lv_iconst (v := 1) hx hb dX5_bestMove_34 (by decide) ?_
          refine lv_iload hx hb dX5_bestMove_35 (lv_at hl 6 rfl) ?_
          refine lv_ishl hx hb dX5_bestMove_37 ?_
          refine lv_ior hx hb dX5_bestMove_38 ?_
          refine lv_istore (lv' := [(7, .int (v3 ||| ((1 : Int32) <<< (v6 &&& 31)))), (0, .ref (oa (5, 0))), (1, .ref (oa (13, j1))), (2, .int v2), (3, .int v3), (4, .int v4), (5, .int v5), (6, .int v6)]) hx hb dX5_bestMove_39 hl (by decide) rfl (fun ls hl => ?_)
          refine lv_aload_n hx hb dX5_bestMove_41 rfl (lv_at hl 1 rfl) ?_
          refine gf_X5_22 C hW dX5_bestMove_42 ?_
          refine lv_iload hx hb dX5_bestMove_45 (lv_at hl 0 rfl) ?_
          obtain ⟨x47, h47, hf⟩ := bd_of hf
          refine r_callV (k := ((11, 11) : Ky)) C hW hl lk_X5_83 (c_X1_at hwf rfl h47) ⟨rfl, rfl⟩ ⟨Nat.le_of_ble_eq_true rfl, Nat.le_of_ble_eq_true rfl⟩ rfl (faB_11 rfl) rfl (As := [.int (v3 ||| ((1 : Int32) <<< (v6 &&& 31)))]) (rest := []) rfl rfl (Nat.le_of_ble_eq_true rfl) dX5_bestMove_47 ⟨Nat.zero_le _, Nat.zero_le _⟩ (fun H locs hW => ?_)
          show W p l e (rmq 1 22) s m args below meth c H locs 0 0 Q (F0 m 50 ls [.int x47])
          refine lv_iconst (v := 1) hx hb dX5_bestMove_50 (by decide) ?_
          refine lv_icmp_ne (tgt := 58) hx hb dX5_bestMove_51 (by decide) (fun c7 => ?_) (fun c7 => ?_)
          · have hf := (if_neg c7).symm.trans hf
            refine lv_aload_n hx hb dX5_bestMove_58 rfl (lv_at hl 1 rfl) ?_
            refine gf_X5_25 C hW dX5_bestMove_59 ?_
            refine lv_iload hx hb dX5_bestMove_62 (lv_at hl 0 rfl) ?_
            obtain ⟨x64, h64, hf⟩ := bd_of hf
            refine r_callV (k := ((11, 12) : Ky)) C hW hl lk_X5_83 (c_X1_at hwf rfl h64) ⟨rfl, rfl⟩ ⟨Nat.le_of_ble_eq_true rfl, Nat.le_of_ble_eq_true rfl⟩ rfl (faB_11 rfl) rfl (As := [.int (v3 ||| ((1 : Int32) <<< (v6 &&& 31)))]) (rest := []) rfl rfl (Nat.le_of_ble_eq_true rfl) dX5_bestMove_64 ⟨Nat.zero_le _, Nat.zero_le _⟩ (fun H locs hW => ?_)
            show W p l e (rmq 1 22) s m args below meth c H locs 0 0 Q (F0 m 67 ls [.int x64])
            refine lv_ineg hx hb dX5_bestMove_67 ?_
            exact J68 v4 v5 v6 (-x64) _ _ _ hf hW (lv_sub hl [1, 2, 3, 4, 5, 6, 7] rfl)
          · have hf := (if_pos c7).symm.trans hf
            refine lv_iconst (v := -1) hx hb dX5_bestMove_54 (by decide) ?_
            refine lv_goto (tgt := 68) hx hb dX5_bestMove_55 (by decide) ?_
            exact J68 v4 v5 v6 (-1 : Int32) _ _ _ hf hW (lv_sub hl [1, 2, 3, 4, 5, 6, 7] rfl)
  exact L9 μ (-1 : Int32) (0 : Int32) (0 : Int32) _ _ _ hf hW (lv_sub hl [3, 4, 5, 6, 2, 1, 0] rfl)
set_option maxHeartbeats 4000000 in
set_option maxRecDepth 100000 in
theorem c_X5_playGame {l : Launch} {D : va_G} {tc : Nat → ClassId} {ro : Ro} {oa : Ky → Nat} {aa : Nat → Nat} {sh : Sh} {ln : Nat → Nat} {j1 : Nat} {μ : Mm} {v2 v3 : Int32} {res : Int32 × Mm} (hwf : WfS sh) (hj1 : sh 2 j1 = 1) (hf : f_X5_playGame sh ln j1 μ v2 v3 = some res) : Ct l D tc ro (faB oa aa sh) (feB tc oa aa sh ln) yX5_playGame cX5_playGame 7 (some .int) (rmq 4 92) [.ref (oa (5, 0)), .ref (oa (13, j1)), .int v2, .int v3] μ (some (.int res.1)) res.2 := by
  refine Ct.of (by decide) (Nat.le_of_ble_eq_true rfl) (fun p e s m args below meth c A C hr hk hW ls hl => ?_)
  have hx := C.1.1
  have hb := C.1.2.1
  obtain ⟨Q, hQ⟩ : ∃ Q, Q = MQ below (Ctq D (faB oa aa sh) (feB tc oa aa sh ln) (some (.int res.1)) res.2 A) args s 0 0 A := ⟨_, rfl⟩
  rw [← hQ]
  have hl : lv_has ls 7 [(0, .ref (oa (5, 0))), (1, .ref (oa (13, j1))), (2, .int v2), (3, .int v3)] := hl
  unfold f_X5_playGame at hf
  refine lv_aload_n hx hb dX5_playGame_0 rfl (lv_at hl 0 rfl) ?_
  refine lv_aload_n hx hb dX5_playGame_1 rfl (lv_at hl 1 rfl) ?_
  refine lv_iload_n hx hb dX5_playGame_2 rfl (lv_at hl 2 rfl) ?_
  obtain ⟨x3, h3, hf⟩ := bd_of hf
  refine r_callV (k := ((5, 0) : Ky)) C hW hl lk_X5_38 (c_X5_gatherDoubts hwf hj1 h3) ⟨rfl, rfl⟩ ⟨Nat.le_of_ble_eq_true rfl, Nat.le_of_ble_eq_true rfl⟩ rfl rfl rfl (As := [.ref (oa (13, j1)), .int v2]) (rest := []) rfl rfl (Nat.le_of_ble_eq_true rfl) dX5_playGame_3 ⟨Nat.zero_le _, Nat.zero_le _⟩ (fun H locs hW => ?_)
  show W p l e (rmq 4 92) s m args below meth c H locs 0 0 Q (F0 m 6 ls [])
  refine lv_aload_n hx hb dX5_playGame_6 rfl (lv_at hl 0 rfl) ?_
  refine lv_iconst (v := 0) hx hb dX5_playGame_7 (by decide) ?_
  obtain ⟨x8, h8, hf⟩ := bd_of hf
  refine r_callV (k := ((5, 0) : Ky)) C hW hl lk_X5_52 (c_X5_settles hwf h8) ⟨rfl, rfl⟩ ⟨Nat.le_of_ble_eq_true rfl, Nat.le_of_ble_eq_true rfl⟩ rfl rfl rfl (As := [.int (0 : Int32)]) (rest := []) rfl rfl (Nat.le_of_ble_eq_true rfl) dX5_playGame_8 ⟨Nat.zero_le _, Nat.zero_le _⟩ (fun H locs hW => ?_)
  show W p l e (rmq 4 92) s m args below meth c H locs 0 0 Q (F0 m 11 ls [.int x8])
  refine lv_if_eq (tgt := 17) hx hb dX5_playGame_11 (by decide) (fun c1 => ?_) (fun c1 => ?_)
  · have hf := (if_pos c1).symm.trans hf
    refine lv_iconst (v := 1) hx hb dX5_playGame_17 (by decide) ?_
    refine lv_aload_n hx hb dX5_playGame_18 rfl (lv_at hl 1 rfl) ?_
    refine gf_X5_42 C hW hj1 dX5_playGame_19 ?_
    refine lv_ishl hx hb dX5_playGame_22 ?_
    refine lv_istore (lv' := [(4, .int ((1 : Int32) <<< ((x3 (13, j1) 1) &&& 31))), (0, .ref (oa (5, 0))), (1, .ref (oa (13, j1))), (2, .int v2), (3, .int v3)]) hx hb dX5_playGame_23 hl (by decide) rfl (fun ls hl => ?_)
    refine lv_iconst (v := 0) hx hb dX5_playGame_25 (by decide) ?_
    refine lv_istore (lv' := [(5, .int (0 : Int32)), (4, .int ((1 : Int32) <<< ((x3 (13, j1) 1) &&& 31))), (0, .ref (oa (5, 0))), (1, .ref (oa (13, j1))), (2, .int v2), (3, .int v3)]) hx hb dX5_playGame_26 hl (by decide) rfl (fun ls hl => ?_)
    have L28 : ∀ (μ : Mm) (v4 v5 : Int32) (H : Heap) (locs : List Loc) (ls : Array Slot), Wh (fun z : Mm × Int32 => f_X5_playGame_L28 sh ln j1 v2 v3 v4 z.1 z.2) (μ, v5) = some res → Wd D (faB oa aa sh) (feB tc oa aa sh ln) A s.heap μ H locs → lv_has ls 7 [(0, .ref (oa (5, 0))), (1, .ref (oa (13, j1))), (2, .int v2), (3, .int v3), (4, .int v4), (5, .int v5)] → W p l e (rmq 4 92) s m args below meth c H locs 0 0 Q (F0 m 28 ls []) := by
      intro μ v4 v5 H locs ls hf hW hl
      refine Wh_rule hf (fun z : Mm × Int32 => ∀ (H : Heap) (locs : List Loc) (ls : Array Slot), Wd D (faB oa aa sh) (feB tc oa aa sh ln) A s.heap z.1 H locs → lv_has ls 7 [(0, .ref (oa (5, 0))), (1, .ref (oa (13, j1))), (2, .int v2), (3, .int v3), (4, .int v4), (5, .int z.2)] → W p l e (rmq 4 92) s m args below meth c H locs 0 0 Q (F0 m 28 ls [])) (fun z o1 hf Kl1 Kr1 => ?_) _ _ _ hW hl
      obtain ⟨μ, v5⟩ := z
      intro H locs ls hW hl
      have hf : f_X5_playGame_L28 sh ln j1 v2 v3 v4 μ v5 = some o1 := hf
      unfold f_X5_playGame_L28 at hf
      have hW : Wd D (faB oa aa sh) (feB tc oa aa sh ln) A s.heap μ H locs := hW
      have hl : lv_has ls 7 [(0, .ref (oa (5, 0))), (1, .ref (oa (13, j1))), (2, .int v2), (3, .int v3), (4, .int v4), (5, .int v5)] := hl
      refine lv_iload hx hb dX5_playGame_28 (lv_at hl 5 rfl) ?_
      refine lv_iload hx hb dX5_playGame_30 (lv_at hl 4 rfl) ?_
      refine lv_icmp_ge (tgt := 64) hx hb dX5_playGame_32 (by decide) (fun c2 => ?_) (fun c2 => ?_)
      · have hf := (if_pos c2).symm.trans hf
        obtain ⟨x9007, hf, hx9007⟩ := map_of hf
        have e9007 := (Kr1 _ hx9007.symm).symm
        subst e9007
        refine lv_iconst (v := -1) hx hb dX5_playGame_64 (by decide) ?_
        refine lv_istore (lv' := [(5, .int (-1 : Int32)), (0, .ref (oa (5, 0))), (1, .ref (oa (13, j1))), (2, .int v2), (3, .int v3), (4, .int v4)]) hx hb dX5_playGame_65 hl (by decide) rfl (fun ls hl => ?_)
        refine lv_iload hx hb dX5_playGame_67 (lv_at hl 5 rfl) ?_
        refine lv_iconst (v := 1) hx hb dX5_playGame_69 (by decide) ?_
        refine lv_isub hx hb dX5_playGame_70 ?_
        refine lv_istore (lv' := [(6, .int (v4 - (1 : Int32))), (5, .int (-1 : Int32)), (0, .ref (oa (5, 0))), (1, .ref (oa (13, j1))), (2, .int v2), (3, .int v3), (4, .int v4)]) hx hb dX5_playGame_71 hl (by decide) rfl (fun ls hl => ?_)
        have L73 : ∀ (μ : Mm) (v5 v6 : Int32) (H : Heap) (locs : List Loc) (ls : Array Slot), Wh (fun z : Mm × Int32 × Int32 => f_X5_playGame_L73 sh ln j1 v2 v3 z.1 z.2.1 z.2.2) (μ, v5, v6) = some res → Wd D (faB oa aa sh) (feB tc oa aa sh ln) A s.heap μ H locs → lv_has ls 7 [(0, .ref (oa (5, 0))), (1, .ref (oa (13, j1))), (2, .int v2), (3, .int v3), (5, .int v5), (6, .int v6)] → W p l e (rmq 4 92) s m args below meth c H locs 0 0 Q (F0 m 73 ls []) := by
          intro μ v5 v6 H locs ls hf hW hl
          refine Wh_rule hf (fun z : Mm × Int32 × Int32 => ∀ (H : Heap) (locs : List Loc) (ls : Array Slot), Wd D (faB oa aa sh) (feB tc oa aa sh ln) A s.heap z.1 H locs → lv_has ls 7 [(0, .ref (oa (5, 0))), (1, .ref (oa (13, j1))), (2, .int v2), (3, .int v3), (5, .int z.2.1), (6, .int z.2.2)] → W p l e (rmq 4 92) s m args below meth c H locs 0 0 Q (F0 m 73 ls [])) (fun z o1 hf Kl1 Kr1 => ?_) _ _ _ hW hl
          obtain ⟨μ, v5, v6⟩ := z
          intro H locs ls hW hl
          have hf : f_X5_playGame_L73 sh ln j1 v2 v3 μ v5 v6 = some o1 := hf
          unfold f_X5_playGame_L73 at hf
          have hW : Wd D (faB oa aa sh) (feB tc oa aa sh ln) A s.heap μ H locs := hW
          have hl : lv_has ls 7 [(0, .ref (oa (5, 0))), (1, .ref (oa (13, j1))), (2, .int v2), (3, .int v3), (5, .int v5), (6, .int v6)] := hl
          refine lv_iload hx hb dX5_playGame_73 (lv_at hl 5 rfl) ?_
          refine lv_if_lt (tgt := 107) hx hb dX5_playGame_75 (by decide) (fun c3 => ?_) (fun c3 => ?_)
          · have hf := (if_pos c3).symm.trans hf
            obtain ⟨x9005, hf, hx9005⟩ := map_of hf
            have e9005 := (Kr1 _ hx9005.symm).symm
            subst e9005
            refine lv_iload_n hx hb dX5_playGame_107 rfl (lv_at hl 3 rfl) ?_
            refine lv_if_eq (tgt := 116) hx hb dX5_playGame_108 (by decide) (fun c4 => ?_) (fun c4 => ?_)
            · have hf := (if_pos c4).symm.trans hf
              refine lv_aload_n hx hb dX5_playGame_116 rfl (lv_at hl 0 rfl) ?_
              refine gf_X5_25 C hW dX5_playGame_117 ?_
              refine lv_iconst (v := 0) hx hb dX5_playGame_120 (by decide) ?_
              obtain ⟨x121, h121, hf⟩ := bd_of hf
              refine r_callV (k := ((11, 12) : Ky)) C hW hl lk_X5_83 (c_X1_at hwf rfl h121) ⟨rfl, rfl⟩ ⟨Nat.le_of_ble_eq_true rfl, Nat.le_of_ble_eq_true rfl⟩ rfl (faB_11 rfl) rfl (As := [.int (0 : Int32)]) (rest := []) rfl rfl (Nat.le_of_ble_eq_true rfl) dX5_playGame_121 ⟨Nat.zero_le _, Nat.zero_le _⟩ (fun H locs hW => ?_)
              show W p l e (rmq 4 92) s m args below meth c H locs 0 0 Q (F0 m 124 ls [.int x121])
              obtain rfl := Option.some.inj hf
              rw [hQ]
              exact r_iret C hr hk hW rfl rfl dX5_playGame_124
            · have hf := (if_neg c4).symm.trans hf
              refine lv_iload hx hb dX5_playGame_111 (lv_at hl 4 rfl) ?_
              refine lv_goto (tgt := 124) hx hb dX5_playGame_113 (by decide) ?_
              obtain rfl := Option.some.inj hf
              rw [hQ]
              exact r_iret C hr hk hW rfl rfl dX5_playGame_124
          · have hf := (if_neg c3).symm.trans hf
            refine lv_iload hx hb dX5_playGame_78 (lv_at hl 5 rfl) ?_
            refine lv_iload_n hx hb dX5_playGame_80 rfl (lv_at hl 2 rfl) ?_
            refine lv_ishr hx hb dX5_playGame_81 ?_
            refine lv_iconst (v := 1) hx hb dX5_playGame_82 (by decide) ?_
            refine lv_iand hx hb dX5_playGame_83 ?_
            refine lv_if_ne (tgt := 98) hx hb dX5_playGame_84 (by decide) (fun c6 => ?_) (fun c6 => ?_)
            · have hf := (if_neg c6).symm.trans hf
              refine lv_iconst (v := -1) hx hb dX5_playGame_98 (by decide) ?_
              refine lv_istore (lv' := [(5, .int (-1 : Int32)), (0, .ref (oa (5, 0))), (1, .ref (oa (13, j1))), (2, .int v2), (3, .int v3), (6, .int v6)]) hx hb dX5_playGame_99 hl (by decide) rfl (fun ls hl => ?_)
              refine lv_iinc (v := (v6 + (-1 : Int32))) (lv' := [(6, .int (v6 + (-1 : Int32))), (5, .int (-1 : Int32)), (0, .ref (oa (5, 0))), (1, .ref (oa (13, j1))), (2, .int v2), (3, .int v3)]) hx hb dX5_playGame_101 hl (k := 5) rfl rfl (by decide) rfl (fun ls hl => ?_)
              refine lv_goto (tgt := 73) hx hb dX5_playGame_104 (by decide) ?_
              obtain rfl := Option.some.inj hf
              exact Kl1 _ rfl _ _ _ hW (lv_sub hl [2, 3, 4, 5, 1, 0] rfl)
            · have hf := (if_pos c6).symm.trans hf
              refine lv_aload_n hx hb dX5_playGame_87 rfl (lv_at hl 0 rfl) ?_
              refine lv_aload_n hx hb dX5_playGame_88 rfl (lv_at hl 1 rfl) ?_
              refine lv_iload_n hx hb dX5_playGame_89 rfl (lv_at hl 2 rfl) ?_
              refine lv_iload hx hb dX5_playGame_90 (lv_at hl 5 rfl) ?_
              obtain ⟨x92, h92, hf⟩ := bd_of hf
              refine r_callV (k := ((5, 0) : Ky)) C hW hl lk_X5_86 (c_X5_bestMove hwf hj1 h92) ⟨rfl, rfl⟩ ⟨Nat.le_of_ble_eq_true rfl, Nat.le_of_ble_eq_true rfl⟩ rfl rfl rfl (As := [.ref (oa (13, j1)), .int v2, .int v6]) (rest := []) rfl rfl (Nat.le_of_ble_eq_true rfl) dX5_playGame_92 ⟨Nat.zero_le _, Nat.zero_le _⟩ (fun H locs hW => ?_)
              show W p l e (rmq 4 92) s m args below meth c H locs 0 0 Q (F0 m 95 ls [.int x92.1])
              refine lv_goto (tgt := 99) hx hb dX5_playGame_95 (by decide) ?_
              refine lv_istore (lv' := [(5, .int x92.1), (0, .ref (oa (5, 0))), (1, .ref (oa (13, j1))), (2, .int v2), (3, .int v3), (6, .int v6)]) hx hb dX5_playGame_99 hl (by decide) rfl (fun ls hl => ?_)
              refine lv_iinc (v := (v6 + (-1 : Int32))) (lv' := [(6, .int (v6 + (-1 : Int32))), (5, .int x92.1), (0, .ref (oa (5, 0))), (1, .ref (oa (13, j1))), (2, .int v2), (3, .int v3)]) hx hb dX5_playGame_101 hl (k := 5) rfl rfl (by decide) rfl (fun ls hl => ?_)
              refine lv_goto (tgt := 73) hx hb dX5_playGame_104 (by decide) ?_
              obtain rfl := Option.some.inj hf
              exact Kl1 _ rfl _ _ _ hW (lv_sub hl [2, 3, 4, 5, 1, 0] rfl)
        exact L73 μ (-1 : Int32) (v4 - (1 : Int32)) _ _ _ hf hW (lv_sub hl [2, 3, 4, 5, 1, 0] rfl)
      · have hf := (if_neg c2).symm.trans hf
        refine lv_aload_n hx hb dX5_playGame_35 rfl (lv_at hl 0 rfl) ?_
        refine gf_X5_22 C hW dX5_playGame_36 ?_
        refine lv_iload hx hb dX5_playGame_39 (lv_at hl 5 rfl) ?_
        refine lv_aload_n hx hb dX5_playGame_41 rfl (lv_at hl 0 rfl) ?_
        refine lv_iload hx hb dX5_playGame_42 (lv_at hl 5 rfl) ?_
        obtain ⟨x44, h44, hf⟩ := bd_of hf
        refine r_callV (k := ((5, 0) : Ky)) C hW hl lk_X5_52 (c_X5_settles hwf h44) ⟨rfl, rfl⟩ ⟨Nat.le_of_ble_eq_true rfl, Nat.le_of_ble_eq_true rfl⟩ rfl rfl rfl (As := [.int v5]) (rest := [.int v5, .ref (oa (11, 11))]) rfl rfl (Nat.le_of_ble_eq_true rfl) dX5_playGame_44 ⟨Nat.zero_le _, Nat.zero_le _⟩ (fun H locs hW => ?_)
        show W p l e (rmq 4 92) s m args below meth c H locs 0 0 Q (F0 m 47 ls [.int x44, .int v5, .ref (oa (11, 11))])
        refine lv_if_eq (tgt := 54) hx hb dX5_playGame_47 (by decide) (fun c8 => ?_) (fun c8 => ?_)
        · have hf := (if_pos c8).symm.trans hf
          refine lv_iconst (v := 0) hx hb dX5_playGame_54 (by decide) ?_
          obtain ⟨x55, h55, hf⟩ := bd_of hf
          refine r_callV (k := ((11, 11) : Ky)) C hW hl lk_X5_79 (c_X1_put hwf rfl h55) ⟨rfl, rfl⟩ ⟨Nat.le_of_ble_eq_true rfl, Nat.le_of_ble_eq_true rfl⟩ rfl (faB_11 rfl) rfl (As := [.int v5, .int (0 : Int32)]) (rest := []) rfl rfl (Nat.le_of_ble_eq_true rfl) dX5_playGame_55 ⟨Nat.zero_le _, Nat.zero_le _⟩ (fun H locs hW => ?_)
          show W p l e (rmq 4 92) s m args below meth c H locs 0 0 Q (F0 m 58 ls [])
          refine lv_iinc (v := (v5 + (1 : Int32))) (lv' := [(5, .int (v5 + (1 : Int32))), (0, .ref (oa (5, 0))), (1, .ref (oa (13, j1))), (2, .int v2), (3, .int v3), (4, .int v4)]) hx hb dX5_playGame_58 hl (k := 5) rfl rfl (by decide) rfl (fun ls hl => ?_)
          refine lv_goto (tgt := 28) hx hb dX5_playGame_61 (by decide) ?_
          obtain rfl := Option.some.inj hf
          exact Kl1 _ rfl _ _ _ hW (lv_sub hl [1, 2, 3, 4, 5, 0] rfl)
        · have hf := (if_neg c8).symm.trans hf
          refine lv_iconst (v := 1) hx hb dX5_playGame_50 (by decide) ?_
          refine lv_goto (tgt := 55) hx hb dX5_playGame_51 (by decide) ?_
          obtain ⟨x55, h55, hf⟩ := bd_of hf
          refine r_callV (k := ((11, 11) : Ky)) C hW hl lk_X5_79 (c_X1_put hwf rfl h55) ⟨rfl, rfl⟩ ⟨Nat.le_of_ble_eq_true rfl, Nat.le_of_ble_eq_true rfl⟩ rfl (faB_11 rfl) rfl (As := [.int v5, .int (1 : Int32)]) (rest := []) rfl rfl (Nat.le_of_ble_eq_true rfl) dX5_playGame_55 ⟨Nat.zero_le _, Nat.zero_le _⟩ (fun H locs hW => ?_)
          show W p l e (rmq 4 92) s m args below meth c H locs 0 0 Q (F0 m 58 ls [])
          refine lv_iinc (v := (v5 + (1 : Int32))) (lv' := [(5, .int (v5 + (1 : Int32))), (0, .ref (oa (5, 0))), (1, .ref (oa (13, j1))), (2, .int v2), (3, .int v3), (4, .int v4)]) hx hb dX5_playGame_58 hl (k := 5) rfl rfl (by decide) rfl (fun ls hl => ?_)
          refine lv_goto (tgt := 28) hx hb dX5_playGame_61 (by decide) ?_
          obtain rfl := Option.some.inj hf
          exact Kl1 _ rfl _ _ _ hW (lv_sub hl [1, 2, 3, 4, 5, 0] rfl)
    exact L28 x3 ((1 : Int32) <<< ((x3 (13, j1) 1) &&& 31)) (0 : Int32) _ _ _ hf hW (lv_sub hl [2, 3, 4, 5, 1, 0] rfl)
  · have hf := (if_neg c1).symm.trans hf
    refine lv_bipush (v := -2) hx hb dX5_playGame_14 (by decide) ?_
    obtain rfl := Option.some.inj hf
    rw [hQ]
    exact r_iret C hr hk hW rfl rfl dX5_playGame_16
set_option maxHeartbeats 4000000 in
set_option maxRecDepth 100000 in
theorem c_X5_questionIn {l : Launch} {D : va_G} {tc : Nat → ClassId} {ro : Ro} {oa : Ky → Nat} {aa : Nat → Nat} {sh : Sh} {ln : Nat → Nat} {j1 cl2 : Nat} {μ : Mm} {v3 : Int32} {res : Int32 × Mm} (hwf : WfS sh) (hj1 : sh 2 j1 = 1) (hc2 : cex sh cl2 = true) (hf : f_X5_questionIn sh ln j1 cl2 μ v3 = some res) : Ct l D tc ro (faB oa aa sh) (feB tc oa aa sh ln) yX5_questionIn cX5_questionIn 7 (some .int) (rmq 5 121) [.ref (oa (5, 0)), .ref (oa (13, j1)), .ref (oa (11, cl2)), .int v3] μ (some (.int res.1)) res.2 := by
  refine Ct.of (by decide) (Nat.le_of_ble_eq_true rfl) (fun p e s m args below meth c A C hr hk hW ls hl => ?_)
  have hx := C.1.1
  have hb := C.1.2.1
  obtain ⟨Q, hQ⟩ : ∃ Q, Q = MQ below (Ctq D (faB oa aa sh) (feB tc oa aa sh ln) (some (.int res.1)) res.2 A) args s 0 0 A := ⟨_, rfl⟩
  rw [← hQ]
  have hl : lv_has ls 7 [(0, .ref (oa (5, 0))), (1, .ref (oa (13, j1))), (2, .ref (oa (11, cl2))), (3, .int v3)] := hl
  unfold f_X5_questionIn at hf
  refine lv_iconst (v := 0) hx hb dX5_questionIn_0 (by decide) ?_
  refine lv_istore (lv' := [(4, .int (0 : Int32)), (0, .ref (oa (5, 0))), (1, .ref (oa (13, j1))), (2, .ref (oa (11, cl2))), (3, .int v3)]) hx hb dX5_questionIn_1 hl (by decide) rfl (fun ls hl => ?_)
  have L3 : ∀ (μ : Mm) (v4 : Int32) (H : Heap) (locs : List Loc) (ls : Array Slot), Wh (fun z : Mm × Int32 => f_X5_questionIn_L3 sh ln j1 cl2 v3 z.1 z.2) (μ, v4) = some res → Wd D (faB oa aa sh) (feB tc oa aa sh ln) A s.heap μ H locs → lv_has ls 7 [(0, .ref (oa (5, 0))), (1, .ref (oa (13, j1))), (2, .ref (oa (11, cl2))), (3, .int v3), (4, .int v4)] → W p l e (rmq 5 121) s m args below meth c H locs 0 0 Q (F0 m 3 ls []) := by
    intro μ v4 H locs ls hf hW hl
    refine Wh_rule hf (fun z : Mm × Int32 => ∀ (H : Heap) (locs : List Loc) (ls : Array Slot), Wd D (faB oa aa sh) (feB tc oa aa sh ln) A s.heap z.1 H locs → lv_has ls 7 [(0, .ref (oa (5, 0))), (1, .ref (oa (13, j1))), (2, .ref (oa (11, cl2))), (3, .int v3), (4, .int z.2)] → W p l e (rmq 5 121) s m args below meth c H locs 0 0 Q (F0 m 3 ls [])) (fun z o1 hf Kl1 Kr1 => ?_) _ _ _ hW hl
    obtain ⟨μ, v4⟩ := z
    intro H locs ls hW hl
    have hf : f_X5_questionIn_L3 sh ln j1 cl2 v3 μ v4 = some o1 := hf
    unfold f_X5_questionIn_L3 at hf
    have hW : Wd D (faB oa aa sh) (feB tc oa aa sh ln) A s.heap μ H locs := hW
    have hl : lv_has ls 7 [(0, .ref (oa (5, 0))), (1, .ref (oa (13, j1))), (2, .ref (oa (11, cl2))), (3, .int v3), (4, .int v4)] := hl
    refine lv_iload hx hb dX5_questionIn_3 (lv_at hl 4 rfl) ?_
    refine lv_aload_n hx hb dX5_questionIn_5 rfl (lv_at hl 1 rfl) ?_
    refine gf_X5_42 C hW hj1 dX5_questionIn_6 ?_
    refine lv_icmp_ge (tgt := 109) hx hb dX5_questionIn_9 (by decide) (fun c1 => ?_) (fun c1 => ?_)
    · have hf := (if_pos c1).symm.trans hf
      obtain ⟨x9002, hf, hx9002⟩ := map_of hf
      have e9002 := (Kr1 _ hx9002.symm).symm
      subst e9002
      refine lv_iconst (v := -1) hx hb dX5_questionIn_109 (by decide) ?_
      obtain rfl := Option.some.inj hf
      rw [hQ]
      exact r_iret C hr hk hW rfl rfl dX5_questionIn_110
    · have hf := (if_neg c1).symm.trans hf
      refine lv_iconst (v := 0) hx hb dX5_questionIn_12 (by decide) ?_
      refine lv_istore (lv' := [(5, .int (0 : Int32)), (0, .ref (oa (5, 0))), (1, .ref (oa (13, j1))), (2, .ref (oa (11, cl2))), (3, .int v3), (4, .int v4)]) hx hb dX5_questionIn_13 hl (by decide) rfl (fun ls hl => ?_)
      have L15 : ∀ (μ : Mm) (v4 v5 : Int32) (H : Heap) (locs : List Loc) (ls : Array Slot), Wh (fun z : Mm × Int32 => f_X5_questionIn_L15 sh ln j1 cl2 v3 v4 z.1 z.2) (μ, v5) = some o1 → Wd D (faB oa aa sh) (feB tc oa aa sh ln) A s.heap μ H locs → lv_has ls 7 [(0, .ref (oa (5, 0))), (1, .ref (oa (13, j1))), (2, .ref (oa (11, cl2))), (3, .int v3), (4, .int v4), (5, .int v5)] → W p l e (rmq 5 121) s m args below meth c H locs 0 0 Q (F0 m 15 ls []) := by
        intro μ v4 v5 H locs ls hf hW hl
        refine Wh_rule hf (fun z : Mm × Int32 => ∀ (H : Heap) (locs : List Loc) (ls : Array Slot), Wd D (faB oa aa sh) (feB tc oa aa sh ln) A s.heap z.1 H locs → lv_has ls 7 [(0, .ref (oa (5, 0))), (1, .ref (oa (13, j1))), (2, .ref (oa (11, cl2))), (3, .int v3), (4, .int v4), (5, .int z.2)] → W p l e (rmq 5 121) s m args below meth c H locs 0 0 Q (F0 m 15 ls [])) (fun z o2 hf Kl2 Kr2 => ?_) _ _ _ hW hl
        obtain ⟨μ, v5⟩ := z
        intro H locs ls hW hl
        have hf : f_X5_questionIn_L15 sh ln j1 cl2 v3 v4 μ v5 = some o2 := hf
        unfold f_X5_questionIn_L15 at hf
        have hW : Wd D (faB oa aa sh) (feB tc oa aa sh ln) A s.heap μ H locs := hW
        have hl : lv_has ls 7 [(0, .ref (oa (5, 0))), (1, .ref (oa (13, j1))), (2, .ref (oa (11, cl2))), (3, .int v3), (4, .int v4), (5, .int v5)] := hl
        refine lv_iload hx hb dX5_questionIn_15 (lv_at hl 5 rfl) ?_
        refine lv_aload_n hx hb dX5_questionIn_17 rfl (lv_at hl 1 rfl) ?_
        refine gf_X5_42 C hW hj1 dX5_questionIn_18 ?_
        refine lv_icmp_ge (tgt := 103) hx hb dX5_questionIn_21 (by decide) (fun c3 => ?_) (fun c3 => ?_)
        · have hf := (if_pos c3).symm.trans hf
          obtain ⟨x9004, hf, hx9004⟩ := map_of hf
          have e9004 := (Kr2 _ hx9004.symm).symm
          subst e9004
          refine lv_iinc (v := (v4 + (1 : Int32))) (lv' := [(4, .int (v4 + (1 : Int32))), (0, .ref (oa (5, 0))), (1, .ref (oa (13, j1))), (2, .ref (oa (11, cl2))), (3, .int v3), (5, .int v5)]) hx hb dX5_questionIn_103 hl (k := 4) rfl rfl (by decide) rfl (fun ls hl => ?_)
          refine lv_goto (tgt := 3) hx hb dX5_questionIn_106 (by decide) ?_
          obtain rfl := Option.some.inj hf
          exact Kl1 _ rfl _ _ _ hW (lv_sub hl [1, 2, 3, 4, 0] rfl)
        · have hf := (if_neg c3).symm.trans hf
          refine lv_iconst (v := 0) hx hb dX5_questionIn_24 (by decide) ?_
          refine lv_istore (lv' := [(6, .int (0 : Int32)), (0, .ref (oa (5, 0))), (1, .ref (oa (13, j1))), (2, .ref (oa (11, cl2))), (3, .int v3), (4, .int v4), (5, .int v5)]) hx hb dX5_questionIn_25 hl (by decide) rfl (fun ls hl => ?_)
          have L27 : ∀ (μ : Mm) (v5 v6 : Int32) (H : Heap) (locs : List Loc) (ls : Array Slot), Wh (fun z : Mm × Int32 => f_X5_questionIn_L27 sh ln j1 cl2 v3 v4 v5 z.1 z.2) (μ, v6) = some o2 → Wd D (faB oa aa sh) (feB tc oa aa sh ln) A s.heap μ H locs → lv_has ls 7 [(0, .ref (oa (5, 0))), (1, .ref (oa (13, j1))), (2, .ref (oa (11, cl2))), (3, .int v3), (4, .int v4), (5, .int v5), (6, .int v6)] → W p l e (rmq 5 121) s m args below meth c H locs 0 0 Q (F0 m 27 ls []) := by
            intro μ v5 v6 H locs ls hf hW hl
            refine Wh_rule hf (fun z : Mm × Int32 => ∀ (H : Heap) (locs : List Loc) (ls : Array Slot), Wd D (faB oa aa sh) (feB tc oa aa sh ln) A s.heap z.1 H locs → lv_has ls 7 [(0, .ref (oa (5, 0))), (1, .ref (oa (13, j1))), (2, .ref (oa (11, cl2))), (3, .int v3), (4, .int v4), (5, .int v5), (6, .int z.2)] → W p l e (rmq 5 121) s m args below meth c H locs 0 0 Q (F0 m 27 ls [])) (fun z o3 hf Kl3 Kr3 => ?_) _ _ _ hW hl
            obtain ⟨μ, v6⟩ := z
            intro H locs ls hW hl
            have hf : f_X5_questionIn_L27 sh ln j1 cl2 v3 v4 v5 μ v6 = some o3 := hf
            unfold f_X5_questionIn_L27 at hf
            have hW : Wd D (faB oa aa sh) (feB tc oa aa sh ln) A s.heap μ H locs := hW
            have hl : lv_has ls 7 [(0, .ref (oa (5, 0))), (1, .ref (oa (13, j1))), (2, .ref (oa (11, cl2))), (3, .int v3), (4, .int v4), (5, .int v5), (6, .int v6)] := hl
            refine lv_iload hx hb dX5_questionIn_27 (lv_at hl 6 rfl) ?_
            refine lv_aload_n hx hb dX5_questionIn_29 rfl (lv_at hl 1 rfl) ?_
            refine gf_X5_103 C hW hj1 dX5_questionIn_30 ?_
            refine lv_icmp_ge (tgt := 97) hx hb dX5_questionIn_33 (by decide) (fun c5 => ?_) (fun c5 => ?_)
            · have hf := (if_pos c5).symm.trans hf
              obtain ⟨x9006, hf, hx9006⟩ := map_of hf
              have e9006 := (Kr3 _ hx9006.symm).symm
              subst e9006
              refine lv_iinc (v := (v5 + (1 : Int32))) (lv' := [(5, .int (v5 + (1 : Int32))), (0, .ref (oa (5, 0))), (1, .ref (oa (13, j1))), (2, .ref (oa (11, cl2))), (3, .int v3), (4, .int v4), (6, .int v6)]) hx hb dX5_questionIn_97 hl (k := 5) rfl rfl (by decide) rfl (fun ls hl => ?_)
              refine lv_goto (tgt := 15) hx hb dX5_questionIn_100 (by decide) ?_
              obtain rfl := Option.some.inj hf
              exact Kl2 _ rfl _ _ _ hW (lv_sub hl [1, 2, 3, 4, 5, 0] rfl)
            · have hf := (if_neg c5).symm.trans hf
              refine lv_iload hx hb dX5_questionIn_36 (lv_at hl 4 rfl) ?_
              refine lv_iload_n hx hb dX5_questionIn_38 rfl (lv_at hl 3 rfl) ?_
              refine lv_icmp_eq (tgt := 97) hx hb dX5_questionIn_39 (by decide) (fun c7 => ?_) (fun c7 => ?_)
              · have hf := (if_pos c7).symm.trans hf
                obtain ⟨x9008, hf, hx9008⟩ := map_of hf
                have e9008 := (Kr3 _ hx9008.symm).symm
                subst e9008
                refine lv_iinc (v := (v5 + (1 : Int32))) (lv' := [(5, .int (v5 + (1 : Int32))), (0, .ref (oa (5, 0))), (1, .ref (oa (13, j1))), (2, .ref (oa (11, cl2))), (3, .int v3), (4, .int v4), (6, .int v6)]) hx hb dX5_questionIn_97 hl (k := 5) rfl rfl (by decide) rfl (fun ls hl => ?_)
                refine lv_goto (tgt := 15) hx hb dX5_questionIn_100 (by decide) ?_
                obtain rfl := Option.some.inj hf
                exact Kl2 _ rfl _ _ _ hW (lv_sub hl [1, 2, 3, 4, 5, 0] rfl)
              · have hf := (if_neg c7).symm.trans hf
                refine lv_iload hx hb dX5_questionIn_42 (lv_at hl 5 rfl) ?_
                refine lv_iload_n hx hb dX5_questionIn_44 rfl (lv_at hl 3 rfl) ?_
                refine lv_icmp_eq (tgt := 97) hx hb dX5_questionIn_45 (by decide) (fun c9 => ?_) (fun c9 => ?_)
                · have hf := (if_pos c9).symm.trans hf
                  obtain ⟨x9010, hf, hx9010⟩ := map_of hf
                  have e9010 := (Kr3 _ hx9010.symm).symm
                  subst e9010
                  refine lv_iinc (v := (v5 + (1 : Int32))) (lv' := [(5, .int (v5 + (1 : Int32))), (0, .ref (oa (5, 0))), (1, .ref (oa (13, j1))), (2, .ref (oa (11, cl2))), (3, .int v3), (4, .int v4), (6, .int v6)]) hx hb dX5_questionIn_97 hl (k := 5) rfl rfl (by decide) rfl (fun ls hl => ?_)
                  refine lv_goto (tgt := 15) hx hb dX5_questionIn_100 (by decide) ?_
                  obtain rfl := Option.some.inj hf
                  exact Kl2 _ rfl _ _ _ hW (lv_sub hl [1, 2, 3, 4, 5, 0] rfl)
                · have hf := (if_neg c9).symm.trans hf
                  refine lv_aload_n hx hb dX5_questionIn_48 rfl (lv_at hl 0 rfl) ?_
                  refine gf_X5_34 C hW dX5_questionIn_49 ?_
                  refine lv_aload_n hx hb dX5_questionIn_52 rfl (lv_at hl 1 rfl) ?_
                  refine lv_aload_n hx hb dX5_questionIn_53 rfl (lv_at hl 2 rfl) ?_
                  refine lv_iload hx hb dX5_questionIn_54 (lv_at hl 4 rfl) ?_
                  refine lv_iload hx hb dX5_questionIn_56 (lv_at hl 5 rfl) ?_
                  refine lv_iload hx hb dX5_questionIn_58 (lv_at hl 6 rfl) ?_
                  obtain ⟨x60, h60, hf⟩ := bd_of hf
                  refine r_callV (k := ((3, 0) : Ky)) C hW hl lk_X5_106 (c_X4_sayAnswer hwf hj1 hc2 h60) ⟨rfl, rfl⟩ ⟨Nat.le_of_ble_eq_true rfl, Nat.le_of_ble_eq_true rfl⟩ rfl rfl rfl (As := [.ref (oa (13, j1)), .ref (oa (11, cl2)), .int v4, .int v5, .int v6]) (rest := []) rfl rfl (Nat.le_of_ble_eq_true rfl) dX5_questionIn_60 ⟨Nat.zero_le _, Nat.zero_le _⟩ (fun H locs hW => ?_)
                  show W p l e (rmq 5 121) s m args below meth c H locs 0 0 Q (F0 m 63 ls [])
                  refine lv_aload_n hx hb dX5_questionIn_63 rfl (lv_at hl 0 rfl) ?_
                  refine gf_X5_34 C hW dX5_questionIn_64 ?_
                  refine lv_aload_n hx hb dX5_questionIn_67 rfl (lv_at hl 1 rfl) ?_
                  refine lv_aload_n hx hb dX5_questionIn_68 rfl (lv_at hl 2 rfl) ?_
                  refine lv_iload_n hx hb dX5_questionIn_69 rfl (lv_at hl 3 rfl) ?_
                  obtain ⟨x70, h70, hf⟩ := bd_of hf
                  refine r_callV (k := ((3, 0) : Ky)) C hW hl lk_X5_110 (c_X4_sureIfHeard hwf hj1 hc2 h70) ⟨rfl, rfl⟩ ⟨Nat.le_of_ble_eq_true rfl, Nat.le_of_ble_eq_true rfl⟩ rfl rfl rfl (As := [.ref (oa (13, j1)), .ref (oa (11, cl2)), .int v3]) (rest := []) rfl rfl (Nat.le_of_ble_eq_true rfl) dX5_questionIn_70 ⟨Nat.zero_le _, Nat.zero_le _⟩ (fun H locs hW => ?_)
                  show W p l e (rmq 5 121) s m args below meth c H locs 0 0 Q (F0 m 73 ls [.int x70])
                  refine lv_if_eq (tgt := 91) hx hb dX5_questionIn_73 (by decide) (fun c11 => ?_) (fun c11 => ?_)
                  · have hf := (if_pos c11).symm.trans hf
                    refine lv_iinc (v := (v6 + (1 : Int32))) (lv' := [(6, .int (v6 + (1 : Int32))), (0, .ref (oa (5, 0))), (1, .ref (oa (13, j1))), (2, .ref (oa (11, cl2))), (3, .int v3), (4, .int v4), (5, .int v5)]) hx hb dX5_questionIn_91 hl (k := 6) rfl rfl (by decide) rfl (fun ls hl => ?_)
                    refine lv_goto (tgt := 27) hx hb dX5_questionIn_94 (by decide) ?_
                    obtain rfl := Option.some.inj hf
                    exact Kl3 _ rfl _ _ _ hW (lv_sub hl [1, 2, 3, 4, 5, 6, 0] rfl)
                  · have hf := (if_neg c11).symm.trans hf
                    obtain ⟨x9014, hf, hx9014⟩ := map_of hf
                    have e9014 := (Kr3 _ hx9014.symm).symm
                    subst e9014
                    obtain ⟨x9013, hf, hx9013⟩ := map_of hf
                    have e9013 := (Kr2 _ hx9013.symm).symm
                    subst e9013
                    obtain ⟨x9012, hf, hx9012⟩ := map_of hf
                    have e9012 := (Kr1 _ hx9012.symm).symm
                    subst e9012
                    refine lv_bipush (v := 100) hx hb dX5_questionIn_76 (by decide) ?_
                    refine lv_iload hx hb dX5_questionIn_78 (lv_at hl 4 rfl) ?_
                    refine lv_imul hx hb dX5_questionIn_80 ?_
                    refine lv_bipush (v := 10) hx hb dX5_questionIn_81 (by decide) ?_
                    refine lv_iload hx hb dX5_questionIn_83 (lv_at hl 5 rfl) ?_
                    refine lv_imul hx hb dX5_questionIn_85 ?_
                    refine lv_iadd hx hb dX5_questionIn_86 ?_
                    refine lv_iload hx hb dX5_questionIn_87 (lv_at hl 6 rfl) ?_
                    refine lv_iadd hx hb dX5_questionIn_89 ?_
                    obtain rfl := Option.some.inj hf
                    rw [hQ]
                    exact r_iret C hr hk hW rfl rfl dX5_questionIn_90
          exact L27 μ v5 (0 : Int32) _ _ _ hf hW (lv_sub hl [1, 2, 3, 4, 5, 6, 0] rfl)
      exact L15 μ v4 (0 : Int32) _ _ _ hf hW (lv_sub hl [1, 2, 3, 4, 5, 0] rfl)
  exact L3 μ (0 : Int32) _ _ _ hf hW (lv_sub hl [1, 2, 3, 4, 0] rfl)
set_option maxHeartbeats 4000000 in
set_option maxRecDepth 100000 in
theorem c_X5_firstQuestion {l : Launch} {D : va_G} {tc : Nat → ClassId} {ro : Ro} {oa : Ky → Nat} {aa : Nat → Nat} {sh : Sh} {ln : Nat → Nat} {j1 : Nat} {μ : Mm} {v2 : Int32} {res : Int32 × Mm} (hwf : WfS sh) (hj1 : sh 2 j1 = 1) (hf : f_X5_firstQuestion sh ln j1 μ v2 = some res) : Ct l D tc ro (faB oa aa sh) (feB tc oa aa sh ln) yX5_firstQuestion cX5_firstQuestion 3 (some .int) (rmq 6 147) [.ref (oa (5, 0)), .ref (oa (13, j1)), .int v2] μ (some (.int res.1)) res.2 := by
  refine Ct.of (by decide) (Nat.le_of_ble_eq_true rfl) (fun p e s m args below meth c A C hr hk hW ls hl => ?_)
  have hx := C.1.1
  have hb := C.1.2.1
  obtain ⟨Q, hQ⟩ : ∃ Q, Q = MQ below (Ctq D (faB oa aa sh) (feB tc oa aa sh ln) (some (.int res.1)) res.2 A) args s 0 0 A := ⟨_, rfl⟩
  rw [← hQ]
  have hl : lv_has ls 3 [(0, .ref (oa (5, 0))), (1, .ref (oa (13, j1))), (2, .int v2)] := hl
  unfold f_X5_firstQuestion at hf
  refine lv_aload_n hx hb dX5_firstQuestion_0 rfl (lv_at hl 0 rfl) ?_
  refine gf_X5_34 C hW dX5_firstQuestion_1 ?_
  refine lv_aload_n hx hb dX5_firstQuestion_4 rfl (lv_at hl 1 rfl) ?_
  refine lv_aload_n hx hb dX5_firstQuestion_5 rfl (lv_at hl 1 rfl) ?_
  refine gf_X5_90 C hW hj1 dX5_firstQuestion_6 ?_
  refine lv_iload_n hx hb dX5_firstQuestion_9 rfl (lv_at hl 2 rfl) ?_
  refine lv_aload_n hx hb dX5_firstQuestion_10 rfl (lv_at hl 1 rfl) ?_
  refine gf_X5_59 C hW hj1 dX5_firstQuestion_11 ?_
  obtain ⟨x14, h14, hf⟩ := bd_of hf
  refine r_callV (k := ((3, 0) : Ky)) C hW hl lk_X5_93 (c_X4_isSure hwf hj1 (cex_st hj1 (by decide)) h14) ⟨rfl, rfl⟩ ⟨Nat.le_of_ble_eq_true rfl, Nat.le_of_ble_eq_true rfl⟩ rfl rfl rfl (As := [.ref (oa (13, j1)), .ref (oa (11, 15 + 5 * j1 + 2)), .int v2, .int (μ (13, j1) 3)]) (rest := []) rfl rfl (Nat.le_of_ble_eq_true rfl) dX5_firstQuestion_14 ⟨Nat.zero_le _, Nat.zero_le _⟩ (fun H locs hW => ?_)
  show W p l e (rmq 6 147) s m args below meth c H locs 0 0 Q (F0 m 17 ls [.int x14])
  refine lv_if_eq (tgt := 22) hx hb dX5_firstQuestion_17 (by decide) (fun c1 => ?_) (fun c1 => ?_)
  · have hf := (if_pos c1).symm.trans hf
    refine lv_aload_n hx hb dX5_firstQuestion_22 rfl (lv_at hl 0 rfl) ?_
    refine lv_aload_n hx hb dX5_firstQuestion_23 rfl (lv_at hl 1 rfl) ?_
    refine lv_aload_n hx hb dX5_firstQuestion_24 rfl (lv_at hl 1 rfl) ?_
    refine gf_X5_90 C hW hj1 dX5_firstQuestion_25 ?_
    refine lv_iload_n hx hb dX5_firstQuestion_28 rfl (lv_at hl 2 rfl) ?_
    obtain ⟨x29, h29, hf⟩ := bd_of hf
    refine r_callV (k := ((5, 0) : Ky)) C hW hl lk_X5_99 (c_X5_questionIn hwf hj1 (cex_st hj1 (by decide)) h29) ⟨rfl, rfl⟩ ⟨Nat.le_of_ble_eq_true rfl, Nat.le_of_ble_eq_true rfl⟩ rfl rfl rfl (As := [.ref (oa (13, j1)), .ref (oa (11, 15 + 5 * j1 + 2)), .int v2]) (rest := []) rfl rfl (Nat.le_of_ble_eq_true rfl) dX5_firstQuestion_29 ⟨Nat.zero_le _, Nat.zero_le _⟩ (fun H locs hW => ?_)
    show W p l e (rmq 6 147) s m args below meth c H locs 0 0 Q (F0 m 32 ls [.int x29.1])
    obtain rfl := Option.some.inj hf
    rw [hQ]
    exact r_iret C hr hk hW rfl rfl dX5_firstQuestion_32
  · have hf := (if_neg c1).symm.trans hf
    refine lv_iconst (v := -1) hx hb dX5_firstQuestion_20 (by decide) ?_
    obtain rfl := Option.some.inj hf
    rw [hQ]
    exact r_iret C hr hk hW rfl rfl dX5_firstQuestion_21
set_option maxHeartbeats 4000000 in
set_option maxRecDepth 100000 in
theorem c_X5_sureByTwo {l : Launch} {D : va_G} {tc : Nat → ClassId} {ro : Ro} {oa : Ky → Nat} {aa : Nat → Nat} {sh : Sh} {ln : Nat → Nat} {j1 : Nat} {μ : Mm} {v2 : Int32} {res : Int32 × Mm} (hwf : WfS sh) (hj1 : sh 2 j1 = 1) (hf : f_X5_sureByTwo sh ln j1 μ v2 = some res) : Ct l D tc ro (faB oa aa sh) (feB tc oa aa sh ln) yX5_sureByTwo cX5_sureByTwo 6 (some .boolean) (rmq 6 147) [.ref (oa (5, 0)), .ref (oa (13, j1)), .int v2] μ (some (.int res.1)) res.2 := by
  refine Ct.of (by decide) (Nat.le_of_ble_eq_true rfl) (fun p e s m args below meth c A C hr hk hW ls hl => ?_)
  have hx := C.1.1
  have hb := C.1.2.1
  obtain ⟨Q, hQ⟩ : ∃ Q, Q = MQ below (Ctq D (faB oa aa sh) (feB tc oa aa sh ln) (some (.int res.1)) res.2 A) args s 0 0 A := ⟨_, rfl⟩
  rw [← hQ]
  have hl : lv_has ls 6 [(0, .ref (oa (5, 0))), (1, .ref (oa (13, j1))), (2, .int v2)] := hl
  unfold f_X5_sureByTwo at hf
  refine lv_iconst (v := 0) hx hb dX5_sureByTwo_0 (by decide) ?_
  refine lv_istore_n (lv' := [(3, .int (0 : Int32)), (0, .ref (oa (5, 0))), (1, .ref (oa (13, j1))), (2, .int v2)]) hx hb dX5_sureByTwo_1 rfl hl (by decide) rfl (fun ls hl => ?_)
  have L2 : ∀ (μ : Mm) (v3 : Int32) (H : Heap) (locs : List Loc) (ls : Array Slot), Wh (fun z : Mm × Int32 => f_X5_sureByTwo_L2 sh ln j1 v2 z.1 z.2) (μ, v3) = some res → Wd D (faB oa aa sh) (feB tc oa aa sh ln) A s.heap μ H locs → lv_has ls 6 [(0, .ref (oa (5, 0))), (1, .ref (oa (13, j1))), (2, .int v2), (3, .int v3)] → W p l e (rmq 6 147) s m args below meth c H locs 0 0 Q (F0 m 2 ls []) := by
    intro μ v3 H locs ls hf hW hl
    refine Wh_rule hf (fun z : Mm × Int32 => ∀ (H : Heap) (locs : List Loc) (ls : Array Slot), Wd D (faB oa aa sh) (feB tc oa aa sh ln) A s.heap z.1 H locs → lv_has ls 6 [(0, .ref (oa (5, 0))), (1, .ref (oa (13, j1))), (2, .int v2), (3, .int z.2)] → W p l e (rmq 6 147) s m args below meth c H locs 0 0 Q (F0 m 2 ls [])) (fun z o1 hf Kl1 Kr1 => ?_) _ _ _ hW hl
    obtain ⟨μ, v3⟩ := z
    intro H locs ls hW hl
    have hf : f_X5_sureByTwo_L2 sh ln j1 v2 μ v3 = some o1 := hf
    unfold f_X5_sureByTwo_L2 at hf
    have hW : Wd D (faB oa aa sh) (feB tc oa aa sh ln) A s.heap μ H locs := hW
    have hl : lv_has ls 6 [(0, .ref (oa (5, 0))), (1, .ref (oa (13, j1))), (2, .int v2), (3, .int v3)] := hl
    refine lv_iload_n hx hb dX5_sureByTwo_2 rfl (lv_at hl 3 rfl) ?_
    refine lv_aload_n hx hb dX5_sureByTwo_3 rfl (lv_at hl 1 rfl) ?_
    refine gf_X5_42 C hW hj1 dX5_sureByTwo_4 ?_
    refine lv_icmp_ge (tgt := 126) hx hb dX5_sureByTwo_7 (by decide) (fun c1 => ?_) (fun c1 => ?_)
    · have hf := (if_pos c1).symm.trans hf
      obtain ⟨x9002, hf, hx9002⟩ := map_of hf
      have e9002 := (Kr1 _ hx9002.symm).symm
      subst e9002
      refine lv_iconst (v := 0) hx hb dX5_sureByTwo_126 (by decide) ?_
      obtain rfl := Option.some.inj hf
      rw [hQ]
      exact r_zret C hr hk hW (Or.inl rfl) rfl rfl dX5_sureByTwo_127
    · have hf := (if_neg c1).symm.trans hf
      refine lv_iconst (v := 0) hx hb dX5_sureByTwo_10 (by decide) ?_
      refine lv_istore (lv' := [(4, .int (0 : Int32)), (0, .ref (oa (5, 0))), (1, .ref (oa (13, j1))), (2, .int v2), (3, .int v3)]) hx hb dX5_sureByTwo_11 hl (by decide) rfl (fun ls hl => ?_)
      have L13 : ∀ (μ : Mm) (v3 v4 : Int32) (H : Heap) (locs : List Loc) (ls : Array Slot), Wh (fun z : Mm × Int32 => f_X5_sureByTwo_L13 sh ln j1 v2 v3 z.1 z.2) (μ, v4) = some o1 → Wd D (faB oa aa sh) (feB tc oa aa sh ln) A s.heap μ H locs → lv_has ls 6 [(0, .ref (oa (5, 0))), (1, .ref (oa (13, j1))), (2, .int v2), (3, .int v3), (4, .int v4)] → W p l e (rmq 6 147) s m args below meth c H locs 0 0 Q (F0 m 13 ls []) := by
        intro μ v3 v4 H locs ls hf hW hl
        refine Wh_rule hf (fun z : Mm × Int32 => ∀ (H : Heap) (locs : List Loc) (ls : Array Slot), Wd D (faB oa aa sh) (feB tc oa aa sh ln) A s.heap z.1 H locs → lv_has ls 6 [(0, .ref (oa (5, 0))), (1, .ref (oa (13, j1))), (2, .int v2), (3, .int v3), (4, .int z.2)] → W p l e (rmq 6 147) s m args below meth c H locs 0 0 Q (F0 m 13 ls [])) (fun z o2 hf Kl2 Kr2 => ?_) _ _ _ hW hl
        obtain ⟨μ, v4⟩ := z
        intro H locs ls hW hl
        have hf : f_X5_sureByTwo_L13 sh ln j1 v2 v3 μ v4 = some o2 := hf
        unfold f_X5_sureByTwo_L13 at hf
        have hW : Wd D (faB oa aa sh) (feB tc oa aa sh ln) A s.heap μ H locs := hW
        have hl : lv_has ls 6 [(0, .ref (oa (5, 0))), (1, .ref (oa (13, j1))), (2, .int v2), (3, .int v3), (4, .int v4)] := hl
        refine lv_iload hx hb dX5_sureByTwo_13 (lv_at hl 4 rfl) ?_
        refine lv_aload_n hx hb dX5_sureByTwo_15 rfl (lv_at hl 1 rfl) ?_
        refine gf_X5_42 C hW hj1 dX5_sureByTwo_16 ?_
        refine lv_icmp_ge (tgt := 120) hx hb dX5_sureByTwo_19 (by decide) (fun c3 => ?_) (fun c3 => ?_)
        · have hf := (if_pos c3).symm.trans hf
          obtain ⟨x9004, hf, hx9004⟩ := map_of hf
          have e9004 := (Kr2 _ hx9004.symm).symm
          subst e9004
          refine lv_iinc (v := (v3 + (1 : Int32))) (lv' := [(3, .int (v3 + (1 : Int32))), (0, .ref (oa (5, 0))), (1, .ref (oa (13, j1))), (2, .int v2), (4, .int v4)]) hx hb dX5_sureByTwo_120 hl (k := 3) rfl rfl (by decide) rfl (fun ls hl => ?_)
          refine lv_goto (tgt := 2) hx hb dX5_sureByTwo_123 (by decide) ?_
          obtain rfl := Option.some.inj hf
          exact Kl1 _ rfl _ _ _ hW (lv_sub hl [1, 2, 3, 0] rfl)
        · have hf := (if_neg c3).symm.trans hf
          refine lv_iconst (v := 0) hx hb dX5_sureByTwo_22 (by decide) ?_
          refine lv_istore (lv' := [(5, .int (0 : Int32)), (0, .ref (oa (5, 0))), (1, .ref (oa (13, j1))), (2, .int v2), (3, .int v3), (4, .int v4)]) hx hb dX5_sureByTwo_23 hl (by decide) rfl (fun ls hl => ?_)
          have L25 : ∀ (μ : Mm) (v4 v5 : Int32) (H : Heap) (locs : List Loc) (ls : Array Slot), Wh (fun z : Mm × Int32 => f_X5_sureByTwo_L25 sh ln j1 v2 v3 v4 z.1 z.2) (μ, v5) = some o2 → Wd D (faB oa aa sh) (feB tc oa aa sh ln) A s.heap μ H locs → lv_has ls 6 [(0, .ref (oa (5, 0))), (1, .ref (oa (13, j1))), (2, .int v2), (3, .int v3), (4, .int v4), (5, .int v5)] → W p l e (rmq 6 147) s m args below meth c H locs 0 0 Q (F0 m 25 ls []) := by
            intro μ v4 v5 H locs ls hf hW hl
            refine Wh_rule hf (fun z : Mm × Int32 => ∀ (H : Heap) (locs : List Loc) (ls : Array Slot), Wd D (faB oa aa sh) (feB tc oa aa sh ln) A s.heap z.1 H locs → lv_has ls 6 [(0, .ref (oa (5, 0))), (1, .ref (oa (13, j1))), (2, .int v2), (3, .int v3), (4, .int v4), (5, .int z.2)] → W p l e (rmq 6 147) s m args below meth c H locs 0 0 Q (F0 m 25 ls [])) (fun z o3 hf Kl3 Kr3 => ?_) _ _ _ hW hl
            obtain ⟨μ, v5⟩ := z
            intro H locs ls hW hl
            have hf : f_X5_sureByTwo_L25 sh ln j1 v2 v3 v4 μ v5 = some o3 := hf
            unfold f_X5_sureByTwo_L25 at hf
            have hW : Wd D (faB oa aa sh) (feB tc oa aa sh ln) A s.heap μ H locs := hW
            have hl : lv_has ls 6 [(0, .ref (oa (5, 0))), (1, .ref (oa (13, j1))), (2, .int v2), (3, .int v3), (4, .int v4), (5, .int v5)] := hl
            refine lv_iload hx hb dX5_sureByTwo_25 (lv_at hl 5 rfl) ?_
            refine lv_aload_n hx hb dX5_sureByTwo_27 rfl (lv_at hl 1 rfl) ?_
            refine gf_X5_103 C hW hj1 dX5_sureByTwo_28 ?_
            refine lv_icmp_ge (tgt := 114) hx hb dX5_sureByTwo_31 (by decide) (fun c5 => ?_) (fun c5 => ?_)
            · have hf := (if_pos c5).symm.trans hf
              obtain ⟨x9006, hf, hx9006⟩ := map_of hf
              have e9006 := (Kr3 _ hx9006.symm).symm
              subst e9006
              refine lv_iinc (v := (v4 + (1 : Int32))) (lv' := [(4, .int (v4 + (1 : Int32))), (0, .ref (oa (5, 0))), (1, .ref (oa (13, j1))), (2, .int v2), (3, .int v3), (5, .int v5)]) hx hb dX5_sureByTwo_114 hl (k := 4) rfl rfl (by decide) rfl (fun ls hl => ?_)
              refine lv_goto (tgt := 13) hx hb dX5_sureByTwo_117 (by decide) ?_
              obtain rfl := Option.some.inj hf
              exact Kl2 _ rfl _ _ _ hW (lv_sub hl [1, 2, 3, 4, 0] rfl)
            · have hf := (if_neg c5).symm.trans hf
              refine lv_iload_n hx hb dX5_sureByTwo_34 rfl (lv_at hl 3 rfl) ?_
              refine lv_iload_n hx hb dX5_sureByTwo_35 rfl (lv_at hl 2 rfl) ?_
              refine lv_icmp_eq (tgt := 114) hx hb dX5_sureByTwo_36 (by decide) (fun c7 => ?_) (fun c7 => ?_)
              · have hf := (if_pos c7).symm.trans hf
                obtain ⟨x9008, hf, hx9008⟩ := map_of hf
                have e9008 := (Kr3 _ hx9008.symm).symm
                subst e9008
                refine lv_iinc (v := (v4 + (1 : Int32))) (lv' := [(4, .int (v4 + (1 : Int32))), (0, .ref (oa (5, 0))), (1, .ref (oa (13, j1))), (2, .int v2), (3, .int v3), (5, .int v5)]) hx hb dX5_sureByTwo_114 hl (k := 4) rfl rfl (by decide) rfl (fun ls hl => ?_)
                refine lv_goto (tgt := 13) hx hb dX5_sureByTwo_117 (by decide) ?_
                obtain rfl := Option.some.inj hf
                exact Kl2 _ rfl _ _ _ hW (lv_sub hl [1, 2, 3, 4, 0] rfl)
              · have hf := (if_neg c7).symm.trans hf
                refine lv_iload hx hb dX5_sureByTwo_39 (lv_at hl 4 rfl) ?_
                refine lv_iload_n hx hb dX5_sureByTwo_41 rfl (lv_at hl 2 rfl) ?_
                refine lv_icmp_eq (tgt := 114) hx hb dX5_sureByTwo_42 (by decide) (fun c9 => ?_) (fun c9 => ?_)
                · have hf := (if_pos c9).symm.trans hf
                  obtain ⟨x9010, hf, hx9010⟩ := map_of hf
                  have e9010 := (Kr3 _ hx9010.symm).symm
                  subst e9010
                  refine lv_iinc (v := (v4 + (1 : Int32))) (lv' := [(4, .int (v4 + (1 : Int32))), (0, .ref (oa (5, 0))), (1, .ref (oa (13, j1))), (2, .int v2), (3, .int v3), (5, .int v5)]) hx hb dX5_sureByTwo_114 hl (k := 4) rfl rfl (by decide) rfl (fun ls hl => ?_)
                  refine lv_goto (tgt := 13) hx hb dX5_sureByTwo_117 (by decide) ?_
                  obtain rfl := Option.some.inj hf
                  exact Kl2 _ rfl _ _ _ hW (lv_sub hl [1, 2, 3, 4, 0] rfl)
                · have hf := (if_neg c9).symm.trans hf
                  refine lv_aload_n hx hb dX5_sureByTwo_45 rfl (lv_at hl 0 rfl) ?_
                  refine gf_X5_31 C hW dX5_sureByTwo_46 ?_
                  refine lv_aload_n hx hb dX5_sureByTwo_49 rfl (lv_at hl 1 rfl) ?_
                  refine gf_X5_90 C hW hj1 dX5_sureByTwo_50 ?_
                  refine lv_aload_n hx hb dX5_sureByTwo_53 rfl (lv_at hl 1 rfl) ?_
                  refine gf_X5_66 C hW hj1 dX5_sureByTwo_54 ?_
                  obtain ⟨x57, h57, hf⟩ := bd_of hf
                  refine r_callV (k := ((11, 14) : Ky)) C hW hl lk_X5_118 (c_X1_become hwf rfl (cex_st hj1 (by decide)) h57) ⟨rfl, rfl⟩ ⟨Nat.le_of_ble_eq_true rfl, Nat.le_of_ble_eq_true rfl⟩ rfl (faB_11 rfl) rfl (As := [.ref (oa (11, 15 + 5 * j1 + 2)), .int (μ (13, j1) 2)]) (rest := []) rfl rfl (Nat.le_of_ble_eq_true rfl) dX5_sureByTwo_57 ⟨Nat.zero_le _, Nat.zero_le _⟩ (fun H locs hW => ?_)
                  show W p l e (rmq 6 147) s m args below meth c H locs 0 0 Q (F0 m 60 ls [])
                  refine lv_aload_n hx hb dX5_sureByTwo_60 rfl (lv_at hl 0 rfl) ?_
                  refine gf_X5_34 C hW dX5_sureByTwo_61 ?_
                  refine lv_aload_n hx hb dX5_sureByTwo_64 rfl (lv_at hl 1 rfl) ?_
                  refine lv_aload_n hx hb dX5_sureByTwo_65 rfl (lv_at hl 0 rfl) ?_
                  refine gf_X5_31 C hW dX5_sureByTwo_66 ?_
                  refine lv_iload_n hx hb dX5_sureByTwo_69 rfl (lv_at hl 3 rfl) ?_
                  refine lv_iload hx hb dX5_sureByTwo_70 (lv_at hl 4 rfl) ?_
                  refine lv_iload hx hb dX5_sureByTwo_72 (lv_at hl 5 rfl) ?_
                  obtain ⟨x74, h74, hf⟩ := bd_of hf
                  refine r_callV (k := ((3, 0) : Ky)) C hW hl lk_X5_106 (c_X4_sayAnswer hwf hj1 rfl h74) ⟨rfl, rfl⟩ ⟨Nat.le_of_ble_eq_true rfl, Nat.le_of_ble_eq_true rfl⟩ rfl rfl rfl (As := [.ref (oa (13, j1)), .ref (oa (11, 14)), .int v3, .int v4, .int v5]) (rest := []) rfl rfl (Nat.le_of_ble_eq_true rfl) dX5_sureByTwo_74 ⟨Nat.zero_le _, Nat.zero_le _⟩ (fun H locs hW => ?_)
                  show W p l e (rmq 6 147) s m args below meth c H locs 0 0 Q (F0 m 77 ls [])
                  refine lv_aload_n hx hb dX5_sureByTwo_77 rfl (lv_at hl 0 rfl) ?_
                  refine gf_X5_34 C hW dX5_sureByTwo_78 ?_
                  refine lv_aload_n hx hb dX5_sureByTwo_81 rfl (lv_at hl 1 rfl) ?_
                  refine lv_aload_n hx hb dX5_sureByTwo_82 rfl (lv_at hl 0 rfl) ?_
                  refine gf_X5_31 C hW dX5_sureByTwo_83 ?_
                  obtain ⟨x86, h86, hf⟩ := bd_of hf
                  refine r_callV (k := ((3, 0) : Ky)) C hW hl lk_X5_122 (c_X4_heed hwf hj1 rfl h86) ⟨rfl, rfl⟩ ⟨Nat.le_of_ble_eq_true rfl, Nat.le_of_ble_eq_true rfl⟩ rfl rfl rfl (As := [.ref (oa (13, j1)), .ref (oa (11, 14))]) (rest := []) rfl rfl (Nat.le_of_ble_eq_true rfl) dX5_sureByTwo_86 ⟨Nat.zero_le _, Nat.zero_le _⟩ (fun H locs hW => ?_)
                  show W p l e (rmq 6 147) s m args below meth c H locs 0 0 Q (F0 m 89 ls [.int x86.1])
                  refine lv_if_eq (tgt := 108) hx hb dX5_sureByTwo_89 (by decide) (fun c11 => ?_) (fun c11 => ?_)
                  · have hf := (if_pos c11).symm.trans hf
                    refine lv_iinc (v := (v5 + (1 : Int32))) (lv' := [(5, .int (v5 + (1 : Int32))), (0, .ref (oa (5, 0))), (1, .ref (oa (13, j1))), (2, .int v2), (3, .int v3), (4, .int v4)]) hx hb dX5_sureByTwo_108 hl (k := 5) rfl rfl (by decide) rfl (fun ls hl => ?_)
                    refine lv_goto (tgt := 25) hx hb dX5_sureByTwo_111 (by decide) ?_
                    obtain rfl := Option.some.inj hf
                    exact Kl3 _ rfl _ _ _ hW (lv_sub hl [1, 2, 3, 4, 5, 0] rfl)
                  · have hf := (if_neg c11).symm.trans hf
                    refine lv_aload_n hx hb dX5_sureByTwo_92 rfl (lv_at hl 0 rfl) ?_
                    refine lv_aload_n hx hb dX5_sureByTwo_93 rfl (lv_at hl 1 rfl) ?_
                    refine lv_aload_n hx hb dX5_sureByTwo_94 rfl (lv_at hl 0 rfl) ?_
                    refine gf_X5_31 C hW dX5_sureByTwo_95 ?_
                    refine lv_iload_n hx hb dX5_sureByTwo_98 rfl (lv_at hl 2 rfl) ?_
                    obtain ⟨x99, h99, hf⟩ := bd_of hf
                    refine r_callV (k := ((5, 0) : Ky)) C hW hl lk_X5_99 (c_X5_questionIn hwf hj1 rfl h99) ⟨rfl, rfl⟩ ⟨Nat.le_of_ble_eq_true rfl, Nat.le_of_ble_eq_true rfl⟩ rfl rfl rfl (As := [.ref (oa (13, j1)), .ref (oa (11, 14)), .int v2]) (rest := []) rfl rfl (Nat.le_of_ble_eq_true rfl) dX5_sureByTwo_99 ⟨Nat.zero_le _, Nat.zero_le _⟩ (fun H locs hW => ?_)
                    show W p l e (rmq 6 147) s m args below meth c H locs 0 0 Q (F0 m 102 ls [.int x99.1])
                    refine lv_iconst (v := -1) hx hb dX5_sureByTwo_102 (by decide) ?_
                    refine lv_icmp_eq (tgt := 108) hx hb dX5_sureByTwo_103 (by decide) (fun c12 => ?_) (fun c12 => ?_)
                    · have hf := (if_pos c12).symm.trans hf
                      refine lv_iinc (v := (v5 + (1 : Int32))) (lv' := [(5, .int (v5 + (1 : Int32))), (0, .ref (oa (5, 0))), (1, .ref (oa (13, j1))), (2, .int v2), (3, .int v3), (4, .int v4)]) hx hb dX5_sureByTwo_108 hl (k := 5) rfl rfl (by decide) rfl (fun ls hl => ?_)
                      refine lv_goto (tgt := 25) hx hb dX5_sureByTwo_111 (by decide) ?_
                      obtain rfl := Option.some.inj hf
                      exact Kl3 _ rfl _ _ _ hW (lv_sub hl [1, 2, 3, 4, 5, 0] rfl)
                    · have hf := (if_neg c12).symm.trans hf
                      obtain ⟨x9015, hf, hx9015⟩ := map_of hf
                      have e9015 := (Kr3 _ hx9015.symm).symm
                      subst e9015
                      obtain ⟨x9014, hf, hx9014⟩ := map_of hf
                      have e9014 := (Kr2 _ hx9014.symm).symm
                      subst e9014
                      obtain ⟨x9013, hf, hx9013⟩ := map_of hf
                      have e9013 := (Kr1 _ hx9013.symm).symm
                      subst e9013
                      refine lv_iconst (v := 1) hx hb dX5_sureByTwo_106 (by decide) ?_
                      obtain rfl := Option.some.inj hf
                      rw [hQ]
                      exact r_zret C hr hk hW (Or.inr rfl) rfl rfl dX5_sureByTwo_107
          exact L25 μ v4 (0 : Int32) _ _ _ hf hW (lv_sub hl [1, 2, 3, 4, 5, 0] rfl)
      exact L13 μ v3 (0 : Int32) _ _ _ hf hW (lv_sub hl [1, 2, 3, 4, 0] rfl)
  exact L2 μ (0 : Int32) _ _ _ hf hW (lv_sub hl [1, 2, 3, 0] rfl)
set_option maxHeartbeats 4000000 in
set_option maxRecDepth 100000 in
theorem c_X5_fewestQueries {l : Launch} {D : va_G} {tc : Nat → ClassId} {ro : Ro} {oa : Ky → Nat} {aa : Nat → Nat} {sh : Sh} {ln : Nat → Nat} {j1 : Nat} {μ : Mm} {v2 : Int32} {res : Int32 × Mm} (hwf : WfS sh) (hj1 : sh 2 j1 = 1) (hf : f_X5_fewestQueries sh ln j1 μ v2 = some res) : Ct l D tc ro (faB oa aa sh) (feB tc oa aa sh ln) yX5_fewestQueries cX5_fewestQueries 3 (some .int) (rmq 7 172) [.ref (oa (5, 0)), .ref (oa (13, j1)), .int v2] μ (some (.int res.1)) res.2 := by
  refine Ct.of (by decide) (Nat.le_of_ble_eq_true rfl) (fun p e s m args below meth c A C hr hk hW ls hl => ?_)
  have hx := C.1.1
  have hb := C.1.2.1
  obtain ⟨Q, hQ⟩ : ∃ Q, Q = MQ below (Ctq D (faB oa aa sh) (feB tc oa aa sh ln) (some (.int res.1)) res.2 A) args s 0 0 A := ⟨_, rfl⟩
  rw [← hQ]
  have hl : lv_has ls 3 [(0, .ref (oa (5, 0))), (1, .ref (oa (13, j1))), (2, .int v2)] := hl
  unfold f_X5_fewestQueries at hf
  refine lv_aload_n hx hb dX5_fewestQueries_0 rfl (lv_at hl 1 rfl) ?_
  refine gf_X5_42 C hW hj1 dX5_fewestQueries_1 ?_
  refine lv_bipush (v := 6) hx hb dX5_fewestQueries_4 (by decide) ?_
  refine lv_icmp_le (tgt := 12) hx hb dX5_fewestQueries_6 (by decide) (fun c1 => ?_) (fun c1 => ?_)
  · have hf := (if_pos c1).symm.trans hf
    refine lv_aload_n hx hb dX5_fewestQueries_12 rfl (lv_at hl 0 rfl) ?_
    refine gf_X5_34 C hW dX5_fewestQueries_13 ?_
    refine lv_aload_n hx hb dX5_fewestQueries_16 rfl (lv_at hl 1 rfl) ?_
    refine lv_aload_n hx hb dX5_fewestQueries_17 rfl (lv_at hl 1 rfl) ?_
    refine gf_X5_90 C hW hj1 dX5_fewestQueries_18 ?_
    refine lv_iload_n hx hb dX5_fewestQueries_21 rfl (lv_at hl 2 rfl) ?_
    refine lv_aload_n hx hb dX5_fewestQueries_22 rfl (lv_at hl 1 rfl) ?_
    refine gf_X5_59 C hW hj1 dX5_fewestQueries_23 ?_
    obtain ⟨x26, h26, hf⟩ := bd_of hf
    refine r_callV (k := ((3, 0) : Ky)) C hW hl lk_X5_93 (c_X4_isSure hwf hj1 (cex_st hj1 (by decide)) h26) ⟨rfl, rfl⟩ ⟨Nat.le_of_ble_eq_true rfl, Nat.le_of_ble_eq_true rfl⟩ rfl rfl rfl (As := [.ref (oa (13, j1)), .ref (oa (11, 15 + 5 * j1 + 2)), .int v2, .int (μ (13, j1) 3)]) (rest := []) rfl rfl (Nat.le_of_ble_eq_true rfl) dX5_fewestQueries_26 ⟨Nat.zero_le _, Nat.zero_le _⟩ (fun H locs hW => ?_)
    show W p l e (rmq 7 172) s m args below meth c H locs 0 0 Q (F0 m 29 ls [.int x26])
    refine lv_if_eq (tgt := 34) hx hb dX5_fewestQueries_29 (by decide) (fun c2 => ?_) (fun c2 => ?_)
    · have hf := (if_pos c2).symm.trans hf
      refine lv_aload_n hx hb dX5_fewestQueries_34 rfl (lv_at hl 0 rfl) ?_
      refine lv_aload_n hx hb dX5_fewestQueries_35 rfl (lv_at hl 1 rfl) ?_
      refine lv_aload_n hx hb dX5_fewestQueries_36 rfl (lv_at hl 1 rfl) ?_
      refine gf_X5_90 C hW hj1 dX5_fewestQueries_37 ?_
      refine lv_iload_n hx hb dX5_fewestQueries_40 rfl (lv_at hl 2 rfl) ?_
      obtain ⟨x41, h41, hf⟩ := bd_of hf
      refine r_callV (k := ((5, 0) : Ky)) C hW hl lk_X5_99 (c_X5_questionIn hwf hj1 (cex_st hj1 (by decide)) h41) ⟨rfl, rfl⟩ ⟨Nat.le_of_ble_eq_true rfl, Nat.le_of_ble_eq_true rfl⟩ rfl rfl rfl (As := [.ref (oa (13, j1)), .ref (oa (11, 15 + 5 * j1 + 2)), .int v2]) (rest := []) rfl rfl (Nat.le_of_ble_eq_true rfl) dX5_fewestQueries_41 ⟨Nat.zero_le _, Nat.zero_le _⟩ (fun H locs hW => ?_)
      show W p l e (rmq 7 172) s m args below meth c H locs 0 0 Q (F0 m 44 ls [.int x41.1])
      refine lv_iconst (v := -1) hx hb dX5_fewestQueries_44 (by decide) ?_
      refine lv_icmp_eq (tgt := 50) hx hb dX5_fewestQueries_45 (by decide) (fun c3 => ?_) (fun c3 => ?_)
      · have hf := (if_pos c3).symm.trans hf
        refine lv_aload_n hx hb dX5_fewestQueries_50 rfl (lv_at hl 0 rfl) ?_
        refine lv_aload_n hx hb dX5_fewestQueries_51 rfl (lv_at hl 1 rfl) ?_
        refine lv_iload_n hx hb dX5_fewestQueries_52 rfl (lv_at hl 2 rfl) ?_
        obtain ⟨x53, h53, hf⟩ := bd_of hf
        refine r_callV (k := ((5, 0) : Ky)) C hW hl lk_X5_114 (c_X5_sureByTwo hwf hj1 h53) ⟨rfl, rfl⟩ ⟨Nat.le_of_ble_eq_true rfl, Nat.le_of_ble_eq_true rfl⟩ rfl rfl rfl (As := [.ref (oa (13, j1)), .int v2]) (rest := []) rfl rfl (Nat.le_of_ble_eq_true rfl) dX5_fewestQueries_53 ⟨Nat.zero_le _, Nat.zero_le _⟩ (fun H locs hW => ?_)
        show W p l e (rmq 7 172) s m args below meth c H locs 0 0 Q (F0 m 56 ls [.int x53.1])
        refine lv_if_eq (tgt := 63) hx hb dX5_fewestQueries_56 (by decide) (fun c4 => ?_) (fun c4 => ?_)
        · have hf := (if_pos c4).symm.trans hf
          refine lv_iconst (v := -1) hx hb dX5_fewestQueries_63 (by decide) ?_
          obtain rfl := Option.some.inj hf
          rw [hQ]
          exact r_iret C hr hk hW rfl rfl dX5_fewestQueries_64
        · have hf := (if_neg c4).symm.trans hf
          refine lv_iconst (v := 2) hx hb dX5_fewestQueries_59 (by decide) ?_
          refine lv_goto (tgt := 64) hx hb dX5_fewestQueries_60 (by decide) ?_
          obtain rfl := Option.some.inj hf
          rw [hQ]
          exact r_iret C hr hk hW rfl rfl dX5_fewestQueries_64
      · have hf := (if_neg c3).symm.trans hf
        refine lv_iconst (v := 1) hx hb dX5_fewestQueries_48 (by decide) ?_
        obtain rfl := Option.some.inj hf
        rw [hQ]
        exact r_iret C hr hk hW rfl rfl dX5_fewestQueries_49
    · have hf := (if_neg c2).symm.trans hf
      refine lv_iconst (v := 0) hx hb dX5_fewestQueries_32 (by decide) ?_
      obtain rfl := Option.some.inj hf
      rw [hQ]
      exact r_iret C hr hk hW rfl rfl dX5_fewestQueries_33
  · have hf := (if_neg c1).symm.trans hf
    refine lv_bipush (v := -3) hx hb dX5_fewestQueries_9 (by decide) ?_
    obtain rfl := Option.some.inj hf
    rw [hQ]
    exact r_iret C hr hk hW rfl rfl dX5_fewestQueries_11
set_option maxHeartbeats 4000000 in
set_option maxRecDepth 100000 in
theorem c_X5_stepsBetween {l : Launch} {D : va_G} {tc : Nat → ClassId} {ro : Ro} {oa : Ky → Nat} {aa : Nat → Nat} {sh : Sh} {ln : Nat → Nat} {j1 : Nat} {μ : Mm} {v2 v3 : Int32} {res : Int32} (hwf : WfS sh) (hj1 : sh 2 j1 = 1) (hf : f_X5_stepsBetween sh ln j1 μ v2 v3 = some res) : Ct l D tc ro (faB oa aa sh) (feB tc oa aa sh ln) yX5_stepsBetween cX5_stepsBetween 8 (some .int) (rmq 1 21) [.ref (oa (5, 0)), .ref (oa (13, j1)), .int v2, .int v3] μ (some (.int res)) μ := by
  refine Ct.of (by decide) (Nat.le_of_ble_eq_true rfl) (fun p e s m args below meth c A C hr hk hW ls hl => ?_)
  have hx := C.1.1
  have hb := C.1.2.1
  obtain ⟨Q, hQ⟩ : ∃ Q, Q = MQ below (Ctq D (faB oa aa sh) (feB tc oa aa sh ln) (some (.int res)) μ A) args s 0 0 A := ⟨_, rfl⟩
  rw [← hQ]
  have hl : lv_has ls 8 [(0, .ref (oa (5, 0))), (1, .ref (oa (13, j1))), (2, .int v2), (3, .int v3)] := hl
  unfold f_X5_stepsBetween at hf
  refine lv_iconst (v := 1) hx hb dX5_stepsBetween_0 (by decide) ?_
  refine lv_iload_n hx hb dX5_stepsBetween_1 rfl (lv_at hl 2 rfl) ?_
  refine lv_ishl hx hb dX5_stepsBetween_2 ?_
  refine lv_istore (lv' := [(4, .int ((1 : Int32) <<< (v2 &&& 31))), (0, .ref (oa (5, 0))), (1, .ref (oa (13, j1))), (2, .int v2), (3, .int v3)]) hx hb dX5_stepsBetween_3 hl (by decide) rfl (fun ls hl => ?_)
  refine lv_iconst (v := 0) hx hb dX5_stepsBetween_5 (by decide) ?_
  refine lv_istore (lv' := [(5, .int (0 : Int32)), (4, .int ((1 : Int32) <<< (v2 &&& 31))), (0, .ref (oa (5, 0))), (1, .ref (oa (13, j1))), (2, .int v2), (3, .int v3)]) hx hb dX5_stepsBetween_6 hl (by decide) rfl (fun ls hl => ?_)
  have L8 : ∀ (v4 v5 : Int32) (H : Heap) (locs : List Loc) (ls : Array Slot), Wh (fun z : Int32 × Int32 => f_X5_stepsBetween_L8 sh ln j1 v3 μ z.1 z.2) (v4, v5) = some res → Wd D (faB oa aa sh) (feB tc oa aa sh ln) A s.heap μ H locs → lv_has ls 8 [(1, .ref (oa (13, j1))), (3, .int v3), (4, .int v4), (5, .int v5)] → W p l e (rmq 1 21) s m args below meth c H locs 0 0 Q (F0 m 8 ls []) := by
    intro v4 v5 H locs ls hf hW hl
    refine Wh_rule hf (fun z : Int32 × Int32 => ∀ (H : Heap) (locs : List Loc) (ls : Array Slot), Wd D (faB oa aa sh) (feB tc oa aa sh ln) A s.heap μ H locs → lv_has ls 8 [(1, .ref (oa (13, j1))), (3, .int v3), (4, .int z.1), (5, .int z.2)] → W p l e (rmq 1 21) s m args below meth c H locs 0 0 Q (F0 m 8 ls [])) (fun z o1 hf Kl1 Kr1 => ?_) _ _ _ hW hl
    obtain ⟨v4, v5⟩ := z
    intro H locs ls hW hl
    have hf : f_X5_stepsBetween_L8 sh ln j1 v3 μ v4 v5 = some o1 := hf
    unfold f_X5_stepsBetween_L8 at hf
    have hW : Wd D (faB oa aa sh) (feB tc oa aa sh ln) A s.heap μ H locs := hW
    have hl : lv_has ls 8 [(1, .ref (oa (13, j1))), (3, .int v3), (4, .int v4), (5, .int v5)] := hl
    refine lv_iload hx hb dX5_stepsBetween_8 (lv_at hl 3 rfl) ?_
    refine lv_aload_n hx hb dX5_stepsBetween_10 rfl (lv_at hl 0 rfl) ?_
    refine gf_X5_42 C hW hj1 dX5_stepsBetween_11 ?_
    refine lv_icmp_ge (tgt := 87) hx hb dX5_stepsBetween_14 (by decide) (fun c1 => ?_) (fun c1 => ?_)
    · have hf := (if_pos c1).symm.trans hf
      obtain ⟨x9002, hf, hx9002⟩ := map_of hf
      have e9002 := (Kr1 _ hx9002.symm).symm
      subst e9002
      refine lv_iconst (v := -1) hx hb dX5_stepsBetween_87 (by decide) ?_
      obtain rfl := Option.some.inj hf
      rw [hQ]
      exact r_iret C hr hk hW rfl rfl dX5_stepsBetween_88
    · have hf := (if_neg c1).symm.trans hf
      refine lv_iload hx hb dX5_stepsBetween_17 (lv_at hl 2 rfl) ?_
      refine lv_iload_n hx hb dX5_stepsBetween_19 rfl (lv_at hl 1 rfl) ?_
      refine lv_ishr hx hb dX5_stepsBetween_20 ?_
      refine lv_iconst (v := 1) hx hb dX5_stepsBetween_21 (by decide) ?_
      refine lv_iand hx hb dX5_stepsBetween_22 ?_
      refine lv_iconst (v := 1) hx hb dX5_stepsBetween_23 (by decide) ?_
      refine lv_icmp_ne (tgt := 30) hx hb dX5_stepsBetween_24 (by decide) (fun c3 => ?_) (fun c3 => ?_)
      · have hf := (if_neg c3).symm.trans hf
        refine lv_iload hx hb dX5_stepsBetween_30 (lv_at hl 2 rfl) ?_
        refine lv_istore (lv' := [(6, .int v4), (1, .ref (oa (13, j1))), (3, .int v3), (4, .int v4), (5, .int v5)]) hx hb dX5_stepsBetween_32 hl (by decide) rfl (fun ls hl => ?_)
        refine lv_iconst (v := 0) hx hb dX5_stepsBetween_34 (by decide) ?_
        refine lv_istore (lv' := [(7, .int (0 : Int32)), (6, .int v4), (1, .ref (oa (13, j1))), (3, .int v3), (4, .int v4), (5, .int v5)]) hx hb dX5_stepsBetween_35 hl (by decide) rfl (fun ls hl => ?_)
        have L37 : ∀ (v4 v5 v6 v7 : Int32) (H : Heap) (locs : List Loc) (ls : Array Slot), Wh (fun z : Int32 × Int32 => f_X5_stepsBetween_L37 sh ln j1 v3 v4 v5 μ z.1 z.2) (v6, v7) = some o1 → Wd D (faB oa aa sh) (feB tc oa aa sh ln) A s.heap μ H locs → lv_has ls 8 [(1, .ref (oa (13, j1))), (3, .int v3), (4, .int v4), (5, .int v5), (6, .int v6), (7, .int v7)] → W p l e (rmq 1 21) s m args below meth c H locs 0 0 Q (F0 m 37 ls []) := by
          intro v4 v5 v6 v7 H locs ls hf hW hl
          refine Wh_rule hf (fun z : Int32 × Int32 => ∀ (H : Heap) (locs : List Loc) (ls : Array Slot), Wd D (faB oa aa sh) (feB tc oa aa sh ln) A s.heap μ H locs → lv_has ls 8 [(1, .ref (oa (13, j1))), (3, .int v3), (4, .int v4), (5, .int v5), (6, .int z.1), (7, .int z.2)] → W p l e (rmq 1 21) s m args below meth c H locs 0 0 Q (F0 m 37 ls [])) (fun z o2 hf Kl2 Kr2 => ?_) _ _ _ hW hl
          obtain ⟨v6, v7⟩ := z
          intro H locs ls hW hl
          have hf : f_X5_stepsBetween_L37 sh ln j1 v3 v4 v5 μ v6 v7 = some o2 := hf
          unfold f_X5_stepsBetween_L37 at hf
          have hW : Wd D (faB oa aa sh) (feB tc oa aa sh ln) A s.heap μ H locs := hW
          have hl : lv_has ls 8 [(1, .ref (oa (13, j1))), (3, .int v3), (4, .int v4), (5, .int v5), (6, .int v6), (7, .int v7)] := hl
          refine lv_iload hx hb dX5_stepsBetween_37 (lv_at hl 5 rfl) ?_
          refine lv_aload_n hx hb dX5_stepsBetween_39 rfl (lv_at hl 0 rfl) ?_
          refine gf_X5_42 C hW hj1 dX5_stepsBetween_40 ?_
          refine lv_icmp_ge (tgt := 77) hx hb dX5_stepsBetween_43 (by decide) (fun c4 => ?_) (fun c4 => ?_)
          · have hf := (if_pos c4).symm.trans hf
            obtain ⟨x9005, hf, hx9005⟩ := map_of hf
            have e9005 := (Kr2 _ hx9005.symm).symm
            subst e9005
            refine lv_iload hx hb dX5_stepsBetween_77 (lv_at hl 4 rfl) ?_
            refine lv_istore (lv' := [(4, .int v6), (1, .ref (oa (13, j1))), (3, .int v3), (5, .int v5), (6, .int v6), (7, .int v7)]) hx hb dX5_stepsBetween_79 hl (by decide) rfl (fun ls hl => ?_)
            refine lv_iinc (v := (v5 + (1 : Int32))) (lv' := [(5, .int (v5 + (1 : Int32))), (4, .int v6), (1, .ref (oa (13, j1))), (3, .int v3), (6, .int v6), (7, .int v7)]) hx hb dX5_stepsBetween_81 hl (k := 3) rfl rfl (by decide) rfl (fun ls hl => ?_)
            refine lv_goto (tgt := 8) hx hb dX5_stepsBetween_84 (by decide) ?_
            obtain rfl := Option.some.inj hf
            exact Kl1 _ rfl _ _ _ hW (lv_sub hl [2, 3, 1, 0] rfl)
          · have hf := (if_neg c4).symm.trans hf
            refine lv_iload hx hb dX5_stepsBetween_46 (lv_at hl 2 rfl) ?_
            refine lv_iload hx hb dX5_stepsBetween_48 (lv_at hl 5 rfl) ?_
            refine lv_ishr hx hb dX5_stepsBetween_50 ?_
            refine lv_iconst (v := 1) hx hb dX5_stepsBetween_51 (by decide) ?_
            refine lv_iand hx hb dX5_stepsBetween_52 ?_
            refine lv_iconst (v := 1) hx hb dX5_stepsBetween_53 (by decide) ?_
            refine lv_icmp_ne (tgt := 71) hx hb dX5_stepsBetween_54 (by decide) (fun c6 => ?_) (fun c6 => ?_)
            · have hf := (if_neg c6).symm.trans hf
              refine lv_iinc (v := (v7 + (1 : Int32))) (lv' := [(7, .int (v7 + (1 : Int32))), (1, .ref (oa (13, j1))), (3, .int v3), (4, .int v4), (5, .int v5), (6, .int v6)]) hx hb dX5_stepsBetween_71 hl (k := 5) rfl rfl (by decide) rfl (fun ls hl => ?_)
              refine lv_goto (tgt := 37) hx hb dX5_stepsBetween_74 (by decide) ?_
              obtain rfl := Option.some.inj hf
              exact Kl2 _ rfl _ _ _ hW (lv_sub hl [1, 2, 3, 4, 5, 0] rfl)
            · have hf := (if_pos c6).symm.trans hf
              refine lv_iload hx hb dX5_stepsBetween_57 (lv_at hl 4 rfl) ?_
              refine lv_aload_n hx hb dX5_stepsBetween_59 rfl (lv_at hl 0 rfl) ?_
              refine gf_X5_126 C hW hj1 dX5_stepsBetween_60 ?_
              refine lv_iload hx hb dX5_stepsBetween_63 (lv_at hl 5 rfl) ?_
              obtain ⟨x65, h65, hf⟩ := bd_of hf
              refine r_callV (k := ((11, 15 + 5 * j1 + 1) : Ky)) C hW hl lk_X5_83 (c_X1_at hwf (cex_st hj1 (by decide)) h65) ⟨rfl, rfl⟩ ⟨Nat.le_of_ble_eq_true rfl, Nat.le_of_ble_eq_true rfl⟩ rfl (faB_11 (cex_st hj1 (by decide))) rfl (As := [.int v7]) (rest := [.int v6]) rfl rfl (Nat.le_of_ble_eq_true rfl) dX5_stepsBetween_65 ⟨Nat.zero_le _, Nat.zero_le _⟩ (fun H locs hW => ?_)
              show W p l e (rmq 1 21) s m args below meth c H locs 0 0 Q (F0 m 68 ls [.int x65, .int v6])
              refine lv_ior hx hb dX5_stepsBetween_68 ?_
              refine lv_istore (lv' := [(6, .int (v6 ||| x65)), (1, .ref (oa (13, j1))), (3, .int v3), (4, .int v4), (5, .int v5), (7, .int v7)]) hx hb dX5_stepsBetween_69 hl (by decide) rfl (fun ls hl => ?_)
              refine lv_iinc (v := (v7 + (1 : Int32))) (lv' := [(7, .int (v7 + (1 : Int32))), (6, .int (v6 ||| x65)), (1, .ref (oa (13, j1))), (3, .int v3), (4, .int v4), (5, .int v5)]) hx hb dX5_stepsBetween_71 hl (k := 5) rfl rfl (by decide) rfl (fun ls hl => ?_)
              refine lv_goto (tgt := 37) hx hb dX5_stepsBetween_74 (by decide) ?_
              obtain rfl := Option.some.inj hf
              exact Kl2 _ rfl _ _ _ hW (lv_sub hl [2, 3, 4, 5, 1, 0] rfl)
        exact L37 v4 v5 v4 (0 : Int32) _ _ _ hf hW (lv_sub hl [2, 3, 4, 5, 1, 0] rfl)
      · have hf := (if_pos c3).symm.trans hf
        obtain ⟨x9007, hf, hx9007⟩ := map_of hf
        have e9007 := (Kr1 _ hx9007.symm).symm
        subst e9007
        refine lv_iload hx hb dX5_stepsBetween_27 (lv_at hl 3 rfl) ?_
        obtain rfl := Option.some.inj hf
        rw [hQ]
        exact r_iret C hr hk hW rfl rfl dX5_stepsBetween_29
  exact L8 ((1 : Int32) <<< (v2 &&& 31)) (0 : Int32) _ _ _ hf hW (lv_sub hl [3, 5, 1, 0] rfl)
set_option maxHeartbeats 4000000 in
set_option maxRecDepth 100000 in
theorem c_X5_personAt {l : Launch} {D : va_G} {tc : Nat → ClassId} {ro : Ro} {oa : Ky → Nat} {aa : Nat → Nat} {sh : Sh} {ln : Nat → Nat} {μ : Mm} {v2 : Int32} {res : Int32} (hwf : WfS sh) (hf : f_X5_personAt sh ln μ v2 = some res) : Ct l D tc ro (faB oa aa sh) (feB tc oa aa sh ln) yX5_personAt cX5_personAt 3 (some .int) (rmq 2 42) [.ref (oa (5, 0)), .ref (oa (2, 0)), .int v2] μ (some (.int res)) μ := by
  refine Ct.of (by decide) (Nat.le_of_ble_eq_true rfl) (fun p e s m args below meth c A C hr hk hW ls hl => ?_)
  have hx := C.1.1
  have hb := C.1.2.1
  obtain ⟨Q, hQ⟩ : ∃ Q, Q = MQ below (Ctq D (faB oa aa sh) (feB tc oa aa sh ln) (some (.int res)) μ A) args s 0 0 A := ⟨_, rfl⟩
  rw [← hQ]
  have hl : lv_has ls 3 [(0, .ref (oa (5, 0))), (1, .ref (oa (2, 0))), (2, .int v2)] := hl
  unfold f_X5_personAt at hf
  refine lv_aload_n hx hb dX5_personAt_0 rfl (lv_at hl 1 rfl) ?_
  refine lv_iload_n hx hb dX5_personAt_1 rfl (lv_at hl 2 rfl) ?_
  obtain ⟨x2, h2, hf⟩ := bd_of hf
  refine r_callV (k := ((2, 0) : Ky)) C hW hl lk_X5_136 (c_X7_byteAt hwf h2) ⟨rfl, rfl⟩ ⟨Nat.le_of_ble_eq_true rfl, Nat.le_of_ble_eq_true rfl⟩ rfl rfl rfl (As := [.int v2]) (rest := []) rfl rfl (Nat.le_of_ble_eq_true rfl) dX5_personAt_2 ⟨Nat.zero_le _, Nat.zero_le _⟩ (fun H locs hW => ?_)
  show W p l e (rmq 2 42) s m args below meth c H locs 0 0 Q (F0 m 5 ls [.int x2])
  refine lv_bipush (v := 97) hx hb dX5_personAt_5 (by decide) ?_
  refine lv_isub hx hb dX5_personAt_7 ?_
  obtain rfl := Option.some.inj hf
  rw [hQ]
  exact r_iret C hr hk hW rfl rfl dX5_personAt_8
set_option maxHeartbeats 4000000 in
set_option maxRecDepth 100000 in
theorem c_X5_tellsPairs {l : Launch} {D : va_G} {tc : Nat → ClassId} {ro : Ro} {oa : Ky → Nat} {aa : Nat → Nat} {sh : Sh} {ln : Nat → Nat} {j1 : Nat} {μ : Mm} {v3 : Int32} {res : Int32} (hwf : WfS sh) (hj1 : sh 2 j1 = 1) (hf : f_X5_tellsPairs sh ln j1 μ v3 = some res) : Ct l D tc ro (faB oa aa sh) (feB tc oa aa sh ln) yX5_tellsPairs cX5_tellsPairs 7 (some .boolean) (rmq 3 64) [.ref (oa (5, 0)), .ref (oa (13, j1)), .ref (oa (2, 0)), .int v3] μ (some (.int res)) μ := by
  refine Ct.of (by decide) (Nat.le_of_ble_eq_true rfl) (fun p e s m args below meth c A C hr hk hW ls hl => ?_)
  have hx := C.1.1
  have hb := C.1.2.1
  obtain ⟨Q, hQ⟩ : ∃ Q, Q = MQ below (Ctq D (faB oa aa sh) (feB tc oa aa sh ln) (some (.int res)) μ A) args s 0 0 A := ⟨_, rfl⟩
  rw [← hQ]
  have hl : lv_has ls 7 [(0, .ref (oa (5, 0))), (1, .ref (oa (13, j1))), (2, .ref (oa (2, 0))), (3, .int v3)] := hl
  unfold f_X5_tellsPairs at hf
  refine lv_iconst (v := 0) hx hb dX5_tellsPairs_0 (by decide) ?_
  refine lv_istore (lv' := [(4, .int (0 : Int32)), (0, .ref (oa (5, 0))), (1, .ref (oa (13, j1))), (2, .ref (oa (2, 0))), (3, .int v3)]) hx hb dX5_tellsPairs_1 hl (by decide) rfl (fun ls hl => ?_)
  have L3 : ∀ (v4 : Int32) (H : Heap) (locs : List Loc) (ls : Array Slot), Wh (fun z : Int32 => f_X5_tellsPairs_L3 sh ln j1 v3 μ z) (v4) = some res → Wd D (faB oa aa sh) (feB tc oa aa sh ln) A s.heap μ H locs → lv_has ls 7 [(0, .ref (oa (5, 0))), (1, .ref (oa (13, j1))), (2, .ref (oa (2, 0))), (3, .int v3), (4, .int v4)] → W p l e (rmq 3 64) s m args below meth c H locs 0 0 Q (F0 m 3 ls []) := by
    intro v4 H locs ls hf hW hl
    refine Wh_rule hf (fun z : Int32 => ∀ (H : Heap) (locs : List Loc) (ls : Array Slot), Wd D (faB oa aa sh) (feB tc oa aa sh ln) A s.heap μ H locs → lv_has ls 7 [(0, .ref (oa (5, 0))), (1, .ref (oa (13, j1))), (2, .ref (oa (2, 0))), (3, .int v3), (4, .int z)] → W p l e (rmq 3 64) s m args below meth c H locs 0 0 Q (F0 m 3 ls [])) (fun z o1 hf Kl1 Kr1 => ?_) _ _ _ hW hl
    obtain ⟨v4, ez⟩ : ∃ q, q = z := ⟨_, rfl⟩
    subst ez
    intro H locs ls hW hl
    have hf : f_X5_tellsPairs_L3 sh ln j1 v3 μ v4 = some o1 := hf
    unfold f_X5_tellsPairs_L3 at hf
    have hW : Wd D (faB oa aa sh) (feB tc oa aa sh ln) A s.heap μ H locs := hW
    have hl : lv_has ls 7 [(0, .ref (oa (5, 0))), (1, .ref (oa (13, j1))), (2, .ref (oa (2, 0))), (3, .int v3), (4, .int v4)] := hl
    refine lv_iload hx hb dX5_tellsPairs_3 (lv_at hl 4 rfl) ?_
    refine lv_iconst (v := 2) hx hb dX5_tellsPairs_5 (by decide) ?_
    refine lv_iadd hx hb dX5_tellsPairs_6 ?_
    refine lv_iload_n hx hb dX5_tellsPairs_7 rfl (lv_at hl 3 rfl) ?_
    refine lv_icmp_ge (tgt := 76) hx hb dX5_tellsPairs_8 (by decide) (fun c1 => ?_) (fun c1 => ?_)
    · have hf := (if_pos c1).symm.trans hf
      obtain ⟨x9004, hf, hx9004⟩ := map_of hf
      have e9004 := (Kr1 _ hx9004.symm).symm
      subst e9004
      refine lv_iload_n hx hb dX5_tellsPairs_76 rfl (lv_at hl 3 rfl) ?_
      refine lv_iconst (v := 3) hx hb dX5_tellsPairs_77 (by decide) ?_
      refine lv_irem hx hb dX5_tellsPairs_78 (by decide) ?_
      refine lv_if_ne (tgt := 86) hx hb dX5_tellsPairs_79 (by decide) (fun c3 => ?_) (fun c3 => ?_)
      · have hf := (if_neg c3).symm.trans hf
        refine lv_iconst (v := 0) hx hb dX5_tellsPairs_86 (by decide) ?_
        obtain rfl := Option.some.inj hf
        rw [hQ]
        exact r_zret C hr hk hW (Or.inl rfl) rfl rfl dX5_tellsPairs_87
      · have hf := (if_pos c3).symm.trans hf
        refine lv_iconst (v := 1) hx hb dX5_tellsPairs_82 (by decide) ?_
        refine lv_goto (tgt := 87) hx hb dX5_tellsPairs_83 (by decide) ?_
        obtain rfl := Option.some.inj hf
        rw [hQ]
        exact r_zret C hr hk hW (Or.inr rfl) rfl rfl dX5_tellsPairs_87
    · have hf := (if_neg c1).symm.trans hf
      refine lv_aload_n hx hb dX5_tellsPairs_11 rfl (lv_at hl 0 rfl) ?_
      refine lv_aload_n hx hb dX5_tellsPairs_12 rfl (lv_at hl 2 rfl) ?_
      refine lv_iload hx hb dX5_tellsPairs_13 (lv_at hl 4 rfl) ?_
      obtain ⟨x15, h15, hf⟩ := bd_of hf
      refine r_callV (k := ((5, 0) : Ky)) C hW hl lk_X5_129 (c_X5_personAt hwf h15) ⟨rfl, rfl⟩ ⟨Nat.le_of_ble_eq_true rfl, Nat.le_of_ble_eq_true rfl⟩ rfl rfl rfl (As := [.ref (oa (2, 0)), .int v4]) (rest := []) rfl rfl (Nat.le_of_ble_eq_true rfl) dX5_tellsPairs_15 ⟨Nat.zero_le _, Nat.zero_le _⟩ (fun H locs hW => ?_)
      show W p l e (rmq 3 64) s m args below meth c H locs 0 0 Q (F0 m 18 ls [.int x15])
      refine lv_istore (lv' := [(5, .int x15), (0, .ref (oa (5, 0))), (1, .ref (oa (13, j1))), (2, .ref (oa (2, 0))), (3, .int v3), (4, .int v4)]) hx hb dX5_tellsPairs_18 hl (by decide) rfl (fun ls hl => ?_)
      refine lv_aload_n hx hb dX5_tellsPairs_20 rfl (lv_at hl 1 rfl) ?_
      refine lv_aload_n hx hb dX5_tellsPairs_21 rfl (lv_at hl 3 rfl) ?_
      refine lv_iload hx hb dX5_tellsPairs_22 (lv_at hl 5 rfl) ?_
      refine lv_iconst (v := 1) hx hb dX5_tellsPairs_24 (by decide) ?_
      refine lv_iadd hx hb dX5_tellsPairs_25 ?_
      obtain ⟨x26, h26, hf⟩ := bd_of hf
      refine r_callV (k := ((5, 0) : Ky)) C hW hl lk_X5_129 (c_X5_personAt hwf h26) ⟨rfl, rfl⟩ ⟨Nat.le_of_ble_eq_true rfl, Nat.le_of_ble_eq_true rfl⟩ rfl rfl rfl (As := [.ref (oa (2, 0)), .int (v4 + (1 : Int32))]) (rest := []) rfl rfl (Nat.le_of_ble_eq_true rfl) dX5_tellsPairs_26 ⟨Nat.zero_le _, Nat.zero_le _⟩ (fun H locs hW => ?_)
      show W p l e (rmq 3 64) s m args below meth c H locs 0 0 Q (F0 m 29 ls [.int x26])
      refine lv_istore (lv' := [(6, .int x26), (5, .int x15), (0, .ref (oa (5, 0))), (1, .ref (oa (13, j1))), (2, .ref (oa (2, 0))), (3, .int v3), (4, .int v4)]) hx hb dX5_tellsPairs_29 hl (by decide) rfl (fun ls hl => ?_)
      refine lv_aload_n hx hb dX5_tellsPairs_31 rfl (lv_at hl 3 rfl) ?_
      refine lv_iload hx hb dX5_tellsPairs_32 (lv_at hl 1 rfl) ?_
      obtain ⟨x34, h34, hf⟩ := bd_of hf
      refine r_callV (k := ((13, j1) : Ky)) C hW hl lk_X5_133 (c_X6_hasPerson hwf hj1 h34) ⟨rfl, rfl⟩ ⟨Nat.le_of_ble_eq_true rfl, Nat.le_of_ble_eq_true rfl⟩ rfl (faB_13 hj1) rfl (As := [.int x15]) (rest := []) rfl rfl (Nat.le_of_ble_eq_true rfl) dX5_tellsPairs_34 ⟨Nat.zero_le _, Nat.zero_le _⟩ (fun H locs hW => ?_)
      show W p l e (rmq 3 64) s m args below meth c H locs 0 0 Q (F0 m 37 ls [.int x34])
      refine lv_if_eq (tgt := 68) hx hb dX5_tellsPairs_37 (by decide) (fun c5 => ?_) (fun c5 => ?_)
      · have hf := (if_pos c5).symm.trans hf
        obtain ⟨x9006, hf, hx9006⟩ := map_of hf
        have e9006 := (Kr1 _ hx9006.symm).symm
        subst e9006
        refine lv_iconst (v := 0) hx hb dX5_tellsPairs_68 (by decide) ?_
        obtain rfl := Option.some.inj hf
        rw [hQ]
        exact r_zret C hr hk hW (Or.inl rfl) rfl rfl dX5_tellsPairs_69
      · have hf := (if_neg c5).symm.trans hf
        refine lv_aload_n hx hb dX5_tellsPairs_40 rfl (lv_at hl 3 rfl) ?_
        refine lv_iload hx hb dX5_tellsPairs_41 (lv_at hl 0 rfl) ?_
        obtain ⟨x43, h43, hf⟩ := bd_of hf
        refine r_callV (k := ((13, j1) : Ky)) C hW hl lk_X5_133 (c_X6_hasPerson hwf hj1 h43) ⟨rfl, rfl⟩ ⟨Nat.le_of_ble_eq_true rfl, Nat.le_of_ble_eq_true rfl⟩ rfl (faB_13 hj1) rfl (As := [.int x26]) (rest := []) rfl rfl (Nat.le_of_ble_eq_true rfl) dX5_tellsPairs_43 ⟨Nat.zero_le _, Nat.zero_le _⟩ (fun H locs hW => ?_)
        show W p l e (rmq 3 64) s m args below meth c H locs 0 0 Q (F0 m 46 ls [.int x43])
        refine lv_if_eq (tgt := 68) hx hb dX5_tellsPairs_46 (by decide) (fun c7 => ?_) (fun c7 => ?_)
        · have hf := (if_pos c7).symm.trans hf
          obtain ⟨x9008, hf, hx9008⟩ := map_of hf
          have e9008 := (Kr1 _ hx9008.symm).symm
          subst e9008
          refine lv_iconst (v := 0) hx hb dX5_tellsPairs_68 (by decide) ?_
          obtain rfl := Option.some.inj hf
          rw [hQ]
          exact r_zret C hr hk hW (Or.inl rfl) rfl rfl dX5_tellsPairs_69
        · have hf := (if_neg c7).symm.trans hf
          refine lv_iload hx hb dX5_tellsPairs_49 (lv_at hl 1 rfl) ?_
          refine lv_iload hx hb dX5_tellsPairs_51 (lv_at hl 0 rfl) ?_
          refine lv_icmp_eq (tgt := 68) hx hb dX5_tellsPairs_53 (by decide) (fun c9 => ?_) (fun c9 => ?_)
          · have hf := (if_pos c9).symm.trans hf
            obtain ⟨x9010, hf, hx9010⟩ := map_of hf
            have e9010 := (Kr1 _ hx9010.symm).symm
            subst e9010
            refine lv_iconst (v := 0) hx hb dX5_tellsPairs_68 (by decide) ?_
            obtain rfl := Option.some.inj hf
            rw [hQ]
            exact r_zret C hr hk hW (Or.inl rfl) rfl rfl dX5_tellsPairs_69
          · have hf := (if_neg c9).symm.trans hf
            refine lv_aload_n hx hb dX5_tellsPairs_56 rfl (lv_at hl 4 rfl) ?_
            refine lv_iload hx hb dX5_tellsPairs_57 (lv_at hl 6 rfl) ?_
            refine lv_iconst (v := 2) hx hb dX5_tellsPairs_59 (by decide) ?_
            refine lv_iadd hx hb dX5_tellsPairs_60 ?_
            obtain ⟨x61, h61, hf⟩ := bd_of hf
            refine r_callV (k := ((2, 0) : Ky)) C hW hl lk_X5_136 (c_X7_byteAt hwf h61) ⟨rfl, rfl⟩ ⟨Nat.le_of_ble_eq_true rfl, Nat.le_of_ble_eq_true rfl⟩ rfl rfl rfl (As := [.int (v4 + (2 : Int32))]) (rest := []) rfl rfl (Nat.le_of_ble_eq_true rfl) dX5_tellsPairs_61 ⟨Nat.zero_le _, Nat.zero_le _⟩ (fun H locs hW => ?_)
            show W p l e (rmq 3 64) s m args below meth c H locs 0 0 Q (F0 m 64 ls [.int x61])
            refine lv_iconst (v := 1) hx hb dX5_tellsPairs_64 (by decide) ?_
            refine lv_icmp_le (tgt := 70) hx hb dX5_tellsPairs_65 (by decide) (fun c11 => ?_) (fun c11 => ?_)
            · have hf := (if_pos c11).symm.trans hf
              refine lv_iinc (v := (v4 + (3 : Int32))) (lv' := [(4, .int (v4 + (3 : Int32))), (6, .int x26), (5, .int x15), (0, .ref (oa (5, 0))), (1, .ref (oa (13, j1))), (2, .ref (oa (2, 0))), (3, .int v3)]) hx hb dX5_tellsPairs_70 hl (k := 6) rfl rfl (by decide) rfl (fun ls hl => ?_)
              refine lv_goto (tgt := 3) hx hb dX5_tellsPairs_73 (by decide) ?_
              obtain rfl := Option.some.inj hf
              exact Kl1 _ rfl _ _ _ hW (lv_sub hl [3, 4, 5, 6, 0] rfl)
            · have hf := (if_neg c11).symm.trans hf
              obtain ⟨x9012, hf, hx9012⟩ := map_of hf
              have e9012 := (Kr1 _ hx9012.symm).symm
              subst e9012
              refine lv_iconst (v := 0) hx hb dX5_tellsPairs_68 (by decide) ?_
              obtain rfl := Option.some.inj hf
              rw [hQ]
              exact r_zret C hr hk hW (Or.inl rfl) rfl rfl dX5_tellsPairs_69
  exact L3 (0 : Int32) _ _ _ hf hW (lv_sub hl [1, 2, 3, 4, 0] rfl)
