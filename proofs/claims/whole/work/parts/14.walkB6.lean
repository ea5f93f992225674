set_option maxHeartbeats 4000000 in
set_option maxRecDepth 100000 in
theorem c_X10_liars {l : Launch} {D : va_G} {tc : Nat → ClassId} {ro : Ro} {oa : Ky → Nat} {aa : Nat → Nat} {sh : Sh} {μ : Mm} {v1 v2 : Int32} {res : Int32 × Mm} (hwf : WfS sh) (hf : f_X10_liars sh μ v1 v2 = some res) : Ct l D tc ro (faB oa aa sh) (feB tc oa aa sh) yX10_liars cX10_liars 4 (some .int) (rmq 5 119) [.ref (oa (0, 0)), .int v1, .int v2] μ (some (.int res.1)) res.2 := by
  refine Ct.of (by decide) (Nat.le_of_ble_eq_true rfl) (fun p e s m args below meth c A C hr hk hW ls hl => ?_)
  have hx := C.1.1
  have hb := C.1.2.1
  obtain ⟨Q, hQ⟩ : ∃ Q, Q = MQ below (Ctq D (faB oa aa sh) (feB tc oa aa sh) (some (.int res.1)) res.2 A) args s 0 0 A := ⟨_, rfl⟩
  rw [← hQ]
  have hl : lv_has ls 4 [(0, .ref (oa (0, 0))), (1, .int v1), (2, .int v2)] := hl
  unfold f_X10_liars at hf
  refine lv_aload_n hx hb dX10_liars_0 rfl (lv_at hl 0 rfl) ?_
  refine gf_X10_10 C hW dX10_liars_1 ?_
  obtain ⟨x4, h4, hf⟩ := bd_of hf
  refine r_callV (k := ((2, 0) : Ky)) C hW hl lk_X10_86 (c_X7_use hwf h4) ⟨rfl, rfl⟩ ⟨Nat.le_of_ble_eq_true rfl, Nat.le_of_ble_eq_true rfl⟩ rfl rfl rfl (As := []) (rest := []) rfl rfl (Nat.le_of_ble_eq_true rfl) dX10_liars_4 ⟨Nat.zero_le _, Nat.zero_le _⟩ (fun H locs hW => ?_)
  show W p l e (rmq 5 119) s m args below meth c H locs 0 0 Q (F0 m 7 ls [.int x4.1])
  refine lv_istore_n (lv' := [(3, .int x4.1), (0, .ref (oa (0, 0))), (1, .int v1), (2, .int v2)]) hx hb dX10_liars_7 rfl hl (by decide) rfl (fun ls hl => ?_)
  refine lv_aload_n hx hb dX10_liars_8 rfl (lv_at hl 1 rfl) ?_
  refine gf_X10_35 C hW dX10_liars_9 ?_
  refine lv_aload_n hx hb dX10_liars_12 rfl (lv_at hl 1 rfl) ?_
  refine gf_X10_60 C hW dX10_liars_13 ?_
  refine lv_aload_n hx hb dX10_liars_16 rfl (lv_at hl 1 rfl) ?_
  refine gf_X10_10 C hW dX10_liars_17 ?_
  refine lv_iload_n hx hb dX10_liars_20 rfl (lv_at hl 0 rfl) ?_
  obtain ⟨x21, h21, hf⟩ := bd_of hf
  refine r_callV (k := ((5, 0) : Ky)) C hW hl lk_X10_341 (c_X5_tellsSayings hwf hwf.2.1 h21) ⟨rfl, rfl⟩ ⟨Nat.le_of_ble_eq_true rfl, Nat.le_of_ble_eq_true rfl⟩ rfl rfl rfl (As := [.ref (oa (13, sh 4 0)), .ref (oa (2, 0)), .int x4.1]) (rest := []) rfl rfl (Nat.le_of_ble_eq_true rfl) dX10_liars_21 ⟨Nat.zero_le _, Nat.zero_le _⟩ (fun H locs hW => ?_)
  show W p l e (rmq 5 119) s m args below meth c H locs 0 0 Q (F0 m 24 ls [.int x21])
  refine lv_if_eq (tgt := 37) hx hb dX10_liars_24 (by decide) (fun c1 => ?_) (fun c1 => ?_)
  · have hf := (if_pos c1).symm.trans hf
    cases hf
  · have hf := (if_neg c1).symm.trans hf
    refine lv_iload_n hx hb dX10_liars_27 rfl (lv_at hl 2 rfl) ?_
    refine lv_if_lt (tgt := 37) hx hb dX10_liars_28 (by decide) (fun c2 => ?_) (fun c2 => ?_)
    · have hf := (if_pos c2).symm.trans hf
      cases hf
    · have hf := (if_neg c2).symm.trans hf
      refine lv_iload_n hx hb dX10_liars_31 rfl (lv_at hl 2 rfl) ?_
      refine lv_bipush (v := 9) hx hb dX10_liars_32 (by decide) ?_
      refine lv_icmp_le (tgt := 48) hx hb dX10_liars_34 (by decide) (fun c3 => ?_) (fun c3 => ?_)
      · have hf := (if_pos c3).symm.trans hf
        refine lv_aload_n hx hb dX10_liars_48 rfl (lv_at hl 1 rfl) ?_
        refine gf_X10_35 C hW dX10_liars_49 ?_
        refine lv_aload_n hx hb dX10_liars_52 rfl (lv_at hl 1 rfl) ?_
        refine gf_X10_60 C hW dX10_liars_53 ?_
        refine lv_aload_n hx hb dX10_liars_56 rfl (lv_at hl 1 rfl) ?_
        refine gf_X10_10 C hW dX10_liars_57 ?_
        refine lv_iload_n hx hb dX10_liars_60 rfl (lv_at hl 0 rfl) ?_
        refine lv_iload_n hx hb dX10_liars_61 rfl (lv_at hl 2 rfl) ?_
        refine lv_iload_n hx hb dX10_liars_62 rfl (lv_at hl 3 rfl) ?_
        obtain ⟨x63, h63, hf⟩ := bd_of hf
        refine r_callV (k := ((5, 0) : Ky)) C hW hl lk_X10_346 (c_X5_whoLied hwf hwf.2.1 h63) ⟨rfl, rfl⟩ ⟨Nat.le_of_ble_eq_true rfl, Nat.le_of_ble_eq_true rfl⟩ rfl rfl rfl (As := [.ref (oa (13, sh 4 0)), .ref (oa (2, 0)), .int x4.1, .int v1, .int v2]) (rest := []) rfl rfl (Nat.le_of_ble_eq_true rfl) dX10_liars_63 ⟨Nat.zero_le _, Nat.zero_le _⟩ (fun H locs hW => ?_)
        show W p l e (rmq 5 119) s m args below meth c H locs 0 0 Q (F0 m 66 ls [.int x63])
        obtain rfl := Option.some.inj hf
        rw [hQ]
        exact r_iret C hr hk hW rfl rfl dX10_liars_66
      · have hf := (if_neg c3).symm.trans hf
        cases hf
set_option maxHeartbeats 4000000 in
set_option maxRecDepth 100000 in
theorem c_X10_married {l : Launch} {D : va_G} {tc : Nat → ClassId} {ro : Ro} {oa : Ky → Nat} {aa : Nat → Nat} {sh : Sh} {μ : Mm} {v1 : Int32} {res : Int32 × Mm} (hwf : WfS sh) (hf : f_X10_married sh μ v1 = some res) : Ct l D tc ro (faB oa aa sh) (feB tc oa aa sh) yX10_married cX10_married 2 (some .int) (rmq 6 145) [.ref (oa (0, 0)), .int v1] μ (some (.int res.1)) res.2 := by
  refine Ct.of (by decide) (Nat.le_of_ble_eq_true rfl) (fun p e s m args below meth c A C hr hk hW ls hl => ?_)
  have hx := C.1.1
  have hb := C.1.2.1
  obtain ⟨Q, hQ⟩ : ∃ Q, Q = MQ below (Ctq D (faB oa aa sh) (feB tc oa aa sh) (some (.int res.1)) res.2 A) args s 0 0 A := ⟨_, rfl⟩
  rw [← hQ]
  have hl : lv_has ls 2 [(0, .ref (oa (0, 0))), (1, .int v1)] := hl
  unfold f_X10_married at hf
  refine lv_aload_n hx hb dX10_married_0 rfl (lv_at hl 0 rfl) ?_
  refine lv_iload_n hx hb dX10_married_1 rfl (lv_at hl 1 rfl) ?_
  obtain ⟨x2, h2, hf⟩ := bd_of hf
  refine r_callV (k := ((0, 0) : Ky)) C hW hl lk_X10_269 (c_X10_needPersonOrNone hwf h2) ⟨rfl, rfl⟩ ⟨Nat.le_of_ble_eq_true rfl, Nat.le_of_ble_eq_true rfl⟩ rfl rfl rfl (As := [.int v1]) (rest := []) rfl rfl (Nat.le_of_ble_eq_true rfl) dX10_married_2 ⟨Nat.zero_le _, Nat.zero_le _⟩ (fun H locs hW => ?_)
  show W p l e (rmq 6 145) s m args below meth c H locs 0 0 Q (F0 m 5 ls [])
  refine lv_aload_n hx hb dX10_married_5 rfl (lv_at hl 0 rfl) ?_
  refine gf_X10_35 C hW dX10_married_6 ?_
  refine lv_aload_n hx hb dX10_married_9 rfl (lv_at hl 0 rfl) ?_
  refine gf_X10_60 C hW dX10_married_10 ?_
  refine lv_iload_n hx hb dX10_married_13 rfl (lv_at hl 1 rfl) ?_
  obtain ⟨x14, h14, hf⟩ := bd_of hf
  refine r_callV (k := ((5, 0) : Ky)) C hW hl lk_X10_350 (c_X5_marry hwf hwf.2.1 h14) ⟨rfl, rfl⟩ ⟨Nat.le_of_ble_eq_true rfl, Nat.le_of_ble_eq_true rfl⟩ rfl rfl rfl (As := [.ref (oa (13, sh 4 0)), .int v1]) (rest := []) rfl rfl (Nat.le_of_ble_eq_true rfl) dX10_married_14 ⟨Nat.zero_le _, Nat.zero_le _⟩ (fun H locs hW => ?_)
  show W p l e (rmq 6 145) s m args below meth c H locs 0 0 Q (F0 m 17 ls [.int x14.1])
  obtain rfl := Option.some.inj hf
  rw [hQ]
  exact r_iret C hr hk hW rfl rfl dX10_married_17
set_option maxHeartbeats 4000000 in
set_option maxRecDepth 100000 in
theorem c_X10_led {l : Launch} {D : va_G} {tc : Nat → ClassId} {ro : Ro} {oa : Ky → Nat} {aa : Nat → Nat} {sh : Sh} {μ : Mm} {v1 : Int32} {res : Int32} (hwf : WfS sh) (hf : f_X10_led sh μ v1 = some res) : Ct l D tc ro (faB oa aa sh) (feB tc oa aa sh) yX10_led cX10_led 4 (some .int) (rmq 2 44) [.ref (oa (0, 0)), .int v1] μ (some (.int res)) μ := by
  refine Ct.of (by decide) (Nat.le_of_ble_eq_true rfl) (fun p e s m args below meth c A C hr hk hW ls hl => ?_)
  have hx := C.1.1
  have hb := C.1.2.1
  obtain ⟨Q, hQ⟩ : ∃ Q, Q = MQ below (Ctq D (faB oa aa sh) (feB tc oa aa sh) (some (.int res)) μ A) args s 0 0 A := ⟨_, rfl⟩
  rw [← hQ]
  have hl : lv_has ls 4 [(0, .ref (oa (0, 0))), (1, .int v1)] := hl
  unfold f_X10_led at hf
  refine lv_aload_n hx hb dX10_led_0 rfl (lv_at hl 0 rfl) ?_
  refine lv_iload_n hx hb dX10_led_1 rfl (lv_at hl 1 rfl) ?_
  obtain ⟨x2, h2, hf⟩ := bd_of hf
  refine r_callV (k := ((0, 0) : Ky)) C hW hl lk_X10_141 (c_X10_needPerson hwf h2) ⟨rfl, rfl⟩ ⟨Nat.le_of_ble_eq_true rfl, Nat.le_of_ble_eq_true rfl⟩ rfl rfl rfl (As := [.int v1]) (rest := []) rfl rfl (Nat.le_of_ble_eq_true rfl) dX10_led_2 ⟨Nat.zero_le _, Nat.zero_le _⟩ (fun H locs hW => ?_)
  show W p l e (rmq 2 44) s m args below meth c H locs 0 0 Q (F0 m 5 ls [])
  refine lv_iconst (v := -1) hx hb dX10_led_5 (by decide) ?_
  refine lv_istore_n (lv' := [(2, .int (-1 : Int32)), (0, .ref (oa (0, 0))), (1, .int v1)]) hx hb dX10_led_6 rfl hl (by decide) rfl (fun ls hl => ?_)
  refine lv_iconst (v := 0) hx hb dX10_led_7 (by decide) ?_
  refine lv_istore_n (lv' := [(3, .int (0 : Int32)), (2, .int (-1 : Int32)), (0, .ref (oa (0, 0))), (1, .int v1)]) hx hb dX10_led_8 rfl hl (by decide) rfl (fun ls hl => ?_)
  have L9 : ∀ (v2 v3 : Int32) (H : Heap) (locs : List Loc) (ls : Array Slot), Wh (fun z : Int32 × Int32 => f_X10_led_L9 sh v1 μ z.1 z.2) (v2, v3) = some res → Wd D (faB oa aa sh) (feB tc oa aa sh) A s.heap μ H locs → lv_has ls 4 [(0, .ref (oa (0, 0))), (1, .int v1), (2, .int v2), (3, .int v3)] → W p l e (rmq 2 44) s m args below meth c H locs 0 0 Q (F0 m 9 ls []) := by
    intro v2 v3 H locs ls hf hW hl
    refine Wh_rule hf (fun z : Int32 × Int32 => ∀ (H : Heap) (locs : List Loc) (ls : Array Slot), Wd D (faB oa aa sh) (feB tc oa aa sh) A s.heap μ H locs → lv_has ls 4 [(0, .ref (oa (0, 0))), (1, .int v1), (2, .int z.1), (3, .int z.2)] → W p l e (rmq 2 44) s m args below meth c H locs 0 0 Q (F0 m 9 ls [])) (fun z o1 hf Kl1 Kr1 => ?_) _ _ _ hW hl
    obtain ⟨v2, v3⟩ := z
    intro H locs ls hW hl
    have hf : f_X10_led_L9 sh v1 μ v2 v3 = some o1 := hf
    unfold f_X10_led_L9 at hf
    have hW : Wd D (faB oa aa sh) (feB tc oa aa sh) A s.heap μ H locs := hW
    have hl : lv_has ls 4 [(0, .ref (oa (0, 0))), (1, .int v1), (2, .int v2), (3, .int v3)] := hl
    refine lv_iload_n hx hb dX10_led_9 rfl (lv_at hl 3 rfl) ?_
    refine lv_aload_n hx hb dX10_led_10 rfl (lv_at hl 0 rfl) ?_
    refine gf_X10_60 C hW dX10_led_11 ?_
    refine gf_X10_353 C hW hwf.2.1 dX10_led_14 ?_
    refine lv_icmp_ge (tgt := 46) hx hb dX10_led_17 (by decide) (fun c1 => ?_) (fun c1 => ?_)
    · have hf := (if_pos c1).symm.trans hf
      obtain ⟨x9002, hf, hx9002⟩ := map_of hf
      have e9002 := (Kr1 _ hx9002.symm).symm
      subst e9002
      refine lv_iload_n hx hb dX10_led_46 rfl (lv_at hl 2 rfl) ?_
      obtain rfl := Option.some.inj hf
      rw [hQ]
      exact r_iret C hr hk hW rfl rfl dX10_led_47
    · have hf := (if_neg c1).symm.trans hf
      refine lv_aload_n hx hb dX10_led_20 rfl (lv_at hl 0 rfl) ?_
      refine gf_X10_60 C hW dX10_led_21 ?_
      refine lv_iload_n hx hb dX10_led_24 rfl (lv_at hl 3 rfl) ?_
      refine lv_iconst (v := 4) hx hb dX10_led_25 (by decide) ?_
      obtain ⟨x26, h26, hf⟩ := bd_of hf
      refine r_callV (k := ((13, sh 4 0) : Ky)) C hW hl lk_X10_356 (c_X6_noted hwf hwf.2.1 h26) ⟨rfl, rfl⟩ ⟨Nat.le_of_ble_eq_true rfl, Nat.le_of_ble_eq_true rfl⟩ rfl (faB_13 hwf.2.1) rfl (As := [.int v3, .int (4 : Int32)]) (rest := []) rfl rfl (Nat.le_of_ble_eq_true rfl) dX10_led_26 ⟨Nat.zero_le _, Nat.zero_le _⟩ (fun H locs hW => ?_)
      show W p l e (rmq 2 44) s m args below meth c H locs 0 0 Q (F0 m 29 ls [.int x26])
      refine lv_iload_n hx hb dX10_led_29 rfl (lv_at hl 1 rfl) ?_
      refine lv_ishr hx hb dX10_led_30 ?_
      refine lv_iconst (v := 1) hx hb dX10_led_31 (by decide) ?_
      refine lv_iand hx hb dX10_led_32 ?_
      refine lv_if_ne (tgt := 38) hx hb dX10_led_33 (by decide) (fun c3 => ?_) (fun c3 => ?_)
      · have hf := (if_neg c3).symm.trans hf
        refine lv_iload_n hx hb dX10_led_38 rfl (lv_at hl 3 rfl) ?_
        refine lv_istore_n (lv' := [(2, .int v3), (0, .ref (oa (0, 0))), (1, .int v1), (3, .int v3)]) hx hb dX10_led_39 rfl hl (by decide) rfl (fun ls hl => ?_)
        refine lv_iinc (v := (v3 + (1 : Int32))) (lv' := [(3, .int (v3 + (1 : Int32))), (2, .int v3), (0, .ref (oa (0, 0))), (1, .int v1)]) hx hb dX10_led_40 hl (k := 3) rfl rfl (by decide) rfl (fun ls hl => ?_)
        refine lv_goto (tgt := 9) hx hb dX10_led_43 (by decide) ?_
        obtain rfl := Option.some.inj hf
        exact Kl1 _ rfl _ _ _ hW (lv_sub hl [2, 3, 1, 0] rfl)
      · have hf := (if_pos c3).symm.trans hf
        obtain ⟨x9004, hf, hx9004⟩ := map_of hf
        have e9004 := (Kr1 _ hx9004.symm).symm
        subst e9004
        refine lv_iload_n hx hb dX10_led_36 rfl (lv_at hl 2 rfl) ?_
        obtain rfl := Option.some.inj hf
        rw [hQ]
        exact r_iret C hr hk hW rfl rfl dX10_led_37
  exact L9 (-1 : Int32) (0 : Int32) _ _ _ hf hW (lv_sub hl [2, 3, 1, 0] rfl)
set_option maxHeartbeats 4000000 in
set_option maxRecDepth 100000 in
theorem c_X10_widest {l : Launch} {D : va_G} {tc : Nat → ClassId} {ro : Ro} {oa : Ky → Nat} {aa : Nat → Nat} {sh : Sh} {μ : Mm} {res : Int32} (hwf : WfS sh) (hf : f_X10_widest sh μ = some res) : Ct l D tc ro (faB oa aa sh) (feB tc oa aa sh) yX10_widest cX10_widest 5 (some .int) (rmq 4 90) [.ref (oa (0, 0))] μ (some (.int res)) μ := by
  refine Ct.of (by decide) (Nat.le_of_ble_eq_true rfl) (fun p e s m args below meth c A C hr hk hW ls hl => ?_)
  have hx := C.1.1
  have hb := C.1.2.1
  obtain ⟨Q, hQ⟩ : ∃ Q, Q = MQ below (Ctq D (faB oa aa sh) (feB tc oa aa sh) (some (.int res)) μ A) args s 0 0 A := ⟨_, rfl⟩
  rw [← hQ]
  have hl : lv_has ls 5 [(0, .ref (oa (0, 0)))] := hl
  unfold f_X10_widest at hf
  refine lv_iconst (v := -1) hx hb dX10_widest_0 (by decide) ?_
  refine lv_istore_n (lv' := [(1, .int (-1 : Int32)), (0, .ref (oa (0, 0)))]) hx hb dX10_widest_1 rfl hl (by decide) rfl (fun ls hl => ?_)
  refine lv_iconst (v := 0) hx hb dX10_widest_2 (by decide) ?_
  refine lv_istore_n (lv' := [(2, .int (0 : Int32)), (1, .int (-1 : Int32)), (0, .ref (oa (0, 0)))]) hx hb dX10_widest_3 rfl hl (by decide) rfl (fun ls hl => ?_)
  refine lv_iconst (v := 0) hx hb dX10_widest_4 (by decide) ?_
  refine lv_istore_n (lv' := [(3, .int (0 : Int32)), (2, .int (0 : Int32)), (1, .int (-1 : Int32)), (0, .ref (oa (0, 0)))]) hx hb dX10_widest_5 rfl hl (by decide) rfl (fun ls hl => ?_)
  have L6 : ∀ (v1 v2 v3 : Int32) (H : Heap) (locs : List Loc) (ls : Array Slot), Wh (fun z : Int32 × Int32 × Int32 => f_X10_widest_L6 sh μ z.1 z.2.1 z.2.2) (v1, v2, v3) = some res → Wd D (faB oa aa sh) (feB tc oa aa sh) A s.heap μ H locs → lv_has ls 5 [(0, .ref (oa (0, 0))), (1, .int v1), (2, .int v2), (3, .int v3)] → W p l e (rmq 4 90) s m args below meth c H locs 0 0 Q (F0 m 6 ls []) := by
    intro v1 v2 v3 H locs ls hf hW hl
    refine Wh_rule hf (fun z : Int32 × Int32 × Int32 => ∀ (H : Heap) (locs : List Loc) (ls : Array Slot), Wd D (faB oa aa sh) (feB tc oa aa sh) A s.heap μ H locs → lv_has ls 5 [(0, .ref (oa (0, 0))), (1, .int z.1), (2, .int z.2.1), (3, .int z.2.2)] → W p l e (rmq 4 90) s m args below meth c H locs 0 0 Q (F0 m 6 ls [])) (fun z o1 hf Kl1 Kr1 => ?_) _ _ _ hW hl
    obtain ⟨v1, v2, v3⟩ := z
    intro H locs ls hW hl
    have hf : f_X10_widest_L6 sh μ v1 v2 v3 = some o1 := hf
    unfold f_X10_widest_L6 at hf
    have hW : Wd D (faB oa aa sh) (feB tc oa aa sh) A s.heap μ H locs := hW
    have hl : lv_has ls 5 [(0, .ref (oa (0, 0))), (1, .int v1), (2, .int v2), (3, .int v3)] := hl
    refine lv_iload_n hx hb dX10_widest_6 rfl (lv_at hl 3 rfl) ?_
    refine lv_aload_n hx hb dX10_widest_7 rfl (lv_at hl 0 rfl) ?_
    refine gf_X10_60 C hW dX10_widest_8 ?_
    refine gf_X10_293 C hW hwf.2.1 dX10_widest_11 ?_
    refine lv_icmp_ge (tgt := 48) hx hb dX10_widest_14 (by decide) (fun c1 => ?_) (fun c1 => ?_)
    · have hf := (if_pos c1).symm.trans hf
      obtain ⟨x9002, hf, hx9002⟩ := map_of hf
      have e9002 := (Kr1 _ hx9002.symm).symm
      subst e9002
      refine lv_iload_n hx hb dX10_widest_48 rfl (lv_at hl 1 rfl) ?_
      obtain rfl := Option.some.inj hf
      rw [hQ]
      exact r_iret C hr hk hW rfl rfl dX10_widest_49
    · have hf := (if_neg c1).symm.trans hf
      refine lv_aload_n hx hb dX10_widest_17 rfl (lv_at hl 0 rfl) ?_
      refine gf_X10_19 C hW dX10_widest_18 ?_
      refine lv_aload_n hx hb dX10_widest_21 rfl (lv_at hl 0 rfl) ?_
      refine gf_X10_60 C hW dX10_widest_22 ?_
      refine lv_iload_n hx hb dX10_widest_25 rfl (lv_at hl 3 rfl) ?_
      obtain ⟨x26, h26, hf⟩ := bd_of hf
      refine r_callV (k := ((3, 0) : Ky)) C hW hl lk_X10_170 (c_X4_holds hwf hwf.2.1 h26) ⟨rfl, rfl⟩ ⟨Nat.le_of_ble_eq_true rfl, Nat.le_of_ble_eq_true rfl⟩ rfl rfl rfl (As := [.ref (oa (13, sh 4 0)), .int v3]) (rest := []) rfl rfl (Nat.le_of_ble_eq_true rfl) dX10_widest_26 ⟨Nat.zero_le _, Nat.zero_le _⟩ (fun H locs hW => ?_)
      show W p l e (rmq 4 90) s m args below meth c H locs 0 0 Q (F0 m 29 ls [.int x26])
      refine lv_istore (lv' := [(4, .int x26), (0, .ref (oa (0, 0))), (1, .int v1), (2, .int v2), (3, .int v3)]) hx hb dX10_widest_29 hl (by decide) rfl (fun ls hl => ?_)
      refine lv_iload hx hb dX10_widest_31 (lv_at hl 0 rfl) ?_
      refine lv_iload_n hx hb dX10_widest_33 rfl (lv_at hl 3 rfl) ?_
      refine lv_icmp_le (tgt := 42) hx hb dX10_widest_34 (by decide) (fun c3 => ?_) (fun c3 => ?_)
      · have hf := (if_pos c3).symm.trans hf
        refine lv_iinc (v := (v3 + (1 : Int32))) (lv' := [(3, .int (v3 + (1 : Int32))), (4, .int x26), (0, .ref (oa (0, 0))), (1, .int v1), (2, .int v2)]) hx hb dX10_widest_42 hl (k := 4) rfl rfl (by decide) rfl (fun ls hl => ?_)
        refine lv_goto (tgt := 6) hx hb dX10_widest_45 (by decide) ?_
        obtain rfl := Option.some.inj hf
        exact Kl1 _ rfl _ _ _ hW (lv_sub hl [2, 3, 4, 0] rfl)
      · have hf := (if_neg c3).symm.trans hf
        refine lv_iload hx hb dX10_widest_37 (lv_at hl 0 rfl) ?_
        refine lv_istore_n (lv' := [(2, .int x26), (4, .int x26), (0, .ref (oa (0, 0))), (1, .int v1), (3, .int v3)]) hx hb dX10_widest_39 rfl hl (by decide) rfl (fun ls hl => ?_)
        refine lv_iload_n hx hb dX10_widest_40 rfl (lv_at hl 4 rfl) ?_
        refine lv_istore_n (lv' := [(1, .int v3), (2, .int x26), (4, .int x26), (0, .ref (oa (0, 0))), (3, .int v3)]) hx hb dX10_widest_41 rfl hl (by decide) rfl (fun ls hl => ?_)
        refine lv_iinc (v := (v3 + (1 : Int32))) (lv' := [(3, .int (v3 + (1 : Int32))), (1, .int v3), (2, .int x26), (4, .int x26), (0, .ref (oa (0, 0)))]) hx hb dX10_widest_42 hl (k := 4) rfl rfl (by decide) rfl (fun ls hl => ?_)
        refine lv_goto (tgt := 6) hx hb dX10_widest_45 (by decide) ?_
        obtain rfl := Option.some.inj hf
        exact Kl1 _ rfl _ _ _ hW (lv_sub hl [4, 1, 2, 0] rfl)
  exact L6 (-1 : Int32) (0 : Int32) (0 : Int32) _ _ _ hf hW (lv_sub hl [3, 2, 1, 0] rfl)
set_option maxHeartbeats 4000000 in
set_option maxRecDepth 100000 in
theorem c_X10_under {l : Launch} {D : va_G} {tc : Nat → ClassId} {ro : Ro} {oa : Ky → Nat} {aa : Nat → Nat} {sh : Sh} {μ : Mm} {res : Int32} (hwf : WfS sh) (hf : f_X10_under sh μ = some res) : Ct l D tc ro (faB oa aa sh) (feB tc oa aa sh) yX10_under cX10_under 5 (some .int) (rmq 4 96) [.ref (oa (0, 0))] μ (some (.int res)) μ := by
  refine Ct.of (by decide) (Nat.le_of_ble_eq_true rfl) (fun p e s m args below meth c A C hr hk hW ls hl => ?_)
  have hx := C.1.1
  have hb := C.1.2.1
  obtain ⟨Q, hQ⟩ : ∃ Q, Q = MQ below (Ctq D (faB oa aa sh) (feB tc oa aa sh) (some (.int res)) μ A) args s 0 0 A := ⟨_, rfl⟩
  rw [← hQ]
  have hl : lv_has ls 5 [(0, .ref (oa (0, 0)))] := hl
  unfold f_X10_under at hf
  refine lv_iconst (v := -1) hx hb dX10_under_0 (by decide) ?_
  refine lv_istore_n (lv' := [(1, .int (-1 : Int32)), (0, .ref (oa (0, 0)))]) hx hb dX10_under_1 rfl hl (by decide) rfl (fun ls hl => ?_)
  refine lv_iconst (v := 0) hx hb dX10_under_2 (by decide) ?_
  refine lv_istore_n (lv' := [(2, .int (0 : Int32)), (1, .int (-1 : Int32)), (0, .ref (oa (0, 0)))]) hx hb dX10_under_3 rfl hl (by decide) rfl (fun ls hl => ?_)
  refine lv_iconst (v := 0) hx hb dX10_under_4 (by decide) ?_
  refine lv_istore_n (lv' := [(3, .int (0 : Int32)), (2, .int (0 : Int32)), (1, .int (-1 : Int32)), (0, .ref (oa (0, 0)))]) hx hb dX10_under_5 rfl hl (by decide) rfl (fun ls hl => ?_)
  have L6 : ∀ (v1 v2 v3 : Int32) (H : Heap) (locs : List Loc) (ls : Array Slot), Wh (fun z : Int32 × Int32 × Int32 => f_X10_under_L6 sh μ z.1 z.2.1 z.2.2) (v1, v2, v3) = some res → Wd D (faB oa aa sh) (feB tc oa aa sh) A s.heap μ H locs → lv_has ls 5 [(0, .ref (oa (0, 0))), (1, .int v1), (2, .int v2), (3, .int v3)] → W p l e (rmq 4 96) s m args below meth c H locs 0 0 Q (F0 m 6 ls []) := by
    intro v1 v2 v3 H locs ls hf hW hl
    refine Wh_rule hf (fun z : Int32 × Int32 × Int32 => ∀ (H : Heap) (locs : List Loc) (ls : Array Slot), Wd D (faB oa aa sh) (feB tc oa aa sh) A s.heap μ H locs → lv_has ls 5 [(0, .ref (oa (0, 0))), (1, .int z.1), (2, .int z.2.1), (3, .int z.2.2)] → W p l e (rmq 4 96) s m args below meth c H locs 0 0 Q (F0 m 6 ls [])) (fun z o1 hf Kl1 Kr1 => ?_) _ _ _ hW hl
    obtain ⟨v1, v2, v3⟩ := z
    intro H locs ls hW hl
    have hf : f_X10_under_L6 sh μ v1 v2 v3 = some o1 := hf
    unfold f_X10_under_L6 at hf
    have hW : Wd D (faB oa aa sh) (feB tc oa aa sh) A s.heap μ H locs := hW
    have hl : lv_has ls 5 [(0, .ref (oa (0, 0))), (1, .int v1), (2, .int v2), (3, .int v3)] := hl
    refine lv_iload_n hx hb dX10_under_6 rfl (lv_at hl 3 rfl) ?_
    refine lv_aload_n hx hb dX10_under_7 rfl (lv_at hl 0 rfl) ?_
    refine gf_X10_60 C hW dX10_under_8 ?_
    refine gf_X10_293 C hW hwf.2.1 dX10_under_11 ?_
    refine lv_icmp_ge (tgt := 53) hx hb dX10_under_14 (by decide) (fun c1 => ?_) (fun c1 => ?_)
    · have hf := (if_pos c1).symm.trans hf
      obtain ⟨x9002, hf, hx9002⟩ := map_of hf
      have e9002 := (Kr1 _ hx9002.symm).symm
      subst e9002
      refine lv_iload_n hx hb dX10_under_53 rfl (lv_at hl 1 rfl) ?_
      obtain rfl := Option.some.inj hf
      rw [hQ]
      exact r_iret C hr hk hW rfl rfl dX10_under_54
    · have hf := (if_neg c1).symm.trans hf
      refine lv_aload_n hx hb dX10_under_17 rfl (lv_at hl 0 rfl) ?_
      refine gf_X10_19 C hW dX10_under_18 ?_
      refine lv_aload_n hx hb dX10_under_21 rfl (lv_at hl 0 rfl) ?_
      refine gf_X10_60 C hW dX10_under_22 ?_
      refine lv_iload_n hx hb dX10_under_25 rfl (lv_at hl 3 rfl) ?_
      obtain ⟨x26, h26, hf⟩ := bd_of hf
      refine r_callV (k := ((3, 0) : Ky)) C hW hl lk_X10_359 (c_X4_manyPossible hwf hwf.2.1 h26) ⟨rfl, rfl⟩ ⟨Nat.le_of_ble_eq_true rfl, Nat.le_of_ble_eq_true rfl⟩ rfl rfl rfl (As := [.ref (oa (13, sh 4 0)), .int v3]) (rest := []) rfl rfl (Nat.le_of_ble_eq_true rfl) dX10_under_26 ⟨Nat.zero_le _, Nat.zero_le _⟩ (fun H locs hW => ?_)
      show W p l e (rmq 4 96) s m args below meth c H locs 0 0 Q (F0 m 29 ls [.int x26])
      refine lv_istore (lv' := [(4, .int x26), (0, .ref (oa (0, 0))), (1, .int v1), (2, .int v2), (3, .int v3)]) hx hb dX10_under_29 hl (by decide) rfl (fun ls hl => ?_)
      refine lv_iload_n hx hb dX10_under_31 rfl (lv_at hl 2 rfl) ?_
      refine lv_iconst (v := -1) hx hb dX10_under_32 (by decide) ?_
      refine lv_icmp_eq (tgt := 42) hx hb dX10_under_33 (by decide) (fun c3 => ?_) (fun c3 => ?_)
      · have hf := (if_pos c3).symm.trans hf
        refine lv_iload hx hb dX10_under_42 (lv_at hl 0 rfl) ?_
        refine lv_istore_n (lv' := [(2, .int x26), (4, .int x26), (0, .ref (oa (0, 0))), (1, .int v1), (3, .int v3)]) hx hb dX10_under_44 rfl hl (by decide) rfl (fun ls hl => ?_)
        refine lv_iload_n hx hb dX10_under_45 rfl (lv_at hl 4 rfl) ?_
        refine lv_istore_n (lv' := [(1, .int v3), (2, .int x26), (4, .int x26), (0, .ref (oa (0, 0))), (3, .int v3)]) hx hb dX10_under_46 rfl hl (by decide) rfl (fun ls hl => ?_)
        refine lv_iinc (v := (v3 + (1 : Int32))) (lv' := [(3, .int (v3 + (1 : Int32))), (1, .int v3), (2, .int x26), (4, .int x26), (0, .ref (oa (0, 0)))]) hx hb dX10_under_47 hl (k := 4) rfl rfl (by decide) rfl (fun ls hl => ?_)
        refine lv_goto (tgt := 6) hx hb dX10_under_50 (by decide) ?_
        obtain rfl := Option.some.inj hf
        exact Kl1 _ rfl _ _ _ hW (lv_sub hl [4, 1, 2, 0] rfl)
      · have hf := (if_neg c3).symm.trans hf
        refine lv_iload hx hb dX10_under_36 (lv_at hl 0 rfl) ?_
        refine lv_iload_n hx hb dX10_under_38 rfl (lv_at hl 3 rfl) ?_
        refine lv_icmp_ge (tgt := 47) hx hb dX10_under_39 (by decide) (fun c4 => ?_) (fun c4 => ?_)
        · have hf := (if_pos c4).symm.trans hf
          refine lv_iinc (v := (v3 + (1 : Int32))) (lv' := [(3, .int (v3 + (1 : Int32))), (4, .int x26), (0, .ref (oa (0, 0))), (1, .int v1), (2, .int v2)]) hx hb dX10_under_47 hl (k := 4) rfl rfl (by decide) rfl (fun ls hl => ?_)
          refine lv_goto (tgt := 6) hx hb dX10_under_50 (by decide) ?_
          obtain rfl := Option.some.inj hf
          exact Kl1 _ rfl _ _ _ hW (lv_sub hl [2, 3, 4, 0] rfl)
        · have hf := (if_neg c4).symm.trans hf
          refine lv_iload hx hb dX10_under_42 (lv_at hl 0 rfl) ?_
          refine lv_istore_n (lv' := [(2, .int x26), (4, .int x26), (0, .ref (oa (0, 0))), (1, .int v1), (3, .int v3)]) hx hb dX10_under_44 rfl hl (by decide) rfl (fun ls hl => ?_)
          refine lv_iload_n hx hb dX10_under_45 rfl (lv_at hl 4 rfl) ?_
          refine lv_istore_n (lv' := [(1, .int v3), (2, .int x26), (4, .int x26), (0, .ref (oa (0, 0))), (3, .int v3)]) hx hb dX10_under_46 rfl hl (by decide) rfl (fun ls hl => ?_)
          refine lv_iinc (v := (v3 + (1 : Int32))) (lv' := [(3, .int (v3 + (1 : Int32))), (1, .int v3), (2, .int x26), (4, .int x26), (0, .ref (oa (0, 0)))]) hx hb dX10_under_47 hl (k := 4) rfl rfl (by decide) rfl (fun ls hl => ?_)
          refine lv_goto (tgt := 6) hx hb dX10_under_50 (by decide) ?_
          obtain rfl := Option.some.inj hf
          exact Kl1 _ rfl _ _ _ hW (lv_sub hl [4, 1, 2, 0] rfl)
  exact L6 (-1 : Int32) (0 : Int32) (0 : Int32) _ _ _ hf hW (lv_sub hl [3, 2, 1, 0] rfl)
set_option maxHeartbeats 4000000 in
set_option maxRecDepth 100000 in
theorem c_X10_log {l : Launch} {D : va_G} {tc : Nat → ClassId} {ro : Ro} {oa : Ky → Nat} {aa : Nat → Nat} {sh : Sh} {μ : Mm} {v1 v2 : Int32} {res : Int32} (hwf : WfS sh) (hf : f_X10_log sh μ v1 v2 = some res) : Ct l D tc ro (faB oa aa sh) (feB tc oa aa sh) yX10_log cX10_log 3 (some .int) (rmq 2 44) [.ref (oa (0, 0)), .int v1, .int v2] μ (some (.int res)) μ := by
  refine Ct.of (by decide) (Nat.le_of_ble_eq_true rfl) (fun p e s m args below meth c A C hr hk hW ls hl => ?_)
  have hx := C.1.1
  have hb := C.1.2.1
  obtain ⟨Q, hQ⟩ : ∃ Q, Q = MQ below (Ctq D (faB oa aa sh) (feB tc oa aa sh) (some (.int res)) μ A) args s 0 0 A := ⟨_, rfl⟩
  rw [← hQ]
  have hl : lv_has ls 3 [(0, .ref (oa (0, 0))), (1, .int v1), (2, .int v2)] := hl
  unfold f_X10_log at hf
  refine lv_iload_n hx hb dX10_log_0 rfl (lv_at hl 2 rfl) ?_
  refine lv_if_lt (tgt := 9) hx hb dX10_log_1 (by decide) (fun c1 => ?_) (fun c1 => ?_)
  · have hf := (if_pos c1).symm.trans hf
    cases hf
  · have hf := (if_neg c1).symm.trans hf
    refine lv_iload_n hx hb dX10_log_4 rfl (lv_at hl 2 rfl) ?_
    refine lv_iconst (v := 5) hx hb dX10_log_5 (by decide) ?_
    refine lv_icmp_lt (tgt := 20) hx hb dX10_log_6 (by decide) (fun c2 => ?_) (fun c2 => ?_)
    · have hf := (if_pos c2).symm.trans hf
      refine lv_aload_n hx hb dX10_log_20 rfl (lv_at hl 0 rfl) ?_
      refine gf_X10_60 C hW dX10_log_21 ?_
      refine lv_iload_n hx hb dX10_log_24 rfl (lv_at hl 1 rfl) ?_
      refine lv_iload_n hx hb dX10_log_25 rfl (lv_at hl 2 rfl) ?_
      obtain ⟨x26, h26, hf⟩ := bd_of hf
      refine r_callV (k := ((13, sh 4 0) : Ky)) C hW hl lk_X10_356 (c_X6_noted hwf hwf.2.1 h26) ⟨rfl, rfl⟩ ⟨Nat.le_of_ble_eq_true rfl, Nat.le_of_ble_eq_true rfl⟩ rfl (faB_13 hwf.2.1) rfl (As := [.int v1, .int v2]) (rest := []) rfl rfl (Nat.le_of_ble_eq_true rfl) dX10_log_26 ⟨Nat.zero_le _, Nat.zero_le _⟩ (fun H locs hW => ?_)
      show W p l e (rmq 2 44) s m args below meth c H locs 0 0 Q (F0 m 29 ls [.int x26])
      obtain rfl := Option.some.inj hf
      rw [hQ]
      exact r_iret C hr hk hW rfl rfl dX10_log_29
    · have hf := (if_neg c2).symm.trans hf
      cases hf
set_option maxHeartbeats 4000000 in
set_option maxRecDepth 100000 in
theorem c_X10_seed {l : Launch} {D : va_G} {tc : Nat → ClassId} {ro : Ro} {oa : Ky → Nat} {aa : Nat → Nat} {sh : Sh} {μ : Mm} {v1 : Int32} {res : Int32 × Mm} (hwf : WfS sh) (hf : f_X10_seed sh μ v1 = some res) : Ct l D tc ro (faB oa aa sh) (feB tc oa aa sh) yX10_seed cX10_seed 3 (some .int) (rmq 0 0) [.ref (oa (0, 0)), .int v1] μ (some (.int res.1)) res.2 := by
  refine Ct.of (by decide) (Nat.le_of_ble_eq_true rfl) (fun p e s m args below meth c A C hr hk hW ls hl => ?_)
  have hx := C.1.1
  have hb := C.1.2.1
  obtain ⟨Q, hQ⟩ : ∃ Q, Q = MQ below (Ctq D (faB oa aa sh) (feB tc oa aa sh) (some (.int res.1)) res.2 A) args s 0 0 A := ⟨_, rfl⟩
  rw [← hQ]
  have hl : lv_has ls 3 [(0, .ref (oa (0, 0))), (1, .int v1)] := hl
  unfold f_X10_seed at hf
  refine lv_aload_n hx hb dX10_seed_0 rfl (lv_at hl 0 rfl) ?_
  refine gf_X10_60 C hW dX10_seed_1 ?_
  refine gf_X10_303 C hW hwf.2.1 dX10_seed_4 ?_
  refine lv_istore_n (lv' := [(2, .int (μ (13, sh 4 0) 5)), (0, .ref (oa (0, 0))), (1, .int v1)]) hx hb dX10_seed_7 rfl hl (by decide) rfl (fun ls hl => ?_)
  refine lv_aload_n hx hb dX10_seed_8 rfl (lv_at hl 1 rfl) ?_
  refine gf_X10_60 C hW dX10_seed_9 ?_
  refine lv_iload_n hx hb dX10_seed_12 rfl (lv_at hl 2 rfl) ?_
  refine pf_X10_303 C hW hwf.2.1 dX10_seed_13 (fun H locs hW => ?_)
  refine lv_iload_n hx hb dX10_seed_16 rfl (lv_at hl 0 rfl) ?_
  obtain rfl := Option.some.inj hf
  rw [hQ]
  exact r_iret C hr hk hW rfl rfl dX10_seed_17
set_option maxHeartbeats 4000000 in
set_option maxRecDepth 100000 in
theorem c_X10_count {l : Launch} {D : va_G} {tc : Nat → ClassId} {ro : Ro} {oa : Ky → Nat} {aa : Nat → Nat} {sh : Sh} {μ : Mm} {v1 : Int32} {res : Int32} (hwf : WfS sh) (hf : f_X10_count sh μ v1 = some res) : Ct l D tc ro (faB oa aa sh) (feB tc oa aa sh) yX10_count cX10_count 2 (some .int) (rmq 4 96) [.ref (oa (0, 0)), .int v1] μ (some (.int res)) μ := by
  refine Ct.of (by decide) (Nat.le_of_ble_eq_true rfl) (fun p e s m args below meth c A C hr hk hW ls hl => ?_)
  have hx := C.1.1
  have hb := C.1.2.1
  obtain ⟨Q, hQ⟩ : ∃ Q, Q = MQ below (Ctq D (faB oa aa sh) (feB tc oa aa sh) (some (.int res)) μ A) args s 0 0 A := ⟨_, rfl⟩
  rw [← hQ]
  have hl : lv_has ls 2 [(0, .ref (oa (0, 0))), (1, .int v1)] := hl
  unfold f_X10_count at hf
  refine lv_iload_n hx hb dX10_count_0 rfl (lv_at hl 1 rfl) ?_
  by_cases c2 : v1 = (0 : Int32)
  · have hf := (if_pos c2).symm.trans hf
    refine lv_tableIn (off := 59) (tgt := 60) hx hb dX10_count_1 (by rw [c2]; decide) (by rw [c2]; decide) (by rw [c2]; rfl) (by decide) ?_
    refine lv_aload_n hx hb dX10_count_60 rfl (lv_at hl 0 rfl) ?_
    refine gf_X10_60 C hW dX10_count_61 ?_
    refine gf_X10_293 C hW hwf.2.1 dX10_count_64 ?_
    obtain rfl := Option.some.inj hf
    rw [hQ]
    exact r_iret C hr hk hW rfl rfl dX10_count_67
  · have hf := (if_neg c2).symm.trans hf
    have n2 := lv_neT c2 (a := 0) (by decide)
    by_cases c3 : v1 = (1 : Int32)
    · have hf := (if_pos c3).symm.trans hf
      refine lv_tableIn (off := 67) (tgt := 68) hx hb dX10_count_1 (by rw [c3]; decide) (by rw [c3]; decide) (by rw [c3]; rfl) (by decide) ?_
      refine lv_aload_n hx hb dX10_count_68 rfl (lv_at hl 0 rfl) ?_
      refine gf_X10_60 C hW dX10_count_69 ?_
      refine gf_X10_381 C hW hwf.2.1 dX10_count_72 ?_
      obtain rfl := Option.some.inj hf
      rw [hQ]
      exact r_iret C hr hk hW rfl rfl dX10_count_75
    · have hf := (if_neg c3).symm.trans hf
      have n3 := lv_neT c3 (a := 1) (by decide)
      by_cases c4 : v1 = (2 : Int32)
      · have hf := (if_pos c4).symm.trans hf
        refine lv_tableIn (off := 75) (tgt := 76) hx hb dX10_count_1 (by rw [c4]; decide) (by rw [c4]; decide) (by rw [c4]; rfl) (by decide) ?_
        refine lv_aload_n hx hb dX10_count_76 rfl (lv_at hl 0 rfl) ?_
        refine gf_X10_60 C hW dX10_count_77 ?_
        refine gf_X10_114 C hW hwf.2.1 dX10_count_80 ?_
        obtain rfl := Option.some.inj hf
        rw [hQ]
        exact r_iret C hr hk hW rfl rfl dX10_count_83
      · have hf := (if_neg c4).symm.trans hf
        have n4 := lv_neT c4 (a := 2) (by decide)
        by_cases c5 : v1 = (3 : Int32)
        · have hf := (if_pos c5).symm.trans hf
          refine lv_tableIn (off := 83) (tgt := 84) hx hb dX10_count_1 (by rw [c5]; decide) (by rw [c5]; decide) (by rw [c5]; rfl) (by decide) ?_
          refine lv_aload_n hx hb dX10_count_84 rfl (lv_at hl 0 rfl) ?_
          refine gf_X10_60 C hW dX10_count_85 ?_
          by_cases q6 : sh 3 (sh 4 0) = 0
          · have hf := (if_pos q6).symm.trans hf
            refine gn_X10_137 C hW hwf.2.1 q6 dX10_count_88 ?_
            refine lv_ifnonnullN hx hb dX10_count_91 ?_
            refine lv_iconst (v := -1) hx hb dX10_count_94 (by decide) ?_
            refine lv_goto (tgt := 108) hx hb dX10_count_95 (by decide) ?_
            obtain rfl := Option.some.inj hf
            rw [hQ]
            exact r_iret C hr hk hW rfl rfl dX10_count_108
          · have hf := (if_neg q6).symm.trans hf
            refine gf_X10_137 C hW hwf.2.1 q6 dX10_count_88 ?_
            refine lv_ifnonnull (tgt := 98) hx hb dX10_count_91 (by decide) ?_
            refine lv_aload_n hx hb dX10_count_98 rfl (lv_at hl 0 rfl) ?_
            refine gf_X10_60 C hW dX10_count_99 ?_
            by_cases q7 : sh 3 (sh 4 0) = 0
            · have hf := (if_pos q7).symm.trans hf
              refine gn_X10_137 C hW hwf.2.1 q7 dX10_count_102 ?_
              cases hf
            · have hf := (if_neg q7).symm.trans hf
              refine gf_X10_137 C hW hwf.2.1 q7 dX10_count_102 ?_
              obtain ⟨x105, h105, hf⟩ := bd_of hf
              refine r_callV (k := ((14, sh 3 (sh 4 0) - 1) : Ky)) C hW hl lk_X10_384 (c_X2_lines hwf (rule_lt hwf q7) h105) ⟨rfl, rfl⟩ ⟨Nat.le_of_ble_eq_true rfl, Nat.le_of_ble_eq_true rfl⟩ rfl (faB_14 (rule_lt hwf q7)) rfl (As := []) (rest := []) rfl rfl (Nat.le_of_ble_eq_true rfl) dX10_count_105 ⟨Nat.zero_le _, Nat.zero_le _⟩ (fun H locs hW => ?_)
              show W p l e (rmq 4 96) s m args below meth c H locs 0 0 Q (F0 m 108 ls [.int x105])
              obtain rfl := Option.some.inj hf
              rw [hQ]
              exact r_iret C hr hk hW rfl rfl dX10_count_108
        · have hf := (if_neg c5).symm.trans hf
          have n5 := lv_neT c5 (a := 3) (by decide)
          by_cases c8 : v1 = (4 : Int32)
          · have hf := (if_pos c8).symm.trans hf
            refine lv_tableIn (off := 108) (tgt := 109) hx hb dX10_count_1 (by rw [c8]; decide) (by rw [c8]; decide) (by rw [c8]; rfl) (by decide) ?_
            refine lv_aload_n hx hb dX10_count_109 rfl (lv_at hl 0 rfl) ?_
            refine gf_X10_60 C hW dX10_count_110 ?_
            refine gf_X10_389 C hW hwf.2.1 dX10_count_113 ?_
            obtain rfl := Option.some.inj hf
            rw [hQ]
            exact r_iret C hr hk hW rfl rfl dX10_count_116
          · have hf := (if_neg c8).symm.trans hf
            have n8 := lv_neT c8 (a := 4) (by decide)
            by_cases c9 : v1 = (5 : Int32)
            · have hf := (if_pos c9).symm.trans hf
              refine lv_tableIn (off := 116) (tgt := 117) hx hb dX10_count_1 (by rw [c9]; decide) (by rw [c9]; decide) (by rw [c9]; rfl) (by decide) ?_
              refine lv_aload_n hx hb dX10_count_117 rfl (lv_at hl 0 rfl) ?_
              refine gf_X10_60 C hW dX10_count_118 ?_
              refine gf_X10_392 C hW hwf.2.1 dX10_count_121 ?_
              obtain rfl := Option.some.inj hf
              rw [hQ]
              exact r_iret C hr hk hW rfl rfl dX10_count_124
            · have hf := (if_neg c9).symm.trans hf
              have n9 := lv_neT c9 (a := 5) (by decide)
              by_cases c10 : v1 = (6 : Int32)
              · have hf := (if_pos c10).symm.trans hf
                refine lv_tableIn (off := 124) (tgt := 125) hx hb dX10_count_1 (by rw [c10]; decide) (by rw [c10]; decide) (by rw [c10]; rfl) (by decide) ?_
                refine lv_aload_n hx hb dX10_count_125 rfl (lv_at hl 0 rfl) ?_
                refine gf_X10_19 C hW dX10_count_126 ?_
                refine lv_aload_n hx hb dX10_count_129 rfl (lv_at hl 0 rfl) ?_
                refine gf_X10_60 C hW dX10_count_130 ?_
                obtain ⟨x133, h133, hf⟩ := bd_of hf
                refine r_callV (k := ((3, 0) : Ky)) C hW hl lk_X10_395 (c_X4_manyLeft hwf hwf.2.1 h133) ⟨rfl, rfl⟩ ⟨Nat.le_of_ble_eq_true rfl, Nat.le_of_ble_eq_true rfl⟩ rfl rfl rfl (As := [.ref (oa (13, sh 4 0))]) (rest := []) rfl rfl (Nat.le_of_ble_eq_true rfl) dX10_count_133 ⟨Nat.zero_le _, Nat.zero_le _⟩ (fun H locs hW => ?_)
                show W p l e (rmq 4 96) s m args below meth c H locs 0 0 Q (F0 m 136 ls [.int x133])
                obtain rfl := Option.some.inj hf
                rw [hQ]
                exact r_iret C hr hk hW rfl rfl dX10_count_136
              · have hf := (if_neg c10).symm.trans hf
                have n10 := lv_neT c10 (a := 6) (by decide)
                by_cases c11 : v1 = (7 : Int32)
                · have hf := (if_pos c11).symm.trans hf
                  refine lv_tableIn (off := 136) (tgt := 137) hx hb dX10_count_1 (by rw [c11]; decide) (by rw [c11]; decide) (by rw [c11]; rfl) (by decide) ?_
                  refine lv_aload_n hx hb dX10_count_137 rfl (lv_at hl 0 rfl) ?_
                  refine gf_X10_60 C hW dX10_count_138 ?_
                  refine gf_X10_144 C hW hwf.2.1 dX10_count_141 ?_
                  obtain rfl := Option.some.inj hf
                  rw [hQ]
                  exact r_iret C hr hk hW rfl rfl dX10_count_144
                · have hf := (if_neg c11).symm.trans hf
                  have n11 := lv_neT c11 (a := 7) (by decide)
                  by_cases c12 : v1 = (8 : Int32)
                  · have hf := (if_pos c12).symm.trans hf
                    refine lv_tableIn (off := 144) (tgt := 145) hx hb dX10_count_1 (by rw [c12]; decide) (by rw [c12]; decide) (by rw [c12]; rfl) (by decide) ?_
                    refine lv_aload_n hx hb dX10_count_145 rfl (lv_at hl 0 rfl) ?_
                    refine gf_X10_19 C hW dX10_count_146 ?_
                    refine lv_aload_n hx hb dX10_count_149 rfl (lv_at hl 0 rfl) ?_
                    refine gf_X10_60 C hW dX10_count_150 ?_
                    refine lv_aload_n hx hb dX10_count_153 rfl (lv_at hl 0 rfl) ?_
                    refine gf_X10_60 C hW dX10_count_154 ?_
                    refine gf_X10_163 C hW hwf.2.1 dX10_count_157 ?_
                    obtain ⟨x160, h160, hf⟩ := bd_of hf
                    refine r_callV (k := ((3, 0) : Ky)) C hW hl lk_X10_398 (c_X4_sureBits hwf hwf.2.1 (cex_st hwf.2.1 (by decide)) h160) ⟨rfl, rfl⟩ ⟨Nat.le_of_ble_eq_true rfl, Nat.le_of_ble_eq_true rfl⟩ rfl rfl rfl (As := [.ref (oa (13, sh 4 0)), .ref (oa (11, 15 + 5 * (sh 4 0) + 2))]) (rest := []) rfl rfl (Nat.le_of_ble_eq_true rfl) dX10_count_160 ⟨Nat.zero_le _, Nat.zero_le _⟩ (fun H locs hW => ?_)
                    show W p l e (rmq 4 96) s m args below meth c H locs 0 0 Q (F0 m 163 ls [.int x160])
                    obtain rfl := Option.some.inj hf
                    rw [hQ]
                    exact r_iret C hr hk hW rfl rfl dX10_count_163
                  · have hf := (if_neg c12).symm.trans hf
                    have n12 := lv_neT c12 (a := 8) (by decide)
                    by_cases c13 : v1 = (9 : Int32)
                    · have hf := (if_pos c13).symm.trans hf
                      refine lv_tableIn (off := 163) (tgt := 164) hx hb dX10_count_1 (by rw [c13]; decide) (by rw [c13]; decide) (by rw [c13]; rfl) (by decide) ?_
                      refine lv_aload_n hx hb dX10_count_164 rfl (lv_at hl 0 rfl) ?_
                      refine gf_X10_60 C hW dX10_count_165 ?_
                      refine gf_X10_353 C hW hwf.2.1 dX10_count_168 ?_
                      obtain rfl := Option.some.inj hf
                      rw [hQ]
                      exact r_iret C hr hk hW rfl rfl dX10_count_171
                    · have hf := (if_neg c13).symm.trans hf
                      have n13 := lv_neT c13 (a := 9) (by decide)
                      by_cases c14 : v1 = (10 : Int32)
                      · have hf := (if_pos c14).symm.trans hf
                        refine lv_tableIn (off := 171) (tgt := 172) hx hb dX10_count_1 (by rw [c14]; decide) (by rw [c14]; decide) (by rw [c14]; rfl) (by decide) ?_
                        refine lv_aload_n hx hb dX10_count_172 rfl (lv_at hl 0 rfl) ?_
                        refine gf_X10_364 C hW dX10_count_173 ?_
                        obtain rfl := Option.some.inj hf
                        rw [hQ]
                        exact r_iret C hr hk hW rfl rfl dX10_count_176
                      · have hf := (if_neg c14).symm.trans hf
                        have n14 := lv_neT c14 (a := 10) (by decide)
                        refine lv_tableOut (tgt := 177) hx hb dX10_count_1 (by omega) (by decide) ?_
                        refine lv_iconst (v := -1) hx hb dX10_count_177 (by decide) ?_
                        obtain rfl := Option.some.inj hf
                        rw [hQ]
                        exact r_iret C hr hk hW rfl rfl dX10_count_178
set_option maxHeartbeats 4000000 in
set_option maxRecDepth 100000 in
theorem c_X10_forgetPast {l : Launch} {D : va_G} {tc : Nat → ClassId} {ro : Ro} {oa : Ky → Nat} {aa : Nat → Nat} {sh : Sh} {μ : Mm} {res : Mm} (hwf : WfS sh) (hf : f_X10_forgetPast sh μ = some res) : Ct l D tc ro (faB oa aa sh) (feB tc oa aa sh) yX10_forgetPast cX10_forgetPast 1 none (rmq 0 0) [.ref (oa (0, 0))] μ none res := by
  refine Ct.of (by decide) (Nat.le_of_ble_eq_true rfl) (fun p e s m args below meth c A C hr hk hW ls hl => ?_)
  have hx := C.1.1
  have hb := C.1.2.1
  obtain ⟨Q, hQ⟩ : ∃ Q, Q = MQ below (Ctq D (faB oa aa sh) (feB tc oa aa sh) none res A) args s 0 0 A := ⟨_, rfl⟩
  rw [← hQ]
  have hl : lv_has ls 1 [(0, .ref (oa (0, 0)))] := hl
  unfold f_X10_forgetPast at hf
  refine lv_aload_n hx hb dX10_forgetPast_0 rfl (lv_at hl 0 rfl) ?_
  refine lv_iconst (v := 0) hx hb dX10_forgetPast_1 (by decide) ?_
  refine pf_X10_364 C hW dX10_forgetPast_2 (fun H locs hW => ?_)
  obtain rfl := Option.some.inj hf
  rw [hQ]
  exact r_vret C hr hk hW rfl rfl dX10_forgetPast_5
