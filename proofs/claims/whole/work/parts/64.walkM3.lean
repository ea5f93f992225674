set_option maxHeartbeats 4000000 in
set_option maxRecDepth 100000 in
theorem c_X11_mannerIn {l : Launch} {D : va_G} {tc : Nat → ClassId} {ro : Ro} {ad : Nat → Nat} {μ : Mm} {v1 v2 v3 : Int32} {res : Int32 × Mm} (hf : f_X11_mannerIn μ v1 v2 v3 = some res) : Ct l D tc ro (faM ad) (feM tc ad) yX11_mannerIn cX11_mannerIn 4 (some .int) (rmq 5 127) [.ref (ad 0), .int v1, .int v2, .int v3] μ (some (.int res.1)) res.2 := by
  refine Ct.of (by decide) (Nat.le_of_ble_eq_true rfl) (fun p e s m args below meth c A C hr hk hW ls hl => ?_)
  have hx := C.1.1
  have hb := C.1.2.1
  obtain ⟨Q, hQ⟩ : ∃ Q, Q = MQ below (Ctq D (faM ad) (feM tc ad) (some (.int res.1)) res.2 A) args s 0 0 A := ⟨_, rfl⟩
  rw [← hQ]
  have hl : lv_has ls 4 [(0, .ref (ad 0)), (1, .int v1), (2, .int v2), (3, .int v3)] := hl
  unfold f_X11_mannerIn at hf
  refine lv_aload_n hx hb dX11_mannerIn_0 rfl (lv_at hl 0 rfl) ?_
  refine lv_iload_n hx hb dX11_mannerIn_1 rfl (lv_at hl 1 rfl) ?_
  refine lv_iload_n hx hb dX11_mannerIn_2 rfl (lv_at hl 2 rfl) ?_
  refine lv_aload_n hx hb dX11_mannerIn_3 rfl (lv_at hl 0 rfl) ?_
  refine lv_iload_n hx hb dX11_mannerIn_4 rfl (lv_at hl 2 rfl) ?_
  refine lv_iload_n hx hb dX11_mannerIn_5 rfl (lv_at hl 3 rfl) ?_
  obtain ⟨x6, h6, hf⟩ := bd_of hf
  refine r_callV (k := ((0, 0) : Ky)) C hW hl lk_X11_124 (c_X11_noticeIn h6) ⟨rfl, rfl⟩ ⟨Nat.le_of_ble_eq_true rfl, Nat.le_of_ble_eq_true rfl⟩ rfl rfl rfl (As := [.int v2, .int v3]) (rest := [.int v2, .int v1, .ref (ad 0)]) rfl rfl (Nat.le_of_ble_eq_true rfl) dX11_mannerIn_6 ⟨Nat.zero_le _, Nat.zero_le _⟩ (fun H locs hW => ?_)
  show W p l e (rmq 5 127) s m args below meth c H locs 0 0 Q (F0 m 9 ls [.int x6, .int v2, .int v1, .ref (ad 0)])
  refine lv_aload_n hx hb dX11_mannerIn_9 rfl (lv_at hl 0 rfl) ?_
  refine lv_iload_n hx hb dX11_mannerIn_10 rfl (lv_at hl 1 rfl) ?_
  refine lv_iload_n hx hb dX11_mannerIn_11 rfl (lv_at hl 3 rfl) ?_
  obtain ⟨x12, h12, hf⟩ := bd_of hf
  refine r_callV (k := ((0, 0) : Ky)) C hW hl lk_X11_146 (c_X11_isSure h12) ⟨rfl, rfl⟩ ⟨Nat.le_of_ble_eq_true rfl, Nat.le_of_ble_eq_true rfl⟩ rfl rfl rfl (As := [.int v1, .int v3]) (rest := [.int x6, .int v2, .int v1, .ref (ad 0)]) rfl rfl (Nat.le_of_ble_eq_true rfl) dX11_mannerIn_12 ⟨Nat.zero_le _, Nat.zero_le _⟩ (fun H locs hW => ?_)
  show W p l e (rmq 5 127) s m args below meth c H locs 0 0 Q (F0 m 15 ls [.int x12.1, .int x6, .int v2, .int v1, .ref (ad 0)])
  obtain ⟨x15, h15, hf⟩ := bd_of hf
  refine r_callV (k := ((0, 0) : Ky)) C hW hl lk_X11_336 (c_X11_mannerBy h15) ⟨rfl, rfl⟩ ⟨Nat.le_of_ble_eq_true rfl, Nat.le_of_ble_eq_true rfl⟩ rfl rfl rfl (As := [.int v1, .int v2, .int x6, .int x12.1]) (rest := []) rfl rfl (Nat.le_of_ble_eq_true rfl) dX11_mannerIn_15 ⟨Nat.zero_le _, Nat.zero_le _⟩ (fun H locs hW => ?_)
  show W p l e (rmq 5 127) s m args below meth c H locs 0 0 Q (F0 m 18 ls [.int x15.1])
  obtain rfl := Option.some.inj hf
  rw [hQ]
  exact r_iret C hr hk hW rfl rfl dX11_mannerIn_18
set_option maxHeartbeats 4000000 in
set_option maxRecDepth 100000 in
theorem c_X11_tells {l : Launch} {D : va_G} {tc : Nat → ClassId} {ro : Ro} {ad : Nat → Nat} {μ : Mm} {v1 v2 v3 v4 : Int32} {res : Mm} (hf : f_X11_tells μ v1 v2 v3 v4 = some res) : Ct l D tc ro (faM ad) (feM tc ad) yX11_tells cX11_tells 6 none (rmq 6 135) [.ref (ad 0), .int v1, .int v2, .int v3, .int v4] μ none res := by
  refine Ct.of (by decide) (Nat.le_of_ble_eq_true rfl) (fun p e s m args below meth c A C hr hk hW ls hl => ?_)
  have hx := C.1.1
  have hb := C.1.2.1
  obtain ⟨Q, hQ⟩ : ∃ Q, Q = MQ below (Ctq D (faM ad) (feM tc ad) none res A) args s 0 0 A := ⟨_, rfl⟩
  rw [← hQ]
  have hl : lv_has ls 6 [(0, .ref (ad 0)), (1, .int v1), (2, .int v2), (3, .int v3), (4, .int v4)] := hl
  unfold f_X11_tells at hf
  refine lv_sipush (v := 299) hx hb dX11_tells_0 (by decide) ?_
  refine lv_istore (lv' := [(5, .int (299 : Int32)), (0, .ref (ad 0)), (1, .int v1), (2, .int v2), (3, .int v3), (4, .int v4)]) hx hb dX11_tells_3 hl (by decide) rfl (fun ls hl => ?_)
  have L5 : ∀ (μ : Mm) (v5 : Int32) (H : Heap) (locs : List Loc) (ls : Array Slot), Wh (fun z : Mm × Int32 => f_X11_tells_L5 v1 v2 v3 v4 z.1 z.2) (μ, v5) = some res → Wd D (faM ad) (feM tc ad) A s.heap μ H locs → lv_has ls 6 [(0, .ref (ad 0)), (1, .int v1), (2, .int v2), (3, .int v3), (4, .int v4), (5, .int v5)] → W p l e (rmq 6 135) s m args below meth c H locs 0 0 Q (F0 m 5 ls []) := by
    intro μ v5 H locs ls hf hW hl
    refine Wh_rule hf (fun z : Mm × Int32 => ∀ (H : Heap) (locs : List Loc) (ls : Array Slot), Wd D (faM ad) (feM tc ad) A s.heap z.1 H locs → lv_has ls 6 [(0, .ref (ad 0)), (1, .int v1), (2, .int v2), (3, .int v3), (4, .int v4), (5, .int z.2)] → W p l e (rmq 6 135) s m args below meth c H locs 0 0 Q (F0 m 5 ls [])) (fun z o1 hf Kl1 Kr1 => ?_) _ _ _ hW hl
    obtain ⟨μ, v5⟩ := z
    intro H locs ls hW hl
    have hf : f_X11_tells_L5 v1 v2 v3 v4 μ v5 = some o1 := hf
    unfold f_X11_tells_L5 at hf
    have hW : Wd D (faM ad) (feM tc ad) A s.heap μ H locs := hW
    have hl : lv_has ls 6 [(0, .ref (ad 0)), (1, .int v1), (2, .int v2), (3, .int v3), (4, .int v4), (5, .int v5)] := hl
    refine lv_iload hx hb dX11_tells_5 (lv_at hl 5 rfl) ?_
    refine lv_iconst (v := 5) hx hb dX11_tells_7 (by decide) ?_
    refine lv_icmp_lt (tgt := 41) hx hb dX11_tells_8 (by decide) (fun c1 => ?_) (fun c1 => ?_)
    · have hf := (if_pos c1).symm.trans hf
      obtain ⟨x9011, hf, hx9011⟩ := map_of hf
      have e9011 := (Kr1 _ hx9011.symm).symm
      subst e9011
      refine lv_aload_n hx hb dX11_tells_41 rfl (lv_at hl 0 rfl) ?_
      refine gf_X11_13 C hW dX11_tells_42 ?_
      refine lv_sipush (v := 5140) hx hb dX11_tells_45 (by decide) ?_
      refine lv_iload_n hx hb dX11_tells_48 rfl (lv_at hl 1 rfl) ?_
      obtain ⟨hi2, hf⟩ := ck_of hf
      refine r_iast (k := ((1, 0) : Ky)) (n := 7114) C hW rfl (fun _ => rfl) hi2 dX11_tells_49 (fun H locs hW => ?_)
      refine lv_aload_n hx hb dX11_tells_50 rfl (lv_at hl 0 rfl) ?_
      refine gf_X11_13 C hW dX11_tells_51 ?_
      refine lv_sipush (v := 5141) hx hb dX11_tells_54 (by decide) ?_
      refine lv_iload_n hx hb dX11_tells_57 rfl (lv_at hl 2 rfl) ?_
      obtain ⟨hi3, hf⟩ := ck_of hf
      refine r_iast (k := ((1, 0) : Ky)) (n := 7114) C hW rfl (fun _ => rfl) hi3 dX11_tells_58 (fun H locs hW => ?_)
      refine lv_aload_n hx hb dX11_tells_59 rfl (lv_at hl 0 rfl) ?_
      refine gf_X11_13 C hW dX11_tells_60 ?_
      refine lv_sipush (v := 5142) hx hb dX11_tells_63 (by decide) ?_
      refine lv_iload_n hx hb dX11_tells_66 rfl (lv_at hl 3 rfl) ?_
      obtain ⟨hi4, hf⟩ := ck_of hf
      refine r_iast (k := ((1, 0) : Ky)) (n := 7114) C hW rfl (fun _ => rfl) hi4 dX11_tells_67 (fun H locs hW => ?_)
      refine lv_aload_n hx hb dX11_tells_68 rfl (lv_at hl 0 rfl) ?_
      refine gf_X11_13 C hW dX11_tells_69 ?_
      refine lv_sipush (v := 5143) hx hb dX11_tells_72 (by decide) ?_
      refine lv_iload hx hb dX11_tells_75 (lv_at hl 4 rfl) ?_
      obtain ⟨hi5, hf⟩ := ck_of hf
      refine r_iast (k := ((1, 0) : Ky)) (n := 7114) C hW rfl (fun _ => rfl) hi5 dX11_tells_77 (fun H locs hW => ?_)
      refine lv_aload_n hx hb dX11_tells_78 rfl (lv_at hl 0 rfl) ?_
      refine gf_X11_13 C hW dX11_tells_79 ?_
      refine lv_sipush (v := 5144) hx hb dX11_tells_82 (by decide) ?_
      refine lv_aload_n hx hb dX11_tells_85 rfl (lv_at hl 0 rfl) ?_
      refine lv_aload_n hx hb dX11_tells_86 rfl (lv_at hl 0 rfl) ?_
      obtain ⟨x87, h87, hf⟩ := bd_of hf
      refine r_callV (k := ((0, 0) : Ky)) C hW hl lk_X11_121 (c_X11_here h87) ⟨rfl, rfl⟩ ⟨Nat.le_of_ble_eq_true rfl, Nat.le_of_ble_eq_true rfl⟩ rfl rfl rfl (As := []) (rest := [.ref (ad 0), .int (5144 : Int32), .ref (ad 1)]) rfl rfl (Nat.le_of_ble_eq_true rfl) dX11_tells_87 ⟨Nat.zero_le _, Nat.zero_le _⟩ (fun H locs hW => ?_)
      show W p l e (rmq 6 135) s m args below meth c H locs 0 0 Q (F0 m 90 ls [.int x87, .ref (ad 0), .int (5144 : Int32), .ref (ad 1)])
      obtain ⟨x90, h90, hf⟩ := bd_of hf
      refine r_callV (k := ((0, 0) : Ky)) C hW hl lk_X11_340 (c_X11_sureOnes h90) ⟨rfl, rfl⟩ ⟨Nat.le_of_ble_eq_true rfl, Nat.le_of_ble_eq_true rfl⟩ rfl rfl rfl (As := [.int x87]) (rest := [.int (5144 : Int32), .ref (ad 1)]) rfl rfl (Nat.le_of_ble_eq_true rfl) dX11_tells_90 ⟨Nat.zero_le _, Nat.zero_le _⟩ (fun H locs hW => ?_)
      show W p l e (rmq 6 135) s m args below meth c H locs 0 0 Q (F0 m 93 ls [.int x90.1, .int (5144 : Int32), .ref (ad 1)])
      obtain ⟨hi8, hf⟩ := ck_of hf
      refine r_iast (k := ((1, 0) : Ky)) (n := 7114) C hW rfl (fun _ => rfl) hi8 dX11_tells_93 (fun H locs hW => ?_)
      refine lv_aload_n hx hb dX11_tells_94 rfl (lv_at hl 0 rfl) ?_
      refine gf_X11_13 C hW dX11_tells_95 ?_
      refine lv_bipush (v := 9) hx hb dX11_tells_98 (by decide) ?_
      refine lv_bipush (v := 60) hx hb dX11_tells_100 (by decide) ?_
      refine lv_aload_n hx hb dX11_tells_102 rfl (lv_at hl 0 rfl) ?_
      refine gf_X11_13 C hW dX11_tells_103 ?_
      refine lv_bipush (v := 9) hx hb dX11_tells_106 (by decide) ?_
      obtain ⟨hi9, hf⟩ := ck_of hf
      refine r_iald (k := ((1, 0) : Ky)) (n := 7114) C hW rfl rfl hi9 dX11_tells_108 ?_
      refine lv_iconst (v := 1) hx hb dX11_tells_109 (by decide) ?_
      refine lv_iadd hx hb dX11_tells_110 ?_
      refine r_mmin C hl kw_2423 kw_560 kw_140 kw_561 (Nat.le_of_ble_eq_true rfl) (Nat.le_of_ble_eq_true rfl) ⟨Nat.zero_le _, Nat.zero_le _⟩ dX11_tells_111 ?_
      obtain ⟨hi10, hf⟩ := ck_of hf
      refine r_iast (k := ((1, 0) : Ky)) (n := 7114) C hW rfl (fun _ => rfl) hi10 dX11_tells_114 (fun H locs hW => ?_)
      obtain rfl := Option.some.inj hf
      rw [hQ]
      exact r_vret C hr hk hW rfl rfl dX11_tells_115
    · have hf := (if_neg c1).symm.trans hf
      refine lv_aload_n hx hb dX11_tells_11 rfl (lv_at hl 0 rfl) ?_
      refine gf_X11_13 C hW dX11_tells_12 ?_
      refine lv_sipush (v := 5140) hx hb dX11_tells_15 (by decide) ?_
      refine lv_iload hx hb dX11_tells_18 (lv_at hl 5 rfl) ?_
      refine lv_iadd hx hb dX11_tells_20 ?_
      refine lv_aload_n hx hb dX11_tells_21 rfl (lv_at hl 0 rfl) ?_
      refine gf_X11_13 C hW dX11_tells_22 ?_
      refine lv_sipush (v := 5140) hx hb dX11_tells_25 (by decide) ?_
      refine lv_iload hx hb dX11_tells_28 (lv_at hl 5 rfl) ?_
      refine lv_iadd hx hb dX11_tells_30 ?_
      refine lv_iconst (v := 5) hx hb dX11_tells_31 (by decide) ?_
      refine lv_isub hx hb dX11_tells_32 ?_
      obtain ⟨hi12, hf⟩ := ck_of hf
      refine r_iald (k := ((1, 0) : Ky)) (n := 7114) C hW rfl rfl hi12 dX11_tells_33 ?_
      obtain ⟨hi13, hf⟩ := ck_of hf
      refine r_iast (k := ((1, 0) : Ky)) (n := 7114) C hW rfl (fun _ => rfl) hi13 dX11_tells_34 (fun H locs hW => ?_)
      refine lv_iinc (v := (v5 + (-1 : Int32))) (lv' := [(5, .int (v5 + (-1 : Int32))), (0, .ref (ad 0)), (1, .int v1), (2, .int v2), (3, .int v3), (4, .int v4)]) hx hb dX11_tells_35 hl (k := 5) rfl rfl (by decide) rfl (fun ls hl => ?_)
      refine lv_goto (tgt := 5) hx hb dX11_tells_38 (by decide) ?_
      obtain rfl := Option.some.inj hf
      exact Kl1 _ rfl _ _ _ hW (lv_sub hl [1, 2, 3, 4, 5, 0] rfl)
  exact L5 μ (299 : Int32) _ _ _ hf hW (lv_sub hl [1, 2, 3, 4, 5, 0] rfl)
set_option maxHeartbeats 4000000 in
set_option maxRecDepth 100000 in
theorem c_X11_treats {l : Launch} {D : va_G} {tc : Nat → ClassId} {ro : Ro} {ad : Nat → Nat} {μ : Mm} {v1 v2 v3 : Int32} {res : Int32 × Mm} (hf : f_X11_treats μ v1 v2 v3 = some res) : Ct l D tc ro (faM ad) (feM tc ad) yX11_treats cX11_treats 6 (some .int) (rmq 7 160) [.ref (ad 0), .int v1, .int v2, .int v3] μ (some (.int res.1)) res.2 := by
  refine Ct.of (by decide) (Nat.le_of_ble_eq_true rfl) (fun p e s m args below meth c A C hr hk hW ls hl => ?_)
  have hx := C.1.1
  have hb := C.1.2.1
  obtain ⟨Q, hQ⟩ : ∃ Q, Q = MQ below (Ctq D (faM ad) (feM tc ad) (some (.int res.1)) res.2 A) args s 0 0 A := ⟨_, rfl⟩
  rw [← hQ]
  have hl : lv_has ls 6 [(0, .ref (ad 0)), (1, .int v1), (2, .int v2), (3, .int v3)] := hl
  unfold f_X11_treats at hf
  refine lv_aload_n hx hb dX11_treats_0 rfl (lv_at hl 0 rfl) ?_
  refine lv_iload_n hx hb dX11_treats_1 rfl (lv_at hl 1 rfl) ?_
  refine lv_iload_n hx hb dX11_treats_2 rfl (lv_at hl 2 rfl) ?_
  refine lv_aload_n hx hb dX11_treats_3 rfl (lv_at hl 0 rfl) ?_
  obtain ⟨x4, h4, hf⟩ := bd_of hf
  refine r_callV (k := ((0, 0) : Ky)) C hW hl lk_X11_121 (c_X11_here h4) ⟨rfl, rfl⟩ ⟨Nat.le_of_ble_eq_true rfl, Nat.le_of_ble_eq_true rfl⟩ rfl rfl rfl (As := []) (rest := [.int v2, .int v1, .ref (ad 0)]) rfl rfl (Nat.le_of_ble_eq_true rfl) dX11_treats_4 ⟨Nat.zero_le _, Nat.zero_le _⟩ (fun H locs hW => ?_)
  show W p l e (rmq 7 160) s m args below meth c H locs 0 0 Q (F0 m 7 ls [.int x4, .int v2, .int v1, .ref (ad 0)])
  obtain ⟨x7, h7, hf⟩ := bd_of hf
  refine r_callV (k := ((0, 0) : Ky)) C hW hl lk_X11_349 (c_X11_mannerIn h7) ⟨rfl, rfl⟩ ⟨Nat.le_of_ble_eq_true rfl, Nat.le_of_ble_eq_true rfl⟩ rfl rfl rfl (As := [.int v1, .int v2, .int x4]) (rest := []) rfl rfl (Nat.le_of_ble_eq_true rfl) dX11_treats_7 ⟨Nat.zero_le _, Nat.zero_le _⟩ (fun H locs hW => ?_)
  show W p l e (rmq 7 160) s m args below meth c H locs 0 0 Q (F0 m 10 ls [.int x7.1])
  refine lv_istore (lv' := [(4, .int x7.1), (0, .ref (ad 0)), (1, .int v1), (2, .int v2), (3, .int v3)]) hx hb dX11_treats_10 hl (by decide) rfl (fun ls hl => ?_)
  refine lv_aload_n hx hb dX11_treats_12 rfl (lv_at hl 1 rfl) ?_
  refine lv_iload_n hx hb dX11_treats_13 rfl (lv_at hl 2 rfl) ?_
  refine lv_iload_n hx hb dX11_treats_14 rfl (lv_at hl 3 rfl) ?_
  obtain ⟨x15, h15, hf⟩ := bd_of hf
  refine r_callV (k := ((0, 0) : Ky)) C hW hl lk_X11_352 (c_X11_mannersCome h15) ⟨rfl, rfl⟩ ⟨Nat.le_of_ble_eq_true rfl, Nat.le_of_ble_eq_true rfl⟩ rfl rfl rfl (As := [.int v1, .int v2]) (rest := []) rfl rfl (Nat.le_of_ble_eq_true rfl) dX11_treats_15 ⟨Nat.zero_le _, Nat.zero_le _⟩ (fun H locs hW => ?_)
  show W p l e (rmq 7 160) s m args below meth c H locs 0 0 Q (F0 m 18 ls [])
  refine lv_iconst (v := 0) hx hb dX11_treats_18 (by decide) ?_
  refine lv_istore (lv' := [(5, .int (0 : Int32)), (4, .int x7.1), (0, .ref (ad 0)), (1, .int v1), (2, .int v2), (3, .int v3)]) hx hb dX11_treats_19 hl (by decide) rfl (fun ls hl => ?_)
  have L21 : ∀ (μ : Mm) (v4 v5 : Int32) (H : Heap) (locs : List Loc) (ls : Array Slot), Wh (fun z : Mm × Int32 => f_X11_treats_L21 v1 v2 v3 v4 z.1 z.2) (μ, v5) = some res → Wd D (faM ad) (feM tc ad) A s.heap μ H locs → lv_has ls 6 [(0, .ref (ad 0)), (1, .int v1), (2, .int v2), (3, .int v3), (4, .int v4), (5, .int v5)] → W p l e (rmq 7 160) s m args below meth c H locs 0 0 Q (F0 m 21 ls []) := by
    intro μ v4 v5 H locs ls hf hW hl
    refine Wh_rule hf (fun z : Mm × Int32 => ∀ (H : Heap) (locs : List Loc) (ls : Array Slot), Wd D (faM ad) (feM tc ad) A s.heap z.1 H locs → lv_has ls 6 [(0, .ref (ad 0)), (1, .int v1), (2, .int v2), (3, .int v3), (4, .int v4), (5, .int z.2)] → W p l e (rmq 7 160) s m args below meth c H locs 0 0 Q (F0 m 21 ls [])) (fun z o1 hf Kl1 Kr1 => ?_) _ _ _ hW hl
    obtain ⟨μ, v5⟩ := z
    intro H locs ls hW hl
    have hf : f_X11_treats_L21 v1 v2 v3 v4 μ v5 = some o1 := hf
    unfold f_X11_treats_L21 at hf
    have hW : Wd D (faM ad) (feM tc ad) A s.heap μ H locs := hW
    have hl : lv_has ls 6 [(0, .ref (ad 0)), (1, .int v1), (2, .int v2), (3, .int v3), (4, .int v4), (5, .int v5)] := hl
    refine lv_iload hx hb dX11_treats_21 (lv_at hl 5 rfl) ?_
    refine lv_aload_n hx hb dX11_treats_23 rfl (lv_at hl 0 rfl) ?_
    obtain ⟨x24, h24, hf⟩ := bd_of hf
    refine r_callV (k := ((0, 0) : Ky)) C hW hl lk_X11_107 (c_X11_people h24) ⟨rfl, rfl⟩ ⟨Nat.le_of_ble_eq_true rfl, Nat.le_of_ble_eq_true rfl⟩ rfl rfl rfl (As := []) (rest := [.int v5]) rfl rfl (Nat.le_of_ble_eq_true rfl) dX11_treats_24 ⟨Nat.zero_le _, Nat.zero_le _⟩ (fun H locs hW => ?_)
    show W p l e (rmq 7 160) s m args below meth c H locs 0 0 Q (F0 m 27 ls [.int x24, .int v5])
    refine lv_icmp_ge (tgt := 52) hx hb dX11_treats_27 (by decide) (fun c5 => ?_) (fun c5 => ?_)
    · have hf := (if_pos c5).symm.trans hf
      obtain ⟨x9009, hf, hx9009⟩ := map_of hf
      have e9009 := (Kr1 _ hx9009.symm).symm
      subst e9009
      refine lv_aload_n hx hb dX11_treats_52 rfl (lv_at hl 0 rfl) ?_
      refine lv_iload_n hx hb dX11_treats_53 rfl (lv_at hl 3 rfl) ?_
      refine lv_if_eq (tgt := 61) hx hb dX11_treats_54 (by decide) (fun c6 => ?_) (fun c6 => ?_)
      · have hf := (if_pos c6).symm.trans hf
        refine lv_iconst (v := 0) hx hb dX11_treats_61 (by decide) ?_
        refine lv_iload_n hx hb dX11_treats_62 rfl (lv_at hl 1 rfl) ?_
        refine lv_iload_n hx hb dX11_treats_63 rfl (lv_at hl 2 rfl) ?_
        refine lv_iload hx hb dX11_treats_64 (lv_at hl 4 rfl) ?_
        obtain ⟨x66, h66, hf⟩ := bd_of hf
        refine r_callV (k := ((0, 0) : Ky)) C hW hl lk_X11_355 (c_X11_tells h66) ⟨rfl, rfl⟩ ⟨Nat.le_of_ble_eq_true rfl, Nat.le_of_ble_eq_true rfl⟩ rfl rfl rfl (As := [.int (0 : Int32), .int v1, .int v2, .int v4]) (rest := []) rfl rfl (Nat.le_of_ble_eq_true rfl) dX11_treats_66 ⟨Nat.zero_le _, Nat.zero_le _⟩ (fun H locs hW => ?_)
        show W p l e (rmq 7 160) s m args below meth c H locs 0 0 Q (F0 m 69 ls [])
        refine lv_iload hx hb dX11_treats_69 (lv_at hl 4 rfl) ?_
        obtain rfl := Option.some.inj hf
        rw [hQ]
        exact r_iret C hr hk hW rfl rfl dX11_treats_71
      · have hf := (if_neg c6).symm.trans hf
        refine lv_iconst (v := 1) hx hb dX11_treats_57 (by decide) ?_
        refine lv_goto (tgt := 62) hx hb dX11_treats_58 (by decide) ?_
        refine lv_iload_n hx hb dX11_treats_62 rfl (lv_at hl 1 rfl) ?_
        refine lv_iload_n hx hb dX11_treats_63 rfl (lv_at hl 2 rfl) ?_
        refine lv_iload hx hb dX11_treats_64 (lv_at hl 4 rfl) ?_
        obtain ⟨x66, h66, hf⟩ := bd_of hf
        refine r_callV (k := ((0, 0) : Ky)) C hW hl lk_X11_355 (c_X11_tells h66) ⟨rfl, rfl⟩ ⟨Nat.le_of_ble_eq_true rfl, Nat.le_of_ble_eq_true rfl⟩ rfl rfl rfl (As := [.int (1 : Int32), .int v1, .int v2, .int v4]) (rest := []) rfl rfl (Nat.le_of_ble_eq_true rfl) dX11_treats_66 ⟨Nat.zero_le _, Nat.zero_le _⟩ (fun H locs hW => ?_)
        show W p l e (rmq 7 160) s m args below meth c H locs 0 0 Q (F0 m 69 ls [])
        refine lv_iload hx hb dX11_treats_69 (lv_at hl 4 rfl) ?_
        obtain rfl := Option.some.inj hf
        rw [hQ]
        exact r_iret C hr hk hW rfl rfl dX11_treats_71
    · have hf := (if_neg c5).symm.trans hf
      refine lv_iload_n hx hb dX11_treats_30 rfl (lv_at hl 3 rfl) ?_
      refine lv_if_ne (tgt := 40) hx hb dX11_treats_31 (by decide) (fun c10 => ?_) (fun c10 => ?_)
      · have hf := (if_neg c10).symm.trans hf
        refine lv_aload_n hx hb dX11_treats_40 rfl (lv_at hl 0 rfl) ?_
        refine lv_iload hx hb dX11_treats_41 (lv_at hl 5 rfl) ?_
        obtain ⟨x43, h43, hf⟩ := bd_of hf
        refine r_callV (k := ((0, 0) : Ky)) C hW hl lk_X11_153 (c_X11_parts h43) ⟨rfl, rfl⟩ ⟨Nat.le_of_ble_eq_true rfl, Nat.le_of_ble_eq_true rfl⟩ rfl rfl rfl (As := [.int v5]) (rest := []) rfl rfl (Nat.le_of_ble_eq_true rfl) dX11_treats_43 ⟨Nat.zero_le _, Nat.zero_le _⟩ (fun H locs hW => ?_)
        show W p l e (rmq 7 160) s m args below meth c H locs 0 0 Q (F0 m 46 ls [])
        refine lv_iinc (v := (v5 + (1 : Int32))) (lv' := [(5, .int (v5 + (1 : Int32))), (0, .ref (ad 0)), (1, .int v1), (2, .int v2), (3, .int v3), (4, .int v4)]) hx hb dX11_treats_46 hl (k := 5) rfl rfl (by decide) rfl (fun ls hl => ?_)
        refine lv_goto (tgt := 21) hx hb dX11_treats_49 (by decide) ?_
        obtain rfl := Option.some.inj hf
        exact Kl1 _ rfl _ _ _ hW (lv_sub hl [1, 2, 3, 4, 5, 0] rfl)
      · have hf := (if_pos c10).symm.trans hf
        refine lv_iload hx hb dX11_treats_34 (lv_at hl 5 rfl) ?_
        refine lv_iload_n hx hb dX11_treats_36 rfl (lv_at hl 2 rfl) ?_
        refine lv_icmp_ne (tgt := 46) hx hb dX11_treats_37 (by decide) (fun c12 => ?_) (fun c12 => ?_)
        · have hf := (if_neg c12).symm.trans hf
          refine lv_iinc (v := (v5 + (1 : Int32))) (lv' := [(5, .int (v5 + (1 : Int32))), (0, .ref (ad 0)), (1, .int v1), (2, .int v2), (3, .int v3), (4, .int v4)]) hx hb dX11_treats_46 hl (k := 5) rfl rfl (by decide) rfl (fun ls hl => ?_)
          refine lv_goto (tgt := 21) hx hb dX11_treats_49 (by decide) ?_
          obtain rfl := Option.some.inj hf
          exact Kl1 _ rfl _ _ _ hW (lv_sub hl [1, 2, 3, 4, 5, 0] rfl)
        · have hf := (if_pos c12).symm.trans hf
          refine lv_aload_n hx hb dX11_treats_40 rfl (lv_at hl 0 rfl) ?_
          refine lv_iload hx hb dX11_treats_41 (lv_at hl 5 rfl) ?_
          obtain ⟨x43, h43, hf⟩ := bd_of hf
          refine r_callV (k := ((0, 0) : Ky)) C hW hl lk_X11_153 (c_X11_parts h43) ⟨rfl, rfl⟩ ⟨Nat.le_of_ble_eq_true rfl, Nat.le_of_ble_eq_true rfl⟩ rfl rfl rfl (As := [.int v5]) (rest := []) rfl rfl (Nat.le_of_ble_eq_true rfl) dX11_treats_43 ⟨Nat.zero_le _, Nat.zero_le _⟩ (fun H locs hW => ?_)
          show W p l e (rmq 7 160) s m args below meth c H locs 0 0 Q (F0 m 46 ls [])
          refine lv_iinc (v := (v5 + (1 : Int32))) (lv' := [(5, .int (v5 + (1 : Int32))), (0, .ref (ad 0)), (1, .int v1), (2, .int v2), (3, .int v3), (4, .int v4)]) hx hb dX11_treats_46 hl (k := 5) rfl rfl (by decide) rfl (fun ls hl => ?_)
          refine lv_goto (tgt := 21) hx hb dX11_treats_49 (by decide) ?_
          obtain rfl := Option.some.inj hf
          exact Kl1 _ rfl _ _ _ hW (lv_sub hl [1, 2, 3, 4, 5, 0] rfl)
  exact L21 x15 x7.1 (0 : Int32) _ _ _ hf hW (lv_sub hl [2, 3, 4, 5, 1, 0] rfl)
set_option maxHeartbeats 4000000 in
set_option maxRecDepth 100000 in
theorem c_X11_treat {l : Launch} {D : va_G} {tc : Nat → ClassId} {ro : Ro} {ad : Nat → Nat} {μ : Mm} {v1 v2 v3 : Int32} {res : Int32 × Mm} (hf : f_X11_treat μ v1 v2 v3 = some res) : Ct l D tc ro (faM ad) (feM tc ad) yX11_treat cX11_treat 4 (some .int) (rmq 8 185) [.ref (ad 0), .int v1, .int v2, .int v3] μ (some (.int res.1)) res.2 := by
  refine Ct.of (by decide) (Nat.le_of_ble_eq_true rfl) (fun p e s m args below meth c A C hr hk hW ls hl => ?_)
  have hx := C.1.1
  have hb := C.1.2.1
  obtain ⟨Q, hQ⟩ : ∃ Q, Q = MQ below (Ctq D (faM ad) (feM tc ad) (some (.int res.1)) res.2 A) args s 0 0 A := ⟨_, rfl⟩
  rw [← hQ]
  have hl : lv_has ls 4 [(0, .ref (ad 0)), (1, .int v1), (2, .int v2), (3, .int v3)] := hl
  unfold f_X11_treat at hf
  have J45 : ∀ (μ : Mm) (s0 : Int32) (H : Heap) (locs : List Loc) (ls : Array Slot), f_X11_treat_J45 μ v1 v2 v3 s0 = some res → Wd D (faM ad) (feM tc ad) A s.heap μ H locs → lv_has ls 4 [(0, .ref (ad 0)), (1, .int v1), (2, .int v2), (3, .int v3)] → W p l e (rmq 8 185) s m args below meth c H locs 0 0 Q (F0 m 45 ls [.int s0, .ref (ad 0)]) := by
    intro μ s0 H locs ls hf hW hl
    unfold f_X11_treat_J45 at hf
    refine lv_iconst (v := 2) hx hb dX11_treat_45 (by decide) ?_
    obtain ⟨x46, h46, hf⟩ := bd_of hf
    refine r_callV (k := ((0, 0) : Ky)) C hW hl lk_X11_322 (c_X11_throwsIf h46) ⟨rfl, rfl⟩ ⟨Nat.le_of_ble_eq_true rfl, Nat.le_of_ble_eq_true rfl⟩ rfl rfl rfl (As := [.int s0, .int (2 : Int32)]) (rest := []) rfl rfl (Nat.le_of_ble_eq_true rfl) dX11_treat_46 ⟨Nat.zero_le _, Nat.zero_le _⟩ (fun H locs hW => ?_)
    show W p l e (rmq 8 185) s m args below meth c H locs 0 0 Q (F0 m 49 ls [.int x46.1])
    refine lv_if_ne (tgt := 74) hx hb dX11_treat_49 (by decide) (fun c2 => ?_) (fun c2 => ?_)
    · have hf := (if_neg c2).symm.trans hf
      refine lv_iconst (v := 0) hx hb dX11_treat_74 (by decide) ?_
      obtain rfl := Option.some.inj hf
      rw [hQ]
      exact r_iret C hr hk hW rfl rfl dX11_treat_75
    · have hf := (if_pos c2).symm.trans hf
      refine lv_aload_n hx hb dX11_treat_52 rfl (lv_at hl 0 rfl) ?_
      refine lv_aload_n hx hb dX11_treat_53 rfl (lv_at hl 0 rfl) ?_
      refine lv_iload_n hx hb dX11_treat_54 rfl (lv_at hl 1 rfl) ?_
      refine lv_iload_n hx hb dX11_treat_55 rfl (lv_at hl 2 rfl) ?_
      obtain ⟨x56, h56, hf⟩ := bd_of hf
      refine r_callV (k := ((0, 0) : Ky)) C hW hl lk_X11_325 (c_X11_isSeeing h56) ⟨rfl, rfl⟩ ⟨Nat.le_of_ble_eq_true rfl, Nat.le_of_ble_eq_true rfl⟩ rfl rfl rfl (As := [.int v1, .int v2]) (rest := [.ref (ad 0)]) rfl rfl (Nat.le_of_ble_eq_true rfl) dX11_treat_56 ⟨Nat.zero_le _, Nat.zero_le _⟩ (fun H locs hW => ?_)
      show W p l e (rmq 8 185) s m args below meth c H locs 0 0 Q (F0 m 59 ls [.int x56, .ref (ad 0)])
      refine lv_if_ne (tgt := 66) hx hb dX11_treat_59 (by decide) (fun c4 => ?_) (fun c4 => ?_)
      · have hf := (if_neg c4).symm.trans hf
        refine lv_iconst (v := 0) hx hb dX11_treat_66 (by decide) ?_
        refine lv_iconst (v := 3) hx hb dX11_treat_67 (by decide) ?_
        obtain ⟨x68, h68, hf⟩ := bd_of hf
        refine r_callV (k := ((0, 0) : Ky)) C hW hl lk_X11_322 (c_X11_throwsIf h68) ⟨rfl, rfl⟩ ⟨Nat.le_of_ble_eq_true rfl, Nat.le_of_ble_eq_true rfl⟩ rfl rfl rfl (As := [.int (0 : Int32), .int (3 : Int32)]) (rest := []) rfl rfl (Nat.le_of_ble_eq_true rfl) dX11_treat_68 ⟨Nat.zero_le _, Nat.zero_le _⟩ (fun H locs hW => ?_)
        show W p l e (rmq 8 185) s m args below meth c H locs 0 0 Q (F0 m 71 ls [.int x68.1])
        refine lv_if_eq (tgt := 76) hx hb dX11_treat_71 (by decide) (fun c6 => ?_) (fun c6 => ?_)
        · have hf := (if_pos c6).symm.trans hf
          refine lv_aload_n hx hb dX11_treat_76 rfl (lv_at hl 0 rfl) ?_
          obtain ⟨x77, h77, hf⟩ := bd_of hf
          refine r_callV (k := ((0, 0) : Ky)) C hW hl lk_X11_362 (c_X11_remembers h77) ⟨rfl, rfl⟩ ⟨Nat.le_of_ble_eq_true rfl, Nat.le_of_ble_eq_true rfl⟩ rfl rfl rfl (As := []) (rest := []) rfl rfl (Nat.le_of_ble_eq_true rfl) dX11_treat_77 ⟨Nat.zero_le _, Nat.zero_le _⟩ (fun H locs hW => ?_)
          show W p l e (rmq 8 185) s m args below meth c H locs 0 0 Q (F0 m 80 ls [])
          refine lv_aload_n hx hb dX11_treat_80 rfl (lv_at hl 0 rfl) ?_
          refine lv_iload_n hx hb dX11_treat_81 rfl (lv_at hl 1 rfl) ?_
          refine lv_iload_n hx hb dX11_treat_82 rfl (lv_at hl 2 rfl) ?_
          refine lv_iload_n hx hb dX11_treat_83 rfl (lv_at hl 3 rfl) ?_
          obtain ⟨x84, h84, hf⟩ := bd_of hf
          refine r_callV (k := ((0, 0) : Ky)) C hW hl lk_X11_365 (c_X11_treats h84) ⟨rfl, rfl⟩ ⟨Nat.le_of_ble_eq_true rfl, Nat.le_of_ble_eq_true rfl⟩ rfl rfl rfl (As := [.int v1, .int v2, .int v3]) (rest := []) rfl rfl (Nat.le_of_ble_eq_true rfl) dX11_treat_84 ⟨Nat.zero_le _, Nat.zero_le _⟩ (fun H locs hW => ?_)
          show W p l e (rmq 8 185) s m args below meth c H locs 0 0 Q (F0 m 87 ls [.int x84.1])
          obtain rfl := Option.some.inj hf
          rw [hQ]
          exact r_iret C hr hk hW rfl rfl dX11_treat_87
        · have hf := (if_neg c6).symm.trans hf
          refine lv_iconst (v := 0) hx hb dX11_treat_74 (by decide) ?_
          obtain rfl := Option.some.inj hf
          rw [hQ]
          exact r_iret C hr hk hW rfl rfl dX11_treat_75
      · have hf := (if_pos c4).symm.trans hf
        refine lv_iconst (v := 1) hx hb dX11_treat_62 (by decide) ?_
        refine lv_goto (tgt := 67) hx hb dX11_treat_63 (by decide) ?_
        refine lv_iconst (v := 3) hx hb dX11_treat_67 (by decide) ?_
        obtain ⟨x68, h68, hf⟩ := bd_of hf
        refine r_callV (k := ((0, 0) : Ky)) C hW hl lk_X11_322 (c_X11_throwsIf h68) ⟨rfl, rfl⟩ ⟨Nat.le_of_ble_eq_true rfl, Nat.le_of_ble_eq_true rfl⟩ rfl rfl rfl (As := [.int (1 : Int32), .int (3 : Int32)]) (rest := []) rfl rfl (Nat.le_of_ble_eq_true rfl) dX11_treat_68 ⟨Nat.zero_le _, Nat.zero_le _⟩ (fun H locs hW => ?_)
        show W p l e (rmq 8 185) s m args below meth c H locs 0 0 Q (F0 m 71 ls [.int x68.1])
        refine lv_if_eq (tgt := 76) hx hb dX11_treat_71 (by decide) (fun c10 => ?_) (fun c10 => ?_)
        · have hf := (if_pos c10).symm.trans hf
          refine lv_aload_n hx hb dX11_treat_76 rfl (lv_at hl 0 rfl) ?_
          obtain ⟨x77, h77, hf⟩ := bd_of hf
          refine r_callV (k := ((0, 0) : Ky)) C hW hl lk_X11_362 (c_X11_remembers h77) ⟨rfl, rfl⟩ ⟨Nat.le_of_ble_eq_true rfl, Nat.le_of_ble_eq_true rfl⟩ rfl rfl rfl (As := []) (rest := []) rfl rfl (Nat.le_of_ble_eq_true rfl) dX11_treat_77 ⟨Nat.zero_le _, Nat.zero_le _⟩ (fun H locs hW => ?_)
          show W p l e (rmq 8 185) s m args below meth c H locs 0 0 Q (F0 m 80 ls [])
          refine lv_aload_n hx hb dX11_treat_80 rfl (lv_at hl 0 rfl) ?_
          refine lv_iload_n hx hb dX11_treat_81 rfl (lv_at hl 1 rfl) ?_
          refine lv_iload_n hx hb dX11_treat_82 rfl (lv_at hl 2 rfl) ?_
          refine lv_iload_n hx hb dX11_treat_83 rfl (lv_at hl 3 rfl) ?_
          obtain ⟨x84, h84, hf⟩ := bd_of hf
          refine r_callV (k := ((0, 0) : Ky)) C hW hl lk_X11_365 (c_X11_treats h84) ⟨rfl, rfl⟩ ⟨Nat.le_of_ble_eq_true rfl, Nat.le_of_ble_eq_true rfl⟩ rfl rfl rfl (As := [.int v1, .int v2, .int v3]) (rest := []) rfl rfl (Nat.le_of_ble_eq_true rfl) dX11_treat_84 ⟨Nat.zero_le _, Nat.zero_le _⟩ (fun H locs hW => ?_)
          show W p l e (rmq 8 185) s m args below meth c H locs 0 0 Q (F0 m 87 ls [.int x84.1])
          obtain rfl := Option.some.inj hf
          rw [hQ]
          exact r_iret C hr hk hW rfl rfl dX11_treat_87
        · have hf := (if_neg c10).symm.trans hf
          refine lv_iconst (v := 0) hx hb dX11_treat_74 (by decide) ?_
          obtain rfl := Option.some.inj hf
          rw [hQ]
          exact r_iret C hr hk hW rfl rfl dX11_treat_75
  have J22 : ∀ (μ : Mm) (H : Heap) (locs : List Loc) (ls : Array Slot), f_X11_treat_J22 μ v1 v2 v3 = some res → Wd D (faM ad) (feM tc ad) A s.heap μ H locs → lv_has ls 4 [(0, .ref (ad 0)), (1, .int v1), (2, .int v2), (3, .int v3)] → W p l e (rmq 8 185) s m args below meth c H locs 0 0 Q (F0 m 22 ls [.ref (ad 0)]) := by
    intro μ H locs ls hf hW hl
    unfold f_X11_treat_J22 at hf
    refine lv_iconst (v := 1) hx hb dX11_treat_22 (by decide) ?_
    refine lv_goto (tgt := 27) hx hb dX11_treat_23 (by decide) ?_
    refine lv_iconst (v := 1) hx hb dX11_treat_27 (by decide) ?_
    obtain ⟨x28, h28, hf⟩ := bd_of hf
    refine r_callV (k := ((0, 0) : Ky)) C hW hl lk_X11_322 (c_X11_throwsIf h28) ⟨rfl, rfl⟩ ⟨Nat.le_of_ble_eq_true rfl, Nat.le_of_ble_eq_true rfl⟩ rfl rfl rfl (As := [.int (1 : Int32), .int (1 : Int32)]) (rest := []) rfl rfl (Nat.le_of_ble_eq_true rfl) dX11_treat_28 ⟨Nat.zero_le _, Nat.zero_le _⟩ (fun H locs hW => ?_)
    show W p l e (rmq 8 185) s m args below meth c H locs 0 0 Q (F0 m 31 ls [.int x28.1])
    refine lv_if_ne (tgt := 74) hx hb dX11_treat_31 (by decide) (fun c14 => ?_) (fun c14 => ?_)
    · have hf := (if_neg c14).symm.trans hf
      refine lv_iconst (v := 0) hx hb dX11_treat_74 (by decide) ?_
      obtain rfl := Option.some.inj hf
      rw [hQ]
      exact r_iret C hr hk hW rfl rfl dX11_treat_75
    · have hf := (if_pos c14).symm.trans hf
      refine lv_aload_n hx hb dX11_treat_34 rfl (lv_at hl 0 rfl) ?_
      refine lv_iload_n hx hb dX11_treat_35 rfl (lv_at hl 1 rfl) ?_
      refine lv_iload_n hx hb dX11_treat_36 rfl (lv_at hl 2 rfl) ?_
      refine lv_icmp_ne (tgt := 44) hx hb dX11_treat_37 (by decide) (fun c15 => ?_) (fun c15 => ?_)
      · have hf := (if_neg c15).symm.trans hf
        refine lv_iconst (v := 0) hx hb dX11_treat_44 (by decide) ?_
        exact J45 x28.2 (0 : Int32) _ _ _ hf hW (lv_sub hl [0, 1, 2, 3] rfl)
      · have hf := (if_pos c15).symm.trans hf
        refine lv_iconst (v := 1) hx hb dX11_treat_40 (by decide) ?_
        refine lv_goto (tgt := 45) hx hb dX11_treat_41 (by decide) ?_
        exact J45 x28.2 (1 : Int32) _ _ _ hf hW (lv_sub hl [0, 1, 2, 3] rfl)
  refine lv_aload_n hx hb dX11_treat_0 rfl (lv_at hl 0 rfl) ?_
  refine lv_iconst (v := 0) hx hb dX11_treat_1 (by decide) ?_
  refine pf_X11_3 C hW dX11_treat_2 (fun H locs hW => ?_)
  refine lv_aload_n hx hb dX11_treat_5 rfl (lv_at hl 0 rfl) ?_
  refine lv_aload_n hx hb dX11_treat_6 rfl (lv_at hl 0 rfl) ?_
  refine lv_iload_n hx hb dX11_treat_7 rfl (lv_at hl 1 rfl) ?_
  obtain ⟨x8, h8, hf⟩ := bd_of hf
  refine r_callV (k := ((0, 0) : Ky)) C hW hl lk_X11_359 (c_X11_noPerson h8) ⟨rfl, rfl⟩ ⟨Nat.le_of_ble_eq_true rfl, Nat.le_of_ble_eq_true rfl⟩ rfl rfl rfl (As := [.int v1]) (rest := [.ref (ad 0)]) rfl rfl (Nat.le_of_ble_eq_true rfl) dX11_treat_8 ⟨Nat.zero_le _, Nat.zero_le _⟩ (fun H locs hW => ?_)
  show W p l e (rmq 8 185) s m args below meth c H locs 0 0 Q (F0 m 11 ls [.int x8, .ref (ad 0)])
  refine lv_if_ne (tgt := 22) hx hb dX11_treat_11 (by decide) (fun c17 => ?_) (fun c17 => ?_)
  · have hf := (if_neg c17).symm.trans hf
    exact J22 (mst μ (0, 0) 0 (0 : Int32)) _ _ _ hf hW (lv_sub hl [0, 1, 2, 3] rfl)
  · have hf := (if_pos c17).symm.trans hf
    refine lv_aload_n hx hb dX11_treat_14 rfl (lv_at hl 0 rfl) ?_
    refine lv_iload_n hx hb dX11_treat_15 rfl (lv_at hl 2 rfl) ?_
    obtain ⟨x16, h16, hf⟩ := bd_of hf
    refine r_callV (k := ((0, 0) : Ky)) C hW hl lk_X11_359 (c_X11_noPerson h16) ⟨rfl, rfl⟩ ⟨Nat.le_of_ble_eq_true rfl, Nat.le_of_ble_eq_true rfl⟩ rfl rfl rfl (As := [.int v2]) (rest := [.ref (ad 0)]) rfl rfl (Nat.le_of_ble_eq_true rfl) dX11_treat_16 ⟨Nat.zero_le _, Nat.zero_le _⟩ (fun H locs hW => ?_)
    show W p l e (rmq 8 185) s m args below meth c H locs 0 0 Q (F0 m 19 ls [.int x16, .ref (ad 0)])
    refine lv_if_eq (tgt := 26) hx hb dX11_treat_19 (by decide) (fun c19 => ?_) (fun c19 => ?_)
    · have hf := (if_pos c19).symm.trans hf
      refine lv_iconst (v := 0) hx hb dX11_treat_26 (by decide) ?_
      refine lv_iconst (v := 1) hx hb dX11_treat_27 (by decide) ?_
      obtain ⟨x28, h28, hf⟩ := bd_of hf
      refine r_callV (k := ((0, 0) : Ky)) C hW hl lk_X11_322 (c_X11_throwsIf h28) ⟨rfl, rfl⟩ ⟨Nat.le_of_ble_eq_true rfl, Nat.le_of_ble_eq_true rfl⟩ rfl rfl rfl (As := [.int (0 : Int32), .int (1 : Int32)]) (rest := []) rfl rfl (Nat.le_of_ble_eq_true rfl) dX11_treat_28 ⟨Nat.zero_le _, Nat.zero_le _⟩ (fun H locs hW => ?_)
      show W p l e (rmq 8 185) s m args below meth c H locs 0 0 Q (F0 m 31 ls [.int x28.1])
      refine lv_if_ne (tgt := 74) hx hb dX11_treat_31 (by decide) (fun c21 => ?_) (fun c21 => ?_)
      · have hf := (if_neg c21).symm.trans hf
        refine lv_iconst (v := 0) hx hb dX11_treat_74 (by decide) ?_
        obtain rfl := Option.some.inj hf
        rw [hQ]
        exact r_iret C hr hk hW rfl rfl dX11_treat_75
      · have hf := (if_pos c21).symm.trans hf
        refine lv_aload_n hx hb dX11_treat_34 rfl (lv_at hl 0 rfl) ?_
        refine lv_iload_n hx hb dX11_treat_35 rfl (lv_at hl 1 rfl) ?_
        refine lv_iload_n hx hb dX11_treat_36 rfl (lv_at hl 2 rfl) ?_
        refine lv_icmp_ne (tgt := 44) hx hb dX11_treat_37 (by decide) (fun c22 => ?_) (fun c22 => ?_)
        · have hf := (if_neg c22).symm.trans hf
          refine lv_iconst (v := 0) hx hb dX11_treat_44 (by decide) ?_
          exact J45 x28.2 (0 : Int32) _ _ _ hf hW (lv_sub hl [0, 1, 2, 3] rfl)
        · have hf := (if_pos c22).symm.trans hf
          refine lv_iconst (v := 1) hx hb dX11_treat_40 (by decide) ?_
          refine lv_goto (tgt := 45) hx hb dX11_treat_41 (by decide) ?_
          exact J45 x28.2 (1 : Int32) _ _ _ hf hW (lv_sub hl [0, 1, 2, 3] rfl)
    · have hf := (if_neg c19).symm.trans hf
      exact J22 (mst μ (0, 0) 0 (0 : Int32)) _ _ _ hf hW (lv_sub hl [0, 1, 2, 3] rfl)
set_option maxHeartbeats 4000000 in
set_option maxRecDepth 100000 in
theorem c_X11_turn {l : Launch} {D : va_G} {tc : Nat → ClassId} {ro : Ro} {ad : Nat → Nat} {μ : Mm} {v1 v2 : Int32} {res : Int32 × Mm} (hf : f_X11_turn μ v1 v2 = some res) : Ct l D tc ro (faM ad) (feM tc ad) yX11_turn cX11_turn 3 (some .int) (rmq 7 160) [.ref (ad 0), .int v1, .int v2] μ (some (.int res.1)) res.2 := by
  refine Ct.of (by decide) (Nat.le_of_ble_eq_true rfl) (fun p e s m args below meth c A C hr hk hW ls hl => ?_)
  have hx := C.1.1
  have hb := C.1.2.1
  obtain ⟨Q, hQ⟩ : ∃ Q, Q = MQ below (Ctq D (faM ad) (feM tc ad) (some (.int res.1)) res.2 A) args s 0 0 A := ⟨_, rfl⟩
  rw [← hQ]
  have hl : lv_has ls 3 [(0, .ref (ad 0)), (1, .int v1), (2, .int v2)] := hl
  unfold f_X11_turn at hf
  have J27 : ∀ (μ : Mm) (s0 : Int32) (H : Heap) (locs : List Loc) (ls : Array Slot), f_X11_turn_J27 μ v1 v2 s0 = some res → Wd D (faM ad) (feM tc ad) A s.heap μ H locs → lv_has ls 3 [(0, .ref (ad 0)), (1, .int v1), (2, .int v2)] → W p l e (rmq 7 160) s m args below meth c H locs 0 0 Q (F0 m 27 ls [.int s0, .ref (ad 0)]) := by
    intro μ s0 H locs ls hf hW hl
    unfold f_X11_turn_J27 at hf
    refine lv_iconst (v := 1) hx hb dX11_turn_27 (by decide) ?_
    obtain ⟨x28, h28, hf⟩ := bd_of hf
    refine r_callV (k := ((0, 0) : Ky)) C hW hl lk_X11_322 (c_X11_throwsIf h28) ⟨rfl, rfl⟩ ⟨Nat.le_of_ble_eq_true rfl, Nat.le_of_ble_eq_true rfl⟩ rfl rfl rfl (As := [.int s0, .int (1 : Int32)]) (rest := []) rfl rfl (Nat.le_of_ble_eq_true rfl) dX11_turn_28 ⟨Nat.zero_le _, Nat.zero_le _⟩ (fun H locs hW => ?_)
    show W p l e (rmq 7 160) s m args below meth c H locs 0 0 Q (F0 m 31 ls [.int x28.1])
    refine lv_if_eq (tgt := 36) hx hb dX11_turn_31 (by decide) (fun c2 => ?_) (fun c2 => ?_)
    · have hf := (if_pos c2).symm.trans hf
      refine lv_aload_n hx hb dX11_turn_36 rfl (lv_at hl 0 rfl) ?_
      obtain ⟨x37, h37, hf⟩ := bd_of hf
      refine r_callV (k := ((0, 0) : Ky)) C hW hl lk_X11_362 (c_X11_remembers h37) ⟨rfl, rfl⟩ ⟨Nat.le_of_ble_eq_true rfl, Nat.le_of_ble_eq_true rfl⟩ rfl rfl rfl (As := []) (rest := []) rfl rfl (Nat.le_of_ble_eq_true rfl) dX11_turn_37 ⟨Nat.zero_le _, Nat.zero_le _⟩ (fun H locs hW => ?_)
      show W p l e (rmq 7 160) s m args below meth c H locs 0 0 Q (F0 m 40 ls [])
      refine lv_aload_n hx hb dX11_turn_40 rfl (lv_at hl 0 rfl) ?_
      refine lv_iload_n hx hb dX11_turn_41 rfl (lv_at hl 1 rfl) ?_
      refine lv_iload_n hx hb dX11_turn_42 rfl (lv_at hl 2 rfl) ?_
      obtain ⟨x43, h43, hf⟩ := bd_of hf
      refine r_callV (k := ((0, 0) : Ky)) C hW hl lk_X11_250 (c_X11_seesFrom h43) ⟨rfl, rfl⟩ ⟨Nat.le_of_ble_eq_true rfl, Nat.le_of_ble_eq_true rfl⟩ rfl rfl rfl (As := [.int v1, .int v2]) (rest := []) rfl rfl (Nat.le_of_ble_eq_true rfl) dX11_turn_43 ⟨Nat.zero_le _, Nat.zero_le _⟩ (fun H locs hW => ?_)
      show W p l e (rmq 7 160) s m args below meth c H locs 0 0 Q (F0 m 46 ls [])
      refine lv_aload_n hx hb dX11_turn_46 rfl (lv_at hl 0 rfl) ?_
      refine lv_iconst (v := 2) hx hb dX11_turn_47 (by decide) ?_
      refine lv_iload_n hx hb dX11_turn_48 rfl (lv_at hl 1 rfl) ?_
      refine lv_iload_n hx hb dX11_turn_49 rfl (lv_at hl 2 rfl) ?_
      refine lv_aload_n hx hb dX11_turn_50 rfl (lv_at hl 0 rfl) ?_
      refine lv_iload_n hx hb dX11_turn_51 rfl (lv_at hl 2 rfl) ?_
      obtain ⟨x52, h52, hf⟩ := bd_of hf
      refine r_callV (k := ((0, 0) : Ky)) C hW hl lk_X11_369 (c_X11_notice h52) ⟨rfl, rfl⟩ ⟨Nat.le_of_ble_eq_true rfl, Nat.le_of_ble_eq_true rfl⟩ rfl rfl rfl (As := [.int v2]) (rest := [.int v2, .int v1, .int (2 : Int32), .ref (ad 0)]) rfl rfl (Nat.le_of_ble_eq_true rfl) dX11_turn_52 ⟨Nat.zero_le _, Nat.zero_le _⟩ (fun H locs hW => ?_)
      show W p l e (rmq 7 160) s m args below meth c H locs 0 0 Q (F0 m 55 ls [.int x52, .int v2, .int v1, .int (2 : Int32), .ref (ad 0)])
      obtain ⟨x55, h55, hf⟩ := bd_of hf
      refine r_callV (k := ((0, 0) : Ky)) C hW hl lk_X11_355 (c_X11_tells h55) ⟨rfl, rfl⟩ ⟨Nat.le_of_ble_eq_true rfl, Nat.le_of_ble_eq_true rfl⟩ rfl rfl rfl (As := [.int (2 : Int32), .int v1, .int v2, .int x52]) (rest := []) rfl rfl (Nat.le_of_ble_eq_true rfl) dX11_turn_55 ⟨Nat.zero_le _, Nat.zero_le _⟩ (fun H locs hW => ?_)
      show W p l e (rmq 7 160) s m args below meth c H locs 0 0 Q (F0 m 58 ls [])
      refine lv_aload_n hx hb dX11_turn_58 rfl (lv_at hl 0 rfl) ?_
      refine lv_iload_n hx hb dX11_turn_59 rfl (lv_at hl 2 rfl) ?_
      obtain ⟨x60, h60, hf⟩ := bd_of hf
      refine r_callV (k := ((0, 0) : Ky)) C hW hl lk_X11_369 (c_X11_notice h60) ⟨rfl, rfl⟩ ⟨Nat.le_of_ble_eq_true rfl, Nat.le_of_ble_eq_true rfl⟩ rfl rfl rfl (As := [.int v2]) (rest := []) rfl rfl (Nat.le_of_ble_eq_true rfl) dX11_turn_60 ⟨Nat.zero_le _, Nat.zero_le _⟩ (fun H locs hW => ?_)
      show W p l e (rmq 7 160) s m args below meth c H locs 0 0 Q (F0 m 63 ls [.int x60])
      obtain rfl := Option.some.inj hf
      rw [hQ]
      exact r_iret C hr hk hW rfl rfl dX11_turn_63
    · have hf := (if_neg c2).symm.trans hf
      refine lv_iconst (v := 0) hx hb dX11_turn_34 (by decide) ?_
      obtain rfl := Option.some.inj hf
      rw [hQ]
      exact r_iret C hr hk hW rfl rfl dX11_turn_35
  refine lv_aload_n hx hb dX11_turn_0 rfl (lv_at hl 0 rfl) ?_
  refine lv_iconst (v := 0) hx hb dX11_turn_1 (by decide) ?_
  refine pf_X11_3 C hW dX11_turn_2 (fun H locs hW => ?_)
  refine lv_aload_n hx hb dX11_turn_5 rfl (lv_at hl 0 rfl) ?_
  refine lv_aload_n hx hb dX11_turn_6 rfl (lv_at hl 0 rfl) ?_
  refine lv_iload_n hx hb dX11_turn_7 rfl (lv_at hl 1 rfl) ?_
  obtain ⟨x8, h8, hf⟩ := bd_of hf
  refine r_callV (k := ((0, 0) : Ky)) C hW hl lk_X11_359 (c_X11_noPerson h8) ⟨rfl, rfl⟩ ⟨Nat.le_of_ble_eq_true rfl, Nat.le_of_ble_eq_true rfl⟩ rfl rfl rfl (As := [.int v1]) (rest := [.ref (ad 0)]) rfl rfl (Nat.le_of_ble_eq_true rfl) dX11_turn_8 ⟨Nat.zero_le _, Nat.zero_le _⟩ (fun H locs hW => ?_)
  show W p l e (rmq 7 160) s m args below meth c H locs 0 0 Q (F0 m 11 ls [.int x8, .ref (ad 0)])
  refine lv_if_ne (tgt := 22) hx hb dX11_turn_11 (by decide) (fun c9 => ?_) (fun c9 => ?_)
  · have hf := (if_neg c9).symm.trans hf
    refine lv_iconst (v := 1) hx hb dX11_turn_22 (by decide) ?_
    refine lv_goto (tgt := 27) hx hb dX11_turn_23 (by decide) ?_
    exact J27 (mst μ (0, 0) 0 (0 : Int32)) (1 : Int32) _ _ _ hf hW (lv_sub hl [0, 1, 2] rfl)
  · have hf := (if_pos c9).symm.trans hf
    refine lv_aload_n hx hb dX11_turn_14 rfl (lv_at hl 0 rfl) ?_
    refine lv_iload_n hx hb dX11_turn_15 rfl (lv_at hl 2 rfl) ?_
    obtain ⟨x16, h16, hf⟩ := bd_of hf
    refine r_callV (k := ((0, 0) : Ky)) C hW hl lk_X11_359 (c_X11_noPerson h16) ⟨rfl, rfl⟩ ⟨Nat.le_of_ble_eq_true rfl, Nat.le_of_ble_eq_true rfl⟩ rfl rfl rfl (As := [.int v2]) (rest := [.ref (ad 0)]) rfl rfl (Nat.le_of_ble_eq_true rfl) dX11_turn_16 ⟨Nat.zero_le _, Nat.zero_le _⟩ (fun H locs hW => ?_)
    show W p l e (rmq 7 160) s m args below meth c H locs 0 0 Q (F0 m 19 ls [.int x16, .ref (ad 0)])
    refine lv_if_eq (tgt := 26) hx hb dX11_turn_19 (by decide) (fun c11 => ?_) (fun c11 => ?_)
    · have hf := (if_pos c11).symm.trans hf
      refine lv_iconst (v := 0) hx hb dX11_turn_26 (by decide) ?_
      exact J27 (mst μ (0, 0) 0 (0 : Int32)) (0 : Int32) _ _ _ hf hW (lv_sub hl [0, 1, 2] rfl)
    · have hf := (if_neg c11).symm.trans hf
      refine lv_iconst (v := 1) hx hb dX11_turn_22 (by decide) ?_
      refine lv_goto (tgt := 27) hx hb dX11_turn_23 (by decide) ?_
      exact J27 (mst μ (0, 0) 0 (0 : Int32)) (1 : Int32) _ _ _ hf hW (lv_sub hl [0, 1, 2] rfl)
set_option maxHeartbeats 4000000 in
set_option maxRecDepth 100000 in
theorem c_X11_ask {l : Launch} {D : va_G} {tc : Nat → ClassId} {ro : Ro} {ad : Nat → Nat} {μ : Mm} {v1 : Int32} {res : Int32 × Mm} (hf : f_X11_ask μ v1 = some res) : Ct l D tc ro (faM ad) (feM tc ad) yX11_ask cX11_ask 3 (some .boolean) (rmq 7 160) [.ref (ad 0), .int v1] μ (some (.int res.1)) res.2 := by
  refine Ct.of (by decide) (Nat.le_of_ble_eq_true rfl) (fun p e s m args below meth c A C hr hk hW ls hl => ?_)
  have hx := C.1.1
  have hb := C.1.2.1
  obtain ⟨Q, hQ⟩ : ∃ Q, Q = MQ below (Ctq D (faM ad) (feM tc ad) (some (.int res.1)) res.2 A) args s 0 0 A := ⟨_, rfl⟩
  rw [← hQ]
  have hl : lv_has ls 3 [(0, .ref (ad 0)), (1, .int v1)] := hl
  unfold f_X11_ask at hf
  have J100 : ∀ (μ : Mm) (s0 : Int32) (H : Heap) (locs : List Loc) (ls : Array Slot), f_X11_ask_J100 μ v1 s0 = some res → Wd D (faM ad) (feM tc ad) A s.heap μ H locs → lv_has ls 3 [(0, .ref (ad 0)), (1, .int v1)] → W p l e (rmq 7 160) s m args below meth c H locs 0 0 Q (F0 m 100 ls [.int s0]) := by
    intro μ s0 H locs ls hf hW hl
    unfold f_X11_ask_J100 at hf
    refine lv_istore_n (lv' := [(2, .int s0), (0, .ref (ad 0)), (1, .int v1)]) hx hb dX11_ask_100 rfl hl (by decide) rfl (fun ls hl => ?_)
    refine lv_aload_n hx hb dX11_ask_101 rfl (lv_at hl 1 rfl) ?_
    obtain ⟨x102, h102, hf⟩ := bd_of hf
    refine r_callV (k := ((0, 0) : Ky)) C hW hl lk_X11_206 (c_X11_drops h102) ⟨rfl, rfl⟩ ⟨Nat.le_of_ble_eq_true rfl, Nat.le_of_ble_eq_true rfl⟩ rfl rfl rfl (As := []) (rest := []) rfl rfl (Nat.le_of_ble_eq_true rfl) dX11_ask_102 ⟨Nat.zero_le _, Nat.zero_le _⟩ (fun H locs hW => ?_)
    show W p l e (rmq 7 160) s m args below meth c H locs 0 0 Q (F0 m 105 ls [])
    refine lv_aload_n hx hb dX11_ask_105 rfl (lv_at hl 1 rfl) ?_
    refine lv_iconst (v := 3) hx hb dX11_ask_106 (by decide) ?_
    refine lv_iload_n hx hb dX11_ask_107 rfl (lv_at hl 2 rfl) ?_
    refine lv_iconst (v := -1) hx hb dX11_ask_108 (by decide) ?_
    refine lv_iload_n hx hb dX11_ask_109 rfl (lv_at hl 0 rfl) ?_
    refine lv_if_eq (tgt := 117) hx hb dX11_ask_110 (by decide) (fun c2 => ?_) (fun c2 => ?_)
    · have hf := (if_pos c2).symm.trans hf
      refine lv_iconst (v := 0) hx hb dX11_ask_117 (by decide) ?_
      obtain ⟨x118, h118, hf⟩ := bd_of hf
      refine r_callV (k := ((0, 0) : Ky)) C hW hl lk_X11_355 (c_X11_tells h118) ⟨rfl, rfl⟩ ⟨Nat.le_of_ble_eq_true rfl, Nat.le_of_ble_eq_true rfl⟩ rfl rfl rfl (As := [.int (3 : Int32), .int v1, .int (-1 : Int32), .int (0 : Int32)]) (rest := []) rfl rfl (Nat.le_of_ble_eq_true rfl) dX11_ask_118 ⟨Nat.zero_le _, Nat.zero_le _⟩ (fun H locs hW => ?_)
      show W p l e (rmq 7 160) s m args below meth c H locs 0 0 Q (F0 m 121 ls [])
      refine lv_iload_n hx hb dX11_ask_121 rfl (lv_at hl 0 rfl) ?_
      obtain ⟨hz4, hf⟩ := cb_of hf
      obtain rfl := Option.some.inj hf
      rw [hQ]
      exact r_zret C hr hk hW hz4 rfl rfl dX11_ask_122
    · have hf := (if_neg c2).symm.trans hf
      refine lv_iconst (v := 1) hx hb dX11_ask_113 (by decide) ?_
      refine lv_goto (tgt := 118) hx hb dX11_ask_114 (by decide) ?_
      obtain ⟨x118, h118, hf⟩ := bd_of hf
      refine r_callV (k := ((0, 0) : Ky)) C hW hl lk_X11_355 (c_X11_tells h118) ⟨rfl, rfl⟩ ⟨Nat.le_of_ble_eq_true rfl, Nat.le_of_ble_eq_true rfl⟩ rfl rfl rfl (As := [.int (3 : Int32), .int v1, .int (-1 : Int32), .int (1 : Int32)]) (rest := []) rfl rfl (Nat.le_of_ble_eq_true rfl) dX11_ask_118 ⟨Nat.zero_le _, Nat.zero_le _⟩ (fun H locs hW => ?_)
      show W p l e (rmq 7 160) s m args below meth c H locs 0 0 Q (F0 m 121 ls [])
      refine lv_iload_n hx hb dX11_ask_121 rfl (lv_at hl 0 rfl) ?_
      obtain ⟨hz6, hf⟩ := cb_of hf
      obtain rfl := Option.some.inj hf
      rw [hQ]
      exact r_zret C hr hk hW hz6 rfl rfl dX11_ask_122
  refine lv_aload_n hx hb dX11_ask_0 rfl (lv_at hl 0 rfl) ?_
  refine lv_iconst (v := 0) hx hb dX11_ask_1 (by decide) ?_
  refine pf_X11_3 C hW dX11_ask_2 (fun H locs hW => ?_)
  refine lv_aload_n hx hb dX11_ask_5 rfl (lv_at hl 0 rfl) ?_
  refine lv_aload_n hx hb dX11_ask_6 rfl (lv_at hl 0 rfl) ?_
  refine lv_iload_n hx hb dX11_ask_7 rfl (lv_at hl 1 rfl) ?_
  obtain ⟨x8, h8, hf⟩ := bd_of hf
  refine r_callV (k := ((0, 0) : Ky)) C hW hl lk_X11_359 (c_X11_noPerson h8) ⟨rfl, rfl⟩ ⟨Nat.le_of_ble_eq_true rfl, Nat.le_of_ble_eq_true rfl⟩ rfl rfl rfl (As := [.int v1]) (rest := [.ref (ad 0)]) rfl rfl (Nat.le_of_ble_eq_true rfl) dX11_ask_8 ⟨Nat.zero_le _, Nat.zero_le _⟩ (fun H locs hW => ?_)
  show W p l e (rmq 7 160) s m args below meth c H locs 0 0 Q (F0 m 11 ls [.int x8, .ref (ad 0)])
  refine lv_iconst (v := 1) hx hb dX11_ask_11 (by decide) ?_
  obtain ⟨x12, h12, hf⟩ := bd_of hf
  refine r_callV (k := ((0, 0) : Ky)) C hW hl lk_X11_322 (c_X11_throwsIf h12) ⟨rfl, rfl⟩ ⟨Nat.le_of_ble_eq_true rfl, Nat.le_of_ble_eq_true rfl⟩ rfl rfl rfl (As := [.int x8, .int (1 : Int32)]) (rest := []) rfl rfl (Nat.le_of_ble_eq_true rfl) dX11_ask_12 ⟨Nat.zero_le _, Nat.zero_le _⟩ (fun H locs hW => ?_)
  show W p l e (rmq 7 160) s m args below meth c H locs 0 0 Q (F0 m 15 ls [.int x12.1])
  refine lv_if_eq (tgt := 20) hx hb dX11_ask_15 (by decide) (fun c9 => ?_) (fun c9 => ?_)
  · have hf := (if_pos c9).symm.trans hf
    refine lv_aload_n hx hb dX11_ask_20 rfl (lv_at hl 0 rfl) ?_
    obtain ⟨x21, h21, hf⟩ := bd_of hf
    refine r_callV (k := ((0, 0) : Ky)) C hW hl lk_X11_362 (c_X11_remembers h21) ⟨rfl, rfl⟩ ⟨Nat.le_of_ble_eq_true rfl, Nat.le_of_ble_eq_true rfl⟩ rfl rfl rfl (As := []) (rest := []) rfl rfl (Nat.le_of_ble_eq_true rfl) dX11_ask_21 ⟨Nat.zero_le _, Nat.zero_le _⟩ (fun H locs hW => ?_)
    show W p l e (rmq 7 160) s m args below meth c H locs 0 0 Q (F0 m 24 ls [])
    refine lv_aload_n hx hb dX11_ask_24 rfl (lv_at hl 0 rfl) ?_
    refine lv_iload_n hx hb dX11_ask_25 rfl (lv_at hl 1 rfl) ?_
    refine lv_iload_n hx hb dX11_ask_26 rfl (lv_at hl 1 rfl) ?_
    obtain ⟨x27, h27, hf⟩ := bd_of hf
    refine r_callV (k := ((0, 0) : Ky)) C hW hl lk_X11_135 (c_X11_lays h27) ⟨rfl, rfl⟩ ⟨Nat.le_of_ble_eq_true rfl, Nat.le_of_ble_eq_true rfl⟩ rfl rfl rfl (As := [.int v1, .int v1]) (rest := []) rfl rfl (Nat.le_of_ble_eq_true rfl) dX11_ask_27 ⟨Nat.zero_le _, Nat.zero_le _⟩ (fun H locs hW => ?_)
    show W p l e (rmq 7 160) s m args below meth c H locs 0 0 Q (F0 m 30 ls [])
    refine lv_iconst (v := 0) hx hb dX11_ask_30 (by decide) ?_
    refine lv_istore_n (lv' := [(2, .int (0 : Int32)), (0, .ref (ad 0)), (1, .int v1)]) hx hb dX11_ask_31 rfl hl (by decide) rfl (fun ls hl => ?_)
    have L32 : ∀ (μ : Mm) (v2 : Int32) (H : Heap) (locs : List Loc) (ls : Array Slot), Wh (fun z : Mm × Int32 => f_X11_ask_L32 v1 z.1 z.2) (μ, v2) = some res → Wd D (faM ad) (feM tc ad) A s.heap μ H locs → lv_has ls 3 [(0, .ref (ad 0)), (1, .int v1), (2, .int v2)] → W p l e (rmq 7 160) s m args below meth c H locs 0 0 Q (F0 m 32 ls []) := by
      intro μ v2 H locs ls hf hW hl
      refine Wh_rule hf (fun z : Mm × Int32 => ∀ (H : Heap) (locs : List Loc) (ls : Array Slot), Wd D (faM ad) (feM tc ad) A s.heap z.1 H locs → lv_has ls 3 [(0, .ref (ad 0)), (1, .int v1), (2, .int z.2)] → W p l e (rmq 7 160) s m args below meth c H locs 0 0 Q (F0 m 32 ls [])) (fun z o1 hf Kl1 Kr1 => ?_) _ _ _ hW hl
      obtain ⟨μ, v2⟩ := z
      intro H locs ls hW hl
      have hf : f_X11_ask_L32 v1 μ v2 = some o1 := hf
      unfold f_X11_ask_L32 at hf
      have hW : Wd D (faM ad) (feM tc ad) A s.heap μ H locs := hW
      have hl : lv_has ls 3 [(0, .ref (ad 0)), (1, .int v1), (2, .int v2)] := hl
      refine lv_iload_n hx hb dX11_ask_32 rfl (lv_at hl 2 rfl) ?_
      refine lv_aload_n hx hb dX11_ask_33 rfl (lv_at hl 0 rfl) ?_
      obtain ⟨x34, h34, hf⟩ := bd_of hf
      refine r_callV (k := ((0, 0) : Ky)) C hW hl lk_X11_115 (c_X11_worlds h34) ⟨rfl, rfl⟩ ⟨Nat.le_of_ble_eq_true rfl, Nat.le_of_ble_eq_true rfl⟩ rfl rfl rfl (As := []) (rest := [.int v2]) rfl rfl (Nat.le_of_ble_eq_true rfl) dX11_ask_34 ⟨Nat.zero_le _, Nat.zero_le _⟩ (fun H locs hW => ?_)
      show W p l e (rmq 7 160) s m args below meth c H locs 0 0 Q (F0 m 37 ls [.int x34, .int v2])
      refine lv_icmp_ge (tgt := 82) hx hb dX11_ask_37 (by decide) (fun c13 => ?_) (fun c13 => ?_)
      · have hf := (if_pos c13).symm.trans hf
        obtain ⟨x9017, hf, hx9017⟩ := map_of hf
        have e9017 := (Kr1 _ hx9017.symm).symm
        subst e9017
        refine lv_aload_n hx hb dX11_ask_82 rfl (lv_at hl 0 rfl) ?_
        refine gf_X11_33 C hW dX11_ask_83 ?_
        refine lv_aload_n hx hb dX11_ask_86 rfl (lv_at hl 0 rfl) ?_
        obtain ⟨x87, h87, hf⟩ := bd_of hf
        refine r_callV (k := ((0, 0) : Ky)) C hW hl lk_X11_121 (c_X11_here h87) ⟨rfl, rfl⟩ ⟨Nat.le_of_ble_eq_true rfl, Nat.le_of_ble_eq_true rfl⟩ rfl rfl rfl (As := []) (rest := [.ref (ad 9)]) rfl rfl (Nat.le_of_ble_eq_true rfl) dX11_ask_87 ⟨Nat.zero_le _, Nat.zero_le _⟩ (fun H locs hW => ?_)
        show W p l e (rmq 7 160) s m args below meth c H locs 0 0 Q (F0 m 90 ls [.int x87, .ref (ad 9)])
        obtain ⟨hi15, hf⟩ := ck_of hf
        refine r_iald (k := ((9, 0) : Ky)) (n := 512) C hW rfl rfl hi15 dX11_ask_90 ?_
        refine lv_iconst (v := 1) hx hb dX11_ask_91 (by decide) ?_
        refine lv_icmp_ne (tgt := 99) hx hb dX11_ask_92 (by decide) (fun c16 => ?_) (fun c16 => ?_)
        · have hf := (if_neg c16).symm.trans hf
          refine lv_iconst (v := 0) hx hb dX11_ask_99 (by decide) ?_
          exact J100 μ (0 : Int32) _ _ _ hf hW (lv_sub hl [0, 1] rfl)
        · have hf := (if_pos c16).symm.trans hf
          refine lv_iconst (v := 1) hx hb dX11_ask_95 (by decide) ?_
          refine lv_goto (tgt := 100) hx hb dX11_ask_96 (by decide) ?_
          exact J100 μ (1 : Int32) _ _ _ hf hW (lv_sub hl [0, 1] rfl)
      · have hf := (if_neg c13).symm.trans hf
        refine lv_aload_n hx hb dX11_ask_40 rfl (lv_at hl 0 rfl) ?_
        refine gf_X11_33 C hW dX11_ask_41 ?_
        refine lv_iload_n hx hb dX11_ask_44 rfl (lv_at hl 2 rfl) ?_
        refine lv_aload_n hx hb dX11_ask_45 rfl (lv_at hl 0 rfl) ?_
        refine lv_iload_n hx hb dX11_ask_46 rfl (lv_at hl 2 rfl) ?_
        obtain ⟨x47, h47, hf⟩ := bd_of hf
        refine r_callV (k := ((0, 0) : Ky)) C hW hl lk_X11_128 (c_X11_isLeft h47) ⟨rfl, rfl⟩ ⟨Nat.le_of_ble_eq_true rfl, Nat.le_of_ble_eq_true rfl⟩ rfl rfl rfl (As := [.int v2]) (rest := [.int v2, .ref (ad 9)]) rfl rfl (Nat.le_of_ble_eq_true rfl) dX11_ask_47 ⟨Nat.zero_le _, Nat.zero_le _⟩ (fun H locs hW => ?_)
        show W p l e (rmq 7 160) s m args below meth c H locs 0 0 Q (F0 m 50 ls [.int x47, .int v2, .ref (ad 9)])
        refine lv_if_eq (tgt := 74) hx hb dX11_ask_50 (by decide) (fun c19 => ?_) (fun c19 => ?_)
        · have hf := (if_pos c19).symm.trans hf
          refine lv_iconst (v := 0) hx hb dX11_ask_74 (by decide) ?_
          obtain ⟨hi20, hf⟩ := ck_of hf
          refine r_iast (k := ((9, 0) : Ky)) (n := 512) C hW rfl (fun _ => rfl) hi20 dX11_ask_75 (fun H locs hW => ?_)
          refine lv_iinc (v := (v2 + (1 : Int32))) (lv' := [(2, .int (v2 + (1 : Int32))), (0, .ref (ad 0)), (1, .int v1)]) hx hb dX11_ask_76 hl (k := 2) rfl rfl (by decide) rfl (fun ls hl => ?_)
          refine lv_goto (tgt := 32) hx hb dX11_ask_79 (by decide) ?_
          obtain rfl := Option.some.inj hf
          exact Kl1 _ rfl _ _ _ hW (lv_sub hl [1, 2, 0] rfl)
        · have hf := (if_neg c19).symm.trans hf
          refine lv_aload_n hx hb dX11_ask_53 rfl (lv_at hl 0 rfl) ?_
          refine gf_X11_30 C hW dX11_ask_54 ?_
          refine lv_aload_n hx hb dX11_ask_57 rfl (lv_at hl 0 rfl) ?_
          refine lv_iload_n hx hb dX11_ask_58 rfl (lv_at hl 1 rfl) ?_
          refine lv_iload_n hx hb dX11_ask_59 rfl (lv_at hl 2 rfl) ?_
          obtain ⟨x60, h60, hf⟩ := bd_of hf
          refine r_callV (k := ((0, 0) : Ky)) C hW hl lk_X11_132 (c_X11_label h60) ⟨rfl, rfl⟩ ⟨Nat.le_of_ble_eq_true rfl, Nat.le_of_ble_eq_true rfl⟩ rfl rfl rfl (As := [.int v1, .int v2]) (rest := [.ref (ad 8), .int v2, .ref (ad 9)]) rfl rfl (Nat.le_of_ble_eq_true rfl) dX11_ask_60 ⟨Nat.zero_le _, Nat.zero_le _⟩ (fun H locs hW => ?_)
          show W p l e (rmq 7 160) s m args below meth c H locs 0 0 Q (F0 m 63 ls [.int x60, .ref (ad 8), .int v2, .ref (ad 9)])
          obtain ⟨hi22, hf⟩ := ck_of hf
          refine r_iald (k := ((8, 0) : Ky)) (n := 512) C hW rfl rfl hi22 dX11_ask_63 ?_
          obtain ⟨x64, h64, hf⟩ := bd_of hf
          refine r_callS C hW hl lk_X11_143 (c_X11_isOne h64) ⟨rfl, rfl⟩ ⟨Nat.le_of_ble_eq_true rfl, Nat.le_of_ble_eq_true rfl⟩ (As := [.int (μ (8, 0) x60.toNatClampNeg)]) (rest := [.int v2, .ref (ad 9)]) rfl rfl (Nat.le_of_ble_eq_true rfl) dX11_ask_64 ⟨Nat.zero_le _, Nat.zero_le _⟩ (fun H locs hW => ?_)
          show W p l e (rmq 7 160) s m args below meth c H locs 0 0 Q (F0 m 67 ls [.int x64, .int v2, .ref (ad 9)])
          refine lv_if_eq (tgt := 74) hx hb dX11_ask_67 (by decide) (fun c24 => ?_) (fun c24 => ?_)
          · have hf := (if_pos c24).symm.trans hf
            refine lv_iconst (v := 0) hx hb dX11_ask_74 (by decide) ?_
            obtain ⟨hi25, hf⟩ := ck_of hf
            refine r_iast (k := ((9, 0) : Ky)) (n := 512) C hW rfl (fun _ => rfl) hi25 dX11_ask_75 (fun H locs hW => ?_)
            refine lv_iinc (v := (v2 + (1 : Int32))) (lv' := [(2, .int (v2 + (1 : Int32))), (0, .ref (ad 0)), (1, .int v1)]) hx hb dX11_ask_76 hl (k := 2) rfl rfl (by decide) rfl (fun ls hl => ?_)
            refine lv_goto (tgt := 32) hx hb dX11_ask_79 (by decide) ?_
            obtain rfl := Option.some.inj hf
            exact Kl1 _ rfl _ _ _ hW (lv_sub hl [1, 2, 0] rfl)
          · have hf := (if_neg c24).symm.trans hf
            refine lv_iconst (v := 1) hx hb dX11_ask_70 (by decide) ?_
            refine lv_goto (tgt := 75) hx hb dX11_ask_71 (by decide) ?_
            obtain ⟨hi26, hf⟩ := ck_of hf
            refine r_iast (k := ((9, 0) : Ky)) (n := 512) C hW rfl (fun _ => rfl) hi26 dX11_ask_75 (fun H locs hW => ?_)
            refine lv_iinc (v := (v2 + (1 : Int32))) (lv' := [(2, .int (v2 + (1 : Int32))), (0, .ref (ad 0)), (1, .int v1)]) hx hb dX11_ask_76 hl (k := 2) rfl rfl (by decide) rfl (fun ls hl => ?_)
            refine lv_goto (tgt := 32) hx hb dX11_ask_79 (by decide) ?_
            obtain rfl := Option.some.inj hf
            exact Kl1 _ rfl _ _ _ hW (lv_sub hl [1, 2, 0] rfl)
    exact L32 x27 (0 : Int32) _ _ _ hf hW (lv_sub hl [1, 2, 0] rfl)
  · have hf := (if_neg c9).symm.trans hf
    refine lv_iconst (v := 0) hx hb dX11_ask_18 (by decide) ?_
    obtain rfl := Option.some.inj hf
    rw [hQ]
    exact r_zret C hr hk hW (Or.inl rfl) rfl rfl dX11_ask_19
set_option maxHeartbeats 4000000 in
set_option maxRecDepth 100000 in
theorem c_X11_says {l : Launch} {D : va_G} {tc : Nat → ClassId} {ro : Ro} {ad : Nat → Nat} {μ : Mm} {res : Int32 × Mm} (hf : f_X11_says μ = some res) : Ct l D tc ro (faM ad) (feM tc ad) yX11_says cX11_says 3 (some .int) (rmq 3 67) [.ref (ad 0)] μ (some (.int res.1)) res.2 := by
  refine Ct.of (by decide) (Nat.le_of_ble_eq_true rfl) (fun p e s m args below meth c A C hr hk hW ls hl => ?_)
  have hx := C.1.1
  have hb := C.1.2.1
  obtain ⟨Q, hQ⟩ : ∃ Q, Q = MQ below (Ctq D (faM ad) (feM tc ad) (some (.int res.1)) res.2 A) args s 0 0 A := ⟨_, rfl⟩
  rw [← hQ]
  have hl : lv_has ls 3 [(0, .ref (ad 0))] := hl
  unfold f_X11_says at hf
  refine lv_iconst (v := 0) hx hb dX11_says_0 (by decide) ?_
  refine lv_istore_n (lv' := [(1, .int (0 : Int32)), (0, .ref (ad 0))]) hx hb dX11_says_1 rfl hl (by decide) rfl (fun ls hl => ?_)
  have L2 : ∀ (μ : Mm) (v1 : Int32) (H : Heap) (locs : List Loc) (ls : Array Slot), Wh (fun z : Mm × Int32 => f_X11_says_L2 z.1 z.2) (μ, v1) = some res → Wd D (faM ad) (feM tc ad) A s.heap μ H locs → lv_has ls 3 [(0, .ref (ad 0)), (1, .int v1)] → W p l e (rmq 3 67) s m args below meth c H locs 0 0 Q (F0 m 2 ls []) := by
    intro μ v1 H locs ls hf hW hl
    refine Wh_rule hf (fun z : Mm × Int32 => ∀ (H : Heap) (locs : List Loc) (ls : Array Slot), Wd D (faM ad) (feM tc ad) A s.heap z.1 H locs → lv_has ls 3 [(0, .ref (ad 0)), (1, .int z.2)] → W p l e (rmq 3 67) s m args below meth c H locs 0 0 Q (F0 m 2 ls [])) (fun z o1 hf Kl1 Kr1 => ?_) _ _ _ hW hl
    obtain ⟨μ, v1⟩ := z
    intro H locs ls hW hl
    have hf : f_X11_says_L2 μ v1 = some o1 := hf
    unfold f_X11_says_L2 at hf
    have hW : Wd D (faM ad) (feM tc ad) A s.heap μ H locs := hW
    have hl : lv_has ls 3 [(0, .ref (ad 0)), (1, .int v1)] := hl
    refine lv_iload_n hx hb dX11_says_2 rfl (lv_at hl 1 rfl) ?_
    refine lv_aload_n hx hb dX11_says_3 rfl (lv_at hl 0 rfl) ?_
    obtain ⟨x4, h4, hf⟩ := bd_of hf
    refine r_callV (k := ((0, 0) : Ky)) C hW hl lk_X11_115 (c_X11_worlds h4) ⟨rfl, rfl⟩ ⟨Nat.le_of_ble_eq_true rfl, Nat.le_of_ble_eq_true rfl⟩ rfl rfl rfl (As := []) (rest := [.int v1]) rfl rfl (Nat.le_of_ble_eq_true rfl) dX11_says_4 ⟨Nat.zero_le _, Nat.zero_le _⟩ (fun H locs hW => ?_)
    show W p l e (rmq 3 67) s m args below meth c H locs 0 0 Q (F0 m 7 ls [.int x4, .int v1])
    refine lv_icmp_ge (tgt := 23) hx hb dX11_says_7 (by decide) (fun c2 => ?_) (fun c2 => ?_)
    · have hf := (if_pos c2).symm.trans hf
      obtain ⟨x9023, hf, hx9023⟩ := map_of hf
      have e9023 := (Kr1 _ hx9023.symm).symm
      subst e9023
      refine lv_iconst (v := 0) hx hb dX11_says_23 (by decide) ?_
      refine lv_istore_n (lv' := [(1, .int (0 : Int32)), (0, .ref (ad 0))]) hx hb dX11_says_24 rfl hl (by decide) rfl (fun ls hl => ?_)
      have L25 : ∀ (μ : Mm) (v1 : Int32) (H : Heap) (locs : List Loc) (ls : Array Slot), Wh (fun z : Mm × Int32 => f_X11_says_L25 z.1 z.2) (μ, v1) = some res → Wd D (faM ad) (feM tc ad) A s.heap μ H locs → lv_has ls 3 [(0, .ref (ad 0)), (1, .int v1)] → W p l e (rmq 3 67) s m args below meth c H locs 0 0 Q (F0 m 25 ls []) := by
        intro μ v1 H locs ls hf hW hl
        refine Wh_rule hf (fun z : Mm × Int32 => ∀ (H : Heap) (locs : List Loc) (ls : Array Slot), Wd D (faM ad) (feM tc ad) A s.heap z.1 H locs → lv_has ls 3 [(0, .ref (ad 0)), (1, .int z.2)] → W p l e (rmq 3 67) s m args below meth c H locs 0 0 Q (F0 m 25 ls [])) (fun z o1 hf Kl1 Kr1 => ?_) _ _ _ hW hl
        obtain ⟨μ, v1⟩ := z
        intro H locs ls hW hl
        have hf : f_X11_says_L25 μ v1 = some o1 := hf
        unfold f_X11_says_L25 at hf
        have hW : Wd D (faM ad) (feM tc ad) A s.heap μ H locs := hW
        have hl : lv_has ls 3 [(0, .ref (ad 0)), (1, .int v1)] := hl
        refine lv_iload_n hx hb dX11_says_25 rfl (lv_at hl 1 rfl) ?_
        refine lv_aload_n hx hb dX11_says_26 rfl (lv_at hl 0 rfl) ?_
        obtain ⟨x27, h27, hf⟩ := bd_of hf
        refine r_callV (k := ((0, 0) : Ky)) C hW hl lk_X11_107 (c_X11_people h27) ⟨rfl, rfl⟩ ⟨Nat.le_of_ble_eq_true rfl, Nat.le_of_ble_eq_true rfl⟩ rfl rfl rfl (As := []) (rest := [.int v1]) rfl rfl (Nat.le_of_ble_eq_true rfl) dX11_says_27 ⟨Nat.zero_le _, Nat.zero_le _⟩ (fun H locs hW => ?_)
        show W p l e (rmq 3 67) s m args below meth c H locs 0 0 Q (F0 m 30 ls [.int x27, .int v1])
        refine lv_icmp_ge (tgt := 102) hx hb dX11_says_30 (by decide) (fun c4 => ?_) (fun c4 => ?_)
        · have hf := (if_pos c4).symm.trans hf
          obtain ⟨x9008, hf, hx9008⟩ := map_of hf
          have e9008 := (Kr1 _ hx9008.symm).symm
          subst e9008
          refine lv_aload_n hx hb dX11_says_102 rfl (lv_at hl 0 rfl) ?_
          refine gf_X11_33 C hW dX11_says_103 ?_
          refine lv_aload_n hx hb dX11_says_106 rfl (lv_at hl 0 rfl) ?_
          obtain ⟨x107, h107, hf⟩ := bd_of hf
          refine r_callV (k := ((0, 0) : Ky)) C hW hl lk_X11_121 (c_X11_here h107) ⟨rfl, rfl⟩ ⟨Nat.le_of_ble_eq_true rfl, Nat.le_of_ble_eq_true rfl⟩ rfl rfl rfl (As := []) (rest := [.ref (ad 9)]) rfl rfl (Nat.le_of_ble_eq_true rfl) dX11_says_107 ⟨Nat.zero_le _, Nat.zero_le _⟩ (fun H locs hW => ?_)
          show W p l e (rmq 3 67) s m args below meth c H locs 0 0 Q (F0 m 110 ls [.int x107, .ref (ad 9)])
          obtain ⟨hi6, hf⟩ := ck_of hf
          refine r_iald (k := ((9, 0) : Ky)) (n := 512) C hW rfl rfl hi6 dX11_says_110 ?_
          refine lv_istore_n (lv' := [(1, .int (μ (9, 0) x107.toNatClampNeg)), (0, .ref (ad 0))]) hx hb dX11_says_111 rfl hl (by decide) rfl (fun ls hl => ?_)
          refine lv_aload_n hx hb dX11_says_112 rfl (lv_at hl 1 rfl) ?_
          obtain ⟨x113, h113, hf⟩ := bd_of hf
          refine r_callV (k := ((0, 0) : Ky)) C hW hl lk_X11_206 (c_X11_drops h113) ⟨rfl, rfl⟩ ⟨Nat.le_of_ble_eq_true rfl, Nat.le_of_ble_eq_true rfl⟩ rfl rfl rfl (As := []) (rest := []) rfl rfl (Nat.le_of_ble_eq_true rfl) dX11_says_113 ⟨Nat.zero_le _, Nat.zero_le _⟩ (fun H locs hW => ?_)
          show W p l e (rmq 3 67) s m args below meth c H locs 0 0 Q (F0 m 116 ls [])
          refine lv_iload_n hx hb dX11_says_116 rfl (lv_at hl 0 rfl) ?_
          obtain rfl := Option.some.inj hf
          rw [hQ]
          exact r_iret C hr hk hW rfl rfl dX11_says_117
        · have hf := (if_neg c4).symm.trans hf
          refine lv_aload_n hx hb dX11_says_33 rfl (lv_at hl 0 rfl) ?_
          refine lv_iload_n hx hb dX11_says_34 rfl (lv_at hl 1 rfl) ?_
          refine lv_iload_n hx hb dX11_says_35 rfl (lv_at hl 1 rfl) ?_
          obtain ⟨x36, h36, hf⟩ := bd_of hf
          refine r_callV (k := ((0, 0) : Ky)) C hW hl lk_X11_135 (c_X11_lays h36) ⟨rfl, rfl⟩ ⟨Nat.le_of_ble_eq_true rfl, Nat.le_of_ble_eq_true rfl⟩ rfl rfl rfl (As := [.int v1, .int v1]) (rest := []) rfl rfl (Nat.le_of_ble_eq_true rfl) dX11_says_36 ⟨Nat.zero_le _, Nat.zero_le _⟩ (fun H locs hW => ?_)
          show W p l e (rmq 3 67) s m args below meth c H locs 0 0 Q (F0 m 39 ls [])
          refine lv_iconst (v := 0) hx hb dX11_says_39 (by decide) ?_
          refine lv_istore_n (lv' := [(2, .int (0 : Int32)), (0, .ref (ad 0)), (1, .int v1)]) hx hb dX11_says_40 rfl hl (by decide) rfl (fun ls hl => ?_)
          have L41 : ∀ (μ : Mm) (v1 v2 : Int32) (H : Heap) (locs : List Loc) (ls : Array Slot), Wh (fun z : Mm × Int32 => f_X11_says_L41 v1 z.1 z.2) (μ, v2) = some o1 → Wd D (faM ad) (feM tc ad) A s.heap μ H locs → lv_has ls 3 [(0, .ref (ad 0)), (1, .int v1), (2, .int v2)] → W p l e (rmq 3 67) s m args below meth c H locs 0 0 Q (F0 m 41 ls []) := by
            intro μ v1 v2 H locs ls hf hW hl
            refine Wh_rule hf (fun z : Mm × Int32 => ∀ (H : Heap) (locs : List Loc) (ls : Array Slot), Wd D (faM ad) (feM tc ad) A s.heap z.1 H locs → lv_has ls 3 [(0, .ref (ad 0)), (1, .int v1), (2, .int z.2)] → W p l e (rmq 3 67) s m args below meth c H locs 0 0 Q (F0 m 41 ls [])) (fun z o2 hf Kl2 Kr2 => ?_) _ _ _ hW hl
            obtain ⟨μ, v2⟩ := z
            intro H locs ls hW hl
            have hf : f_X11_says_L41 v1 μ v2 = some o2 := hf
            unfold f_X11_says_L41 at hf
            have hW : Wd D (faM ad) (feM tc ad) A s.heap μ H locs := hW
            have hl : lv_has ls 3 [(0, .ref (ad 0)), (1, .int v1), (2, .int v2)] := hl
            refine lv_iload_n hx hb dX11_says_41 rfl (lv_at hl 2 rfl) ?_
            refine lv_aload_n hx hb dX11_says_42 rfl (lv_at hl 0 rfl) ?_
            obtain ⟨x43, h43, hf⟩ := bd_of hf
            refine r_callV (k := ((0, 0) : Ky)) C hW hl lk_X11_115 (c_X11_worlds h43) ⟨rfl, rfl⟩ ⟨Nat.le_of_ble_eq_true rfl, Nat.le_of_ble_eq_true rfl⟩ rfl rfl rfl (As := []) (rest := [.int v2]) rfl rfl (Nat.le_of_ble_eq_true rfl) dX11_says_43 ⟨Nat.zero_le _, Nat.zero_le _⟩ (fun H locs hW => ?_)
            show W p l e (rmq 3 67) s m args below meth c H locs 0 0 Q (F0 m 46 ls [.int x43, .int v2])
            refine lv_icmp_ge (tgt := 96) hx hb dX11_says_46 (by decide) (fun c11 => ?_) (fun c11 => ?_)
            · have hf := (if_pos c11).symm.trans hf
              obtain ⟨x9012, hf, hx9012⟩ := map_of hf
              have e9012 := (Kr2 _ hx9012.symm).symm
              subst e9012
              refine lv_iinc (v := (v1 + (1 : Int32))) (lv' := [(1, .int (v1 + (1 : Int32))), (0, .ref (ad 0)), (2, .int v2)]) hx hb dX11_says_96 hl (k := 1) rfl rfl (by decide) rfl (fun ls hl => ?_)
              refine lv_goto (tgt := 25) hx hb dX11_says_99 (by decide) ?_
              obtain rfl := Option.some.inj hf
              exact Kl1 _ rfl _ _ _ hW (lv_sub hl [1, 0] rfl)
            · have hf := (if_neg c11).symm.trans hf
              refine lv_aload_n hx hb dX11_says_49 rfl (lv_at hl 0 rfl) ?_
              refine gf_X11_33 C hW dX11_says_50 ?_
              refine lv_iload_n hx hb dX11_says_53 rfl (lv_at hl 2 rfl) ?_
              refine lv_dup2_11 hx hb dX11_says_54 rfl rfl ?_
              obtain ⟨hi13, hf⟩ := ck_of hf
              refine r_iald (k := ((9, 0) : Ky)) (n := 512) C hW rfl rfl hi13 dX11_says_55 ?_
              refine lv_aload_n hx hb dX11_says_56 rfl (lv_at hl 0 rfl) ?_
              refine lv_iload_n hx hb dX11_says_57 rfl (lv_at hl 2 rfl) ?_
              obtain ⟨x58, h58, hf⟩ := bd_of hf
              refine r_callV (k := ((0, 0) : Ky)) C hW hl lk_X11_128 (c_X11_isLeft h58) ⟨rfl, rfl⟩ ⟨Nat.le_of_ble_eq_true rfl, Nat.le_of_ble_eq_true rfl⟩ rfl rfl rfl (As := [.int v2]) (rest := [.int (μ (9, 0) v2.toNatClampNeg), .int v2, .ref (ad 9)]) rfl rfl (Nat.le_of_ble_eq_true rfl) dX11_says_58 ⟨Nat.zero_le _, Nat.zero_le _⟩ (fun H locs hW => ?_)
              show W p l e (rmq 3 67) s m args below meth c H locs 0 0 Q (F0 m 61 ls [.int x58, .int (μ (9, 0) v2.toNatClampNeg), .int v2, .ref (ad 9)])
              refine lv_if_eq (tgt := 87) hx hb dX11_says_61 (by decide) (fun c15 => ?_) (fun c15 => ?_)
              · have hf := (if_pos c15).symm.trans hf
                refine lv_iconst (v := 0) hx hb dX11_says_87 (by decide) ?_
                refine lv_ior hx hb dX11_says_88 ?_
                obtain ⟨hi16, hf⟩ := ck_of hf
                refine r_iast (k := ((9, 0) : Ky)) (n := 512) C hW rfl (fun _ => rfl) hi16 dX11_says_89 (fun H locs hW => ?_)
                refine lv_iinc (v := (v2 + (1 : Int32))) (lv' := [(2, .int (v2 + (1 : Int32))), (0, .ref (ad 0)), (1, .int v1)]) hx hb dX11_says_90 hl (k := 2) rfl rfl (by decide) rfl (fun ls hl => ?_)
                refine lv_goto (tgt := 41) hx hb dX11_says_93 (by decide) ?_
                obtain rfl := Option.some.inj hf
                exact Kl2 _ rfl _ _ _ hW (lv_sub hl [1, 2, 0] rfl)
              · have hf := (if_neg c15).symm.trans hf
                refine lv_aload_n hx hb dX11_says_64 rfl (lv_at hl 0 rfl) ?_
                refine gf_X11_30 C hW dX11_says_65 ?_
                refine lv_aload_n hx hb dX11_says_68 rfl (lv_at hl 0 rfl) ?_
                refine lv_iload_n hx hb dX11_says_69 rfl (lv_at hl 1 rfl) ?_
                refine lv_iload_n hx hb dX11_says_70 rfl (lv_at hl 2 rfl) ?_
                obtain ⟨x71, h71, hf⟩ := bd_of hf
                refine r_callV (k := ((0, 0) : Ky)) C hW hl lk_X11_132 (c_X11_label h71) ⟨rfl, rfl⟩ ⟨Nat.le_of_ble_eq_true rfl, Nat.le_of_ble_eq_true rfl⟩ rfl rfl rfl (As := [.int v1, .int v2]) (rest := [.ref (ad 8), .int (μ (9, 0) v2.toNatClampNeg), .int v2, .ref (ad 9)]) rfl rfl (Nat.le_of_ble_eq_true rfl) dX11_says_71 ⟨Nat.zero_le _, Nat.zero_le _⟩ (fun H locs hW => ?_)
                show W p l e (rmq 3 67) s m args below meth c H locs 0 0 Q (F0 m 74 ls [.int x71, .ref (ad 8), .int (μ (9, 0) v2.toNatClampNeg), .int v2, .ref (ad 9)])
                obtain ⟨hi18, hf⟩ := ck_of hf
                refine r_iald (k := ((8, 0) : Ky)) (n := 512) C hW rfl rfl hi18 dX11_says_74 ?_
                obtain ⟨x75, h75, hf⟩ := bd_of hf
                refine r_callS C hW hl lk_X11_143 (c_X11_isOne h75) ⟨rfl, rfl⟩ ⟨Nat.le_of_ble_eq_true rfl, Nat.le_of_ble_eq_true rfl⟩ (As := [.int (μ (8, 0) x71.toNatClampNeg)]) (rest := [.int (μ (9, 0) v2.toNatClampNeg), .int v2, .ref (ad 9)]) rfl rfl (Nat.le_of_ble_eq_true rfl) dX11_says_75 ⟨Nat.zero_le _, Nat.zero_le _⟩ (fun H locs hW => ?_)
                show W p l e (rmq 3 67) s m args below meth c H locs 0 0 Q (F0 m 78 ls [.int x75, .int (μ (9, 0) v2.toNatClampNeg), .int v2, .ref (ad 9)])
                refine lv_if_eq (tgt := 87) hx hb dX11_says_78 (by decide) (fun c20 => ?_) (fun c20 => ?_)
                · have hf := (if_pos c20).symm.trans hf
                  refine lv_iconst (v := 0) hx hb dX11_says_87 (by decide) ?_
                  refine lv_ior hx hb dX11_says_88 ?_
                  obtain ⟨hi21, hf⟩ := ck_of hf
                  refine r_iast (k := ((9, 0) : Ky)) (n := 512) C hW rfl (fun _ => rfl) hi21 dX11_says_89 (fun H locs hW => ?_)
                  refine lv_iinc (v := (v2 + (1 : Int32))) (lv' := [(2, .int (v2 + (1 : Int32))), (0, .ref (ad 0)), (1, .int v1)]) hx hb dX11_says_90 hl (k := 2) rfl rfl (by decide) rfl (fun ls hl => ?_)
                  refine lv_goto (tgt := 41) hx hb dX11_says_93 (by decide) ?_
                  obtain rfl := Option.some.inj hf
                  exact Kl2 _ rfl _ _ _ hW (lv_sub hl [1, 2, 0] rfl)
                · have hf := (if_neg c20).symm.trans hf
                  refine lv_iconst (v := 1) hx hb dX11_says_81 (by decide) ?_
                  refine lv_iload_n hx hb dX11_says_82 rfl (lv_at hl 1 rfl) ?_
                  refine lv_ishl hx hb dX11_says_83 ?_
                  refine lv_goto (tgt := 88) hx hb dX11_says_84 (by decide) ?_
                  refine lv_ior hx hb dX11_says_88 ?_
                  obtain ⟨hi22, hf⟩ := ck_of hf
                  refine r_iast (k := ((9, 0) : Ky)) (n := 512) C hW rfl (fun _ => rfl) hi22 dX11_says_89 (fun H locs hW => ?_)
                  refine lv_iinc (v := (v2 + (1 : Int32))) (lv' := [(2, .int (v2 + (1 : Int32))), (0, .ref (ad 0)), (1, .int v1)]) hx hb dX11_says_90 hl (k := 2) rfl rfl (by decide) rfl (fun ls hl => ?_)
                  refine lv_goto (tgt := 41) hx hb dX11_says_93 (by decide) ?_
                  obtain rfl := Option.some.inj hf
                  exact Kl2 _ rfl _ _ _ hW (lv_sub hl [1, 2, 0] rfl)
          exact L41 x36 v1 (0 : Int32) _ _ _ hf hW (lv_sub hl [1, 2, 0] rfl)
      exact L25 μ (0 : Int32) _ _ _ hf hW (lv_sub hl [1, 0] rfl)
    · have hf := (if_neg c2).symm.trans hf
      refine lv_aload_n hx hb dX11_says_10 rfl (lv_at hl 0 rfl) ?_
      refine gf_X11_33 C hW dX11_says_11 ?_
      refine lv_iload_n hx hb dX11_says_14 rfl (lv_at hl 1 rfl) ?_
      refine lv_iconst (v := 0) hx hb dX11_says_15 (by decide) ?_
      obtain ⟨hi24, hf⟩ := ck_of hf
      refine r_iast (k := ((9, 0) : Ky)) (n := 512) C hW rfl (fun _ => rfl) hi24 dX11_says_16 (fun H locs hW => ?_)
      refine lv_iinc (v := (v1 + (1 : Int32))) (lv' := [(1, .int (v1 + (1 : Int32))), (0, .ref (ad 0))]) hx hb dX11_says_17 hl (k := 1) rfl rfl (by decide) rfl (fun ls hl => ?_)
      refine lv_goto (tgt := 2) hx hb dX11_says_20 (by decide) ?_
      obtain rfl := Option.some.inj hf
      exact Kl1 _ rfl _ _ _ hW (lv_sub hl [1, 0] rfl)
  exact L2 μ (0 : Int32) _ _ _ hf hW (lv_sub hl [1, 0] rfl)
set_option maxHeartbeats 4000000 in
set_option maxRecDepth 100000 in
theorem c_X11_day {l : Launch} {D : va_G} {tc : Nat → ClassId} {ro : Ro} {ad : Nat → Nat} {μ : Mm} {res : Int32 × Mm} (hf : f_X11_day μ = some res) : Ct l D tc ro (faM ad) (feM tc ad) yX11_day cX11_day 2 (some .int) (rmq 7 160) [.ref (ad 0)] μ (some (.int res.1)) res.2 := by
  refine Ct.of (by decide) (Nat.le_of_ble_eq_true rfl) (fun p e s m args below meth c A C hr hk hW ls hl => ?_)
  have hx := C.1.1
  have hb := C.1.2.1
  obtain ⟨Q, hQ⟩ : ∃ Q, Q = MQ below (Ctq D (faM ad) (feM tc ad) (some (.int res.1)) res.2 A) args s 0 0 A := ⟨_, rfl⟩
  rw [← hQ]
  have hl : lv_has ls 2 [(0, .ref (ad 0))] := hl
  unfold f_X11_day at hf
  refine lv_aload_n hx hb dX11_day_0 rfl (lv_at hl 0 rfl) ?_
  refine lv_iconst (v := 0) hx hb dX11_day_1 (by decide) ?_
  refine pf_X11_3 C hW dX11_day_2 (fun H locs hW => ?_)
  refine lv_aload_n hx hb dX11_day_5 rfl (lv_at hl 0 rfl) ?_
  obtain ⟨x6, h6, hf⟩ := bd_of hf
  refine r_callV (k := ((0, 0) : Ky)) C hW hl lk_X11_362 (c_X11_remembers h6) ⟨rfl, rfl⟩ ⟨Nat.le_of_ble_eq_true rfl, Nat.le_of_ble_eq_true rfl⟩ rfl rfl rfl (As := []) (rest := []) rfl rfl (Nat.le_of_ble_eq_true rfl) dX11_day_6 ⟨Nat.zero_le _, Nat.zero_le _⟩ (fun H locs hW => ?_)
  show W p l e (rmq 7 160) s m args below meth c H locs 0 0 Q (F0 m 9 ls [])
  refine lv_aload_n hx hb dX11_day_9 rfl (lv_at hl 0 rfl) ?_
  obtain ⟨x10, h10, hf⟩ := bd_of hf
  refine r_callV (k := ((0, 0) : Ky)) C hW hl lk_X11_372 (c_X11_says h10) ⟨rfl, rfl⟩ ⟨Nat.le_of_ble_eq_true rfl, Nat.le_of_ble_eq_true rfl⟩ rfl rfl rfl (As := []) (rest := []) rfl rfl (Nat.le_of_ble_eq_true rfl) dX11_day_10 ⟨Nat.zero_le _, Nat.zero_le _⟩ (fun H locs hW => ?_)
  show W p l e (rmq 7 160) s m args below meth c H locs 0 0 Q (F0 m 13 ls [.int x10.1])
  refine lv_istore_n (lv' := [(1, .int x10.1), (0, .ref (ad 0))]) hx hb dX11_day_13 rfl hl (by decide) rfl (fun ls hl => ?_)
  refine lv_aload_n hx hb dX11_day_14 rfl (lv_at hl 1 rfl) ?_
  refine gf_X11_13 C hW dX11_day_15 ?_
  refine lv_iconst (v := 4) hx hb dX11_day_18 (by decide) ?_
  refine lv_dup2_11 hx hb dX11_day_19 rfl rfl ?_
  obtain ⟨hi3, hf⟩ := ck_of hf
  refine r_iald (k := ((1, 0) : Ky)) (n := 7114) C hW rfl rfl hi3 dX11_day_20 ?_
  refine lv_iconst (v := 1) hx hb dX11_day_21 (by decide) ?_
  refine lv_iadd hx hb dX11_day_22 ?_
  obtain ⟨hi4, hf⟩ := ck_of hf
  refine r_iast (k := ((1, 0) : Ky)) (n := 7114) C hW rfl (fun _ => rfl) hi4 dX11_day_23 (fun H locs hW => ?_)
  refine lv_aload_n hx hb dX11_day_24 rfl (lv_at hl 1 rfl) ?_
  refine lv_iconst (v := 4) hx hb dX11_day_25 (by decide) ?_
  refine lv_iconst (v := -1) hx hb dX11_day_26 (by decide) ?_
  refine lv_iconst (v := -1) hx hb dX11_day_27 (by decide) ?_
  refine lv_iload_n hx hb dX11_day_28 rfl (lv_at hl 0 rfl) ?_
  obtain ⟨x29, h29, hf⟩ := bd_of hf
  refine r_callV (k := ((0, 0) : Ky)) C hW hl lk_X11_355 (c_X11_tells h29) ⟨rfl, rfl⟩ ⟨Nat.le_of_ble_eq_true rfl, Nat.le_of_ble_eq_true rfl⟩ rfl rfl rfl (As := [.int (4 : Int32), .int (-1 : Int32), .int (-1 : Int32), .int x10.1]) (rest := []) rfl rfl (Nat.le_of_ble_eq_true rfl) dX11_day_29 ⟨Nat.zero_le _, Nat.zero_le _⟩ (fun H locs hW => ?_)
  show W p l e (rmq 7 160) s m args below meth c H locs 0 0 Q (F0 m 32 ls [])
  refine lv_iload_n hx hb dX11_day_32 rfl (lv_at hl 0 rfl) ?_
  obtain rfl := Option.some.inj hf
  rw [hQ]
  exact r_iret C hr hk hW rfl rfl dX11_day_33
set_option maxHeartbeats 4000000 in
set_option maxRecDepth 100000 in
theorem c_X11_readsOut {l : Launch} {D : va_G} {tc : Nat → ClassId} {ro : Ro} {ad : Nat → Nat} {μ : Mm} {v1 : Int32} {res : Mm} (hf : f_X11_readsOut μ v1 = some res) : Ct l D tc ro (faM ad) (feM tc ad) yX11_readsOut cX11_readsOut 2 none (rmq 3 66) [.ref (ad 0), .int v1] μ none res := by
  refine Ct.of (by decide) (Nat.le_of_ble_eq_true rfl) (fun p e s m args below meth c A C hr hk hW ls hl => ?_)
  have hx := C.1.1
  have hb := C.1.2.1
  obtain ⟨Q, hQ⟩ : ∃ Q, Q = MQ below (Ctq D (faM ad) (feM tc ad) none res A) args s 0 0 A := ⟨_, rfl⟩
  rw [← hQ]
  have hl : lv_has ls 2 [(0, .ref (ad 0)), (1, .int v1)] := hl
  unfold f_X11_readsOut at hf
  refine lv_aload_n hx hb dX11_readsOut_0 rfl (lv_at hl 0 rfl) ?_
  refine lv_iload_n hx hb dX11_readsOut_1 rfl (lv_at hl 1 rfl) ?_
  obtain ⟨x2, h2, hf⟩ := bd_of hf
  refine r_callV (k := ((0, 0) : Ky)) C hW hl lk_X11_149 (c_X11_noticesCome h2) ⟨rfl, rfl⟩ ⟨Nat.le_of_ble_eq_true rfl, Nat.le_of_ble_eq_true rfl⟩ rfl rfl rfl (As := [.int v1]) (rest := []) rfl rfl (Nat.le_of_ble_eq_true rfl) dX11_readsOut_2 ⟨Nat.zero_le _, Nat.zero_le _⟩ (fun H locs hW => ?_)
  show W p l e (rmq 3 66) s m args below meth c H locs 0 0 Q (F0 m 5 ls [])
  refine lv_aload_n hx hb dX11_readsOut_5 rfl (lv_at hl 0 rfl) ?_
  obtain ⟨x6, h6, hf⟩ := bd_of hf
  refine r_callV (k := ((0, 0) : Ky)) C hW hl lk_X11_206 (c_X11_drops h6) ⟨rfl, rfl⟩ ⟨Nat.le_of_ble_eq_true rfl, Nat.le_of_ble_eq_true rfl⟩ rfl rfl rfl (As := []) (rest := []) rfl rfl (Nat.le_of_ble_eq_true rfl) dX11_readsOut_6 ⟨Nat.zero_le _, Nat.zero_le _⟩ (fun H locs hW => ?_)
  show W p l e (rmq 3 66) s m args below meth c H locs 0 0 Q (F0 m 9 ls [])
  obtain rfl := Option.some.inj hf
  rw [hQ]
  exact r_vret C hr hk hW rfl rfl dX11_readsOut_9
set_option maxHeartbeats 4000000 in
set_option maxRecDepth 100000 in
theorem c_X11_read {l : Launch} {D : va_G} {tc : Nat → ClassId} {ro : Ro} {ad : Nat → Nat} {μ : Mm} {v1 : Int32} {res : Int32 × Mm} (hf : f_X11_read μ v1 = some res) : Ct l D tc ro (faM ad) (feM tc ad) yX11_read cX11_read 2 (some .int) (rmq 7 160) [.ref (ad 0), .int v1] μ (some (.int res.1)) res.2 := by
  refine Ct.of (by decide) (Nat.le_of_ble_eq_true rfl) (fun p e s m args below meth c A C hr hk hW ls hl => ?_)
  have hx := C.1.1
  have hb := C.1.2.1
  obtain ⟨Q, hQ⟩ : ∃ Q, Q = MQ below (Ctq D (faM ad) (feM tc ad) (some (.int res.1)) res.2 A) args s 0 0 A := ⟨_, rfl⟩
  rw [← hQ]
  have hl : lv_has ls 2 [(0, .ref (ad 0)), (1, .int v1)] := hl
  unfold f_X11_read at hf
  refine lv_aload_n hx hb dX11_read_0 rfl (lv_at hl 0 rfl) ?_
  refine lv_iconst (v := 0) hx hb dX11_read_1 (by decide) ?_
  refine pf_X11_3 C hW dX11_read_2 (fun H locs hW => ?_)
  refine lv_aload_n hx hb dX11_read_5 rfl (lv_at hl 0 rfl) ?_
  refine lv_aload_n hx hb dX11_read_6 rfl (lv_at hl 0 rfl) ?_
  refine lv_iload_n hx hb dX11_read_7 rfl (lv_at hl 1 rfl) ?_
  obtain ⟨x8, h8, hf⟩ := bd_of hf
  refine r_callV (k := ((0, 0) : Ky)) C hW hl lk_X11_359 (c_X11_noPerson h8) ⟨rfl, rfl⟩ ⟨Nat.le_of_ble_eq_true rfl, Nat.le_of_ble_eq_true rfl⟩ rfl rfl rfl (As := [.int v1]) (rest := [.ref (ad 0)]) rfl rfl (Nat.le_of_ble_eq_true rfl) dX11_read_8 ⟨Nat.zero_le _, Nat.zero_le _⟩ (fun H locs hW => ?_)
  show W p l e (rmq 7 160) s m args below meth c H locs 0 0 Q (F0 m 11 ls [.int x8, .ref (ad 0)])
  refine lv_iconst (v := 1) hx hb dX11_read_11 (by decide) ?_
  obtain ⟨x12, h12, hf⟩ := bd_of hf
  refine r_callV (k := ((0, 0) : Ky)) C hW hl lk_X11_322 (c_X11_throwsIf h12) ⟨rfl, rfl⟩ ⟨Nat.le_of_ble_eq_true rfl, Nat.le_of_ble_eq_true rfl⟩ rfl rfl rfl (As := [.int x8, .int (1 : Int32)]) (rest := []) rfl rfl (Nat.le_of_ble_eq_true rfl) dX11_read_12 ⟨Nat.zero_le _, Nat.zero_le _⟩ (fun H locs hW => ?_)
  show W p l e (rmq 7 160) s m args below meth c H locs 0 0 Q (F0 m 15 ls [.int x12.1])
  refine lv_if_eq (tgt := 20) hx hb dX11_read_15 (by decide) (fun c3 => ?_) (fun c3 => ?_)
  · have hf := (if_pos c3).symm.trans hf
    refine lv_aload_n hx hb dX11_read_20 rfl (lv_at hl 0 rfl) ?_
    obtain ⟨x21, h21, hf⟩ := bd_of hf
    refine r_callV (k := ((0, 0) : Ky)) C hW hl lk_X11_362 (c_X11_remembers h21) ⟨rfl, rfl⟩ ⟨Nat.le_of_ble_eq_true rfl, Nat.le_of_ble_eq_true rfl⟩ rfl rfl rfl (As := []) (rest := []) rfl rfl (Nat.le_of_ble_eq_true rfl) dX11_read_21 ⟨Nat.zero_le _, Nat.zero_le _⟩ (fun H locs hW => ?_)
    show W p l e (rmq 7 160) s m args below meth c H locs 0 0 Q (F0 m 24 ls [])
    refine lv_aload_n hx hb dX11_read_24 rfl (lv_at hl 0 rfl) ?_
    refine lv_iload_n hx hb dX11_read_25 rfl (lv_at hl 1 rfl) ?_
    obtain ⟨x26, h26, hf⟩ := bd_of hf
    refine r_callV (k := ((0, 0) : Ky)) C hW hl lk_X11_375 (c_X11_readsOut h26) ⟨rfl, rfl⟩ ⟨Nat.le_of_ble_eq_true rfl, Nat.le_of_ble_eq_true rfl⟩ rfl rfl rfl (As := [.int v1]) (rest := []) rfl rfl (Nat.le_of_ble_eq_true rfl) dX11_read_26 ⟨Nat.zero_le _, Nat.zero_le _⟩ (fun H locs hW => ?_)
    show W p l e (rmq 7 160) s m args below meth c H locs 0 0 Q (F0 m 29 ls [])
    refine lv_aload_n hx hb dX11_read_29 rfl (lv_at hl 0 rfl) ?_
    refine lv_iconst (v := 5) hx hb dX11_read_30 (by decide) ?_
    refine lv_iload_n hx hb dX11_read_31 rfl (lv_at hl 1 rfl) ?_
    refine lv_iconst (v := -1) hx hb dX11_read_32 (by decide) ?_
    refine lv_aload_n hx hb dX11_read_33 rfl (lv_at hl 0 rfl) ?_
    refine lv_iload_n hx hb dX11_read_34 rfl (lv_at hl 1 rfl) ?_
    obtain ⟨x35, h35, hf⟩ := bd_of hf
    refine r_callV (k := ((0, 0) : Ky)) C hW hl lk_X11_369 (c_X11_notice h35) ⟨rfl, rfl⟩ ⟨Nat.le_of_ble_eq_true rfl, Nat.le_of_ble_eq_true rfl⟩ rfl rfl rfl (As := [.int v1]) (rest := [.int (-1 : Int32), .int v1, .int (5 : Int32), .ref (ad 0)]) rfl rfl (Nat.le_of_ble_eq_true rfl) dX11_read_35 ⟨Nat.zero_le _, Nat.zero_le _⟩ (fun H locs hW => ?_)
    show W p l e (rmq 7 160) s m args below meth c H locs 0 0 Q (F0 m 38 ls [.int x35, .int (-1 : Int32), .int v1, .int (5 : Int32), .ref (ad 0)])
    obtain ⟨x38, h38, hf⟩ := bd_of hf
    refine r_callV (k := ((0, 0) : Ky)) C hW hl lk_X11_355 (c_X11_tells h38) ⟨rfl, rfl⟩ ⟨Nat.le_of_ble_eq_true rfl, Nat.le_of_ble_eq_true rfl⟩ rfl rfl rfl (As := [.int (5 : Int32), .int v1, .int (-1 : Int32), .int x35]) (rest := []) rfl rfl (Nat.le_of_ble_eq_true rfl) dX11_read_38 ⟨Nat.zero_le _, Nat.zero_le _⟩ (fun H locs hW => ?_)
    show W p l e (rmq 7 160) s m args below meth c H locs 0 0 Q (F0 m 41 ls [])
    refine lv_aload_n hx hb dX11_read_41 rfl (lv_at hl 0 rfl) ?_
    refine lv_iload_n hx hb dX11_read_42 rfl (lv_at hl 1 rfl) ?_
    obtain ⟨x43, h43, hf⟩ := bd_of hf
    refine r_callV (k := ((0, 0) : Ky)) C hW hl lk_X11_369 (c_X11_notice h43) ⟨rfl, rfl⟩ ⟨Nat.le_of_ble_eq_true rfl, Nat.le_of_ble_eq_true rfl⟩ rfl rfl rfl (As := [.int v1]) (rest := []) rfl rfl (Nat.le_of_ble_eq_true rfl) dX11_read_43 ⟨Nat.zero_le _, Nat.zero_le _⟩ (fun H locs hW => ?_)
    show W p l e (rmq 7 160) s m args below meth c H locs 0 0 Q (F0 m 46 ls [.int x43])
    obtain rfl := Option.some.inj hf
    rw [hQ]
    exact r_iret C hr hk hW rfl rfl dX11_read_46
  · have hf := (if_neg c3).symm.trans hf
    refine lv_iconst (v := 0) hx hb dX11_read_18 (by decide) ?_
    obtain rfl := Option.some.inj hf
    rw [hQ]
    exact r_iret C hr hk hW rfl rfl dX11_read_19
set_option maxHeartbeats 4000000 in
set_option maxRecDepth 100000 in
theorem c_X11_claim {l : Launch} {D : va_G} {tc : Nat → ClassId} {ro : Ro} {ad : Nat → Nat} {μ : Mm} {v1 v2 : Int32} {res : Int32 × Mm} (hf : f_X11_claim μ v1 v2 = some res) : Ct l D tc ro (faM ad) (feM tc ad) yX11_claim cX11_claim 4 (some .int) (rmq 7 160) [.ref (ad 0), .int v1, .int v2] μ (some (.int res.1)) res.2 := by
  refine Ct.of (by decide) (Nat.le_of_ble_eq_true rfl) (fun p e s m args below meth c A C hr hk hW ls hl => ?_)
  have hx := C.1.1
  have hb := C.1.2.1
  obtain ⟨Q, hQ⟩ : ∃ Q, Q = MQ below (Ctq D (faM ad) (feM tc ad) (some (.int res.1)) res.2 A) args s 0 0 A := ⟨_, rfl⟩
  rw [← hQ]
  have hl : lv_has ls 4 [(0, .ref (ad 0)), (1, .int v1), (2, .int v2)] := hl
  unfold f_X11_claim at hf
  have J74 : ∀ (μ : Mm) (s0 : Int32) (H : Heap) (locs : List Loc) (ls : Array Slot), f_X11_claim_J74 μ v1 v2 s0 = some res → Wd D (faM ad) (feM tc ad) A s.heap μ H locs → lv_has ls 4 [(0, .ref (ad 0)), (1, .int v1), (2, .int v2)] → W p l e (rmq 7 160) s m args below meth c H locs 0 0 Q (F0 m 74 ls [.int s0, .ref (ad 0)]) := by
    intro μ s0 H locs ls hf hW hl
    unfold f_X11_claim_J74 at hf
    refine lv_iconst (v := 3) hx hb dX11_claim_74 (by decide) ?_
    obtain ⟨x75, h75, hf⟩ := bd_of hf
    refine r_callV (k := ((0, 0) : Ky)) C hW hl lk_X11_322 (c_X11_throwsIf h75) ⟨rfl, rfl⟩ ⟨Nat.le_of_ble_eq_true rfl, Nat.le_of_ble_eq_true rfl⟩ rfl rfl rfl (As := [.int s0, .int (3 : Int32)]) (rest := []) rfl rfl (Nat.le_of_ble_eq_true rfl) dX11_claim_75 ⟨Nat.zero_le _, Nat.zero_le _⟩ (fun H locs hW => ?_)
    show W p l e (rmq 7 160) s m args below meth c H locs 0 0 Q (F0 m 78 ls [.int x75.1])
    refine lv_if_eq (tgt := 83) hx hb dX11_claim_78 (by decide) (fun c2 => ?_) (fun c2 => ?_)
    · have hf := (if_pos c2).symm.trans hf
      refine lv_aload_n hx hb dX11_claim_83 rfl (lv_at hl 0 rfl) ?_
      obtain ⟨x84, h84, hf⟩ := bd_of hf
      refine r_callV (k := ((0, 0) : Ky)) C hW hl lk_X11_362 (c_X11_remembers h84) ⟨rfl, rfl⟩ ⟨Nat.le_of_ble_eq_true rfl, Nat.le_of_ble_eq_true rfl⟩ rfl rfl rfl (As := []) (rest := []) rfl rfl (Nat.le_of_ble_eq_true rfl) dX11_claim_84 ⟨Nat.zero_le _, Nat.zero_le _⟩ (fun H locs hW => ?_)
      show W p l e (rmq 7 160) s m args below meth c H locs 0 0 Q (F0 m 87 ls [])
      refine lv_iconst (v := 0) hx hb dX11_claim_87 (by decide) ?_
      refine lv_istore_n (lv' := [(3, .int (0 : Int32)), (0, .ref (ad 0)), (1, .int v1), (2, .int v2)]) hx hb dX11_claim_88 rfl hl (by decide) rfl (fun ls hl => ?_)
      have L89 : ∀ (μ : Mm) (v3 : Int32) (H : Heap) (locs : List Loc) (ls : Array Slot), Wh (fun z : Mm × Int32 => f_X11_claim_L89 v1 v2 z.1 z.2) (μ, v3) = some res → Wd D (faM ad) (feM tc ad) A s.heap μ H locs → lv_has ls 4 [(0, .ref (ad 0)), (1, .int v1), (2, .int v2), (3, .int v3)] → W p l e (rmq 7 160) s m args below meth c H locs 0 0 Q (F0 m 89 ls []) := by
        intro μ v3 H locs ls hf hW hl
        refine Wh_rule hf (fun z : Mm × Int32 => ∀ (H : Heap) (locs : List Loc) (ls : Array Slot), Wd D (faM ad) (feM tc ad) A s.heap z.1 H locs → lv_has ls 4 [(0, .ref (ad 0)), (1, .int v1), (2, .int v2), (3, .int z.2)] → W p l e (rmq 7 160) s m args below meth c H locs 0 0 Q (F0 m 89 ls [])) (fun z o1 hf Kl1 Kr1 => ?_) _ _ _ hW hl
        obtain ⟨μ, v3⟩ := z
        intro H locs ls hW hl
        have hf : f_X11_claim_L89 v1 v2 μ v3 = some o1 := hf
        unfold f_X11_claim_L89 at hf
        have hW : Wd D (faM ad) (feM tc ad) A s.heap μ H locs := hW
        have hl : lv_has ls 4 [(0, .ref (ad 0)), (1, .int v1), (2, .int v2), (3, .int v3)] := hl
        refine lv_iload_n hx hb dX11_claim_89 rfl (lv_at hl 3 rfl) ?_
        refine lv_aload_n hx hb dX11_claim_90 rfl (lv_at hl 0 rfl) ?_
        obtain ⟨x91, h91, hf⟩ := bd_of hf
        refine r_callV (k := ((0, 0) : Ky)) C hW hl lk_X11_115 (c_X11_worlds h91) ⟨rfl, rfl⟩ ⟨Nat.le_of_ble_eq_true rfl, Nat.le_of_ble_eq_true rfl⟩ rfl rfl rfl (As := []) (rest := [.int v3]) rfl rfl (Nat.le_of_ble_eq_true rfl) dX11_claim_91 ⟨Nat.zero_le _, Nat.zero_le _⟩ (fun H locs hW => ?_)
        show W p l e (rmq 7 160) s m args below meth c H locs 0 0 Q (F0 m 94 ls [.int x91, .int v3])
        refine lv_icmp_ge (tgt := 124) hx hb dX11_claim_94 (by decide) (fun c5 => ?_) (fun c5 => ?_)
        · have hf := (if_pos c5).symm.trans hf
          obtain ⟨x9010, hf, hx9010⟩ := map_of hf
          have e9010 := (Kr1 _ hx9010.symm).symm
          subst e9010
          refine lv_aload_n hx hb dX11_claim_124 rfl (lv_at hl 0 rfl) ?_
          obtain ⟨x125, h125, hf⟩ := bd_of hf
          refine r_callV (k := ((0, 0) : Ky)) C hW hl lk_X11_206 (c_X11_drops h125) ⟨rfl, rfl⟩ ⟨Nat.le_of_ble_eq_true rfl, Nat.le_of_ble_eq_true rfl⟩ rfl rfl rfl (As := []) (rest := []) rfl rfl (Nat.le_of_ble_eq_true rfl) dX11_claim_125 ⟨Nat.zero_le _, Nat.zero_le _⟩ (fun H locs hW => ?_)
          show W p l e (rmq 7 160) s m args below meth c H locs 0 0 Q (F0 m 128 ls [])
          refine lv_aload_n hx hb dX11_claim_128 rfl (lv_at hl 0 rfl) ?_
          refine lv_bipush (v := 6) hx hb dX11_claim_129 (by decide) ?_
          refine lv_iload_n hx hb dX11_claim_131 rfl (lv_at hl 2 rfl) ?_
          refine lv_iconst (v := -1) hx hb dX11_claim_132 (by decide) ?_
          refine lv_iload_n hx hb dX11_claim_133 rfl (lv_at hl 1 rfl) ?_
          obtain ⟨x134, h134, hf⟩ := bd_of hf
          refine r_callV (k := ((0, 0) : Ky)) C hW hl lk_X11_355 (c_X11_tells h134) ⟨rfl, rfl⟩ ⟨Nat.le_of_ble_eq_true rfl, Nat.le_of_ble_eq_true rfl⟩ rfl rfl rfl (As := [.int (6 : Int32), .int v2, .int (-1 : Int32), .int v1]) (rest := []) rfl rfl (Nat.le_of_ble_eq_true rfl) dX11_claim_134 ⟨Nat.zero_le _, Nat.zero_le _⟩ (fun H locs hW => ?_)
          show W p l e (rmq 7 160) s m args below meth c H locs 0 0 Q (F0 m 137 ls [])
          refine lv_aload_n hx hb dX11_claim_137 rfl (lv_at hl 0 rfl) ?_
          refine lv_aload_n hx hb dX11_claim_138 rfl (lv_at hl 0 rfl) ?_
          obtain ⟨x139, h139, hf⟩ := bd_of hf
          refine r_callV (k := ((0, 0) : Ky)) C hW hl lk_X11_121 (c_X11_here h139) ⟨rfl, rfl⟩ ⟨Nat.le_of_ble_eq_true rfl, Nat.le_of_ble_eq_true rfl⟩ rfl rfl rfl (As := []) (rest := [.ref (ad 0)]) rfl rfl (Nat.le_of_ble_eq_true rfl) dX11_claim_139 ⟨Nat.zero_le _, Nat.zero_le _⟩ (fun H locs hW => ?_)
          show W p l e (rmq 7 160) s m args below meth c H locs 0 0 Q (F0 m 142 ls [.int x139, .ref (ad 0)])
          refine lv_iload_n hx hb dX11_claim_142 rfl (lv_at hl 2 rfl) ?_
          obtain ⟨x143, h143, hf⟩ := bd_of hf
          refine r_callV (k := ((0, 0) : Ky)) C hW hl lk_X11_215 (c_X11_haveIn h143) ⟨rfl, rfl⟩ ⟨Nat.le_of_ble_eq_true rfl, Nat.le_of_ble_eq_true rfl⟩ rfl rfl rfl (As := [.int x139, .int v2]) (rest := []) rfl rfl (Nat.le_of_ble_eq_true rfl) dX11_claim_143 ⟨Nat.zero_le _, Nat.zero_le _⟩ (fun H locs hW => ?_)
          show W p l e (rmq 7 160) s m args below meth c H locs 0 0 Q (F0 m 146 ls [.int x143])
          obtain rfl := Option.some.inj hf
          rw [hQ]
          exact r_iret C hr hk hW rfl rfl dX11_claim_146
        · have hf := (if_neg c5).symm.trans hf
          refine lv_aload_n hx hb dX11_claim_97 rfl (lv_at hl 0 rfl) ?_
          refine gf_X11_33 C hW dX11_claim_98 ?_
          refine lv_iload_n hx hb dX11_claim_101 rfl (lv_at hl 3 rfl) ?_
          refine lv_aload_n hx hb dX11_claim_102 rfl (lv_at hl 0 rfl) ?_
          refine lv_iload_n hx hb dX11_claim_103 rfl (lv_at hl 3 rfl) ?_
          refine lv_iload_n hx hb dX11_claim_104 rfl (lv_at hl 2 rfl) ?_
          obtain ⟨x105, h105, hf⟩ := bd_of hf
          refine r_callV (k := ((0, 0) : Ky)) C hW hl lk_X11_215 (c_X11_haveIn h105) ⟨rfl, rfl⟩ ⟨Nat.le_of_ble_eq_true rfl, Nat.le_of_ble_eq_true rfl⟩ rfl rfl rfl (As := [.int v3, .int v2]) (rest := [.int v3, .ref (ad 9)]) rfl rfl (Nat.le_of_ble_eq_true rfl) dX11_claim_105 ⟨Nat.zero_le _, Nat.zero_le _⟩ (fun H locs hW => ?_)
          show W p l e (rmq 7 160) s m args below meth c H locs 0 0 Q (F0 m 108 ls [.int x105, .int v3, .ref (ad 9)])
          refine lv_iload_n hx hb dX11_claim_108 rfl (lv_at hl 1 rfl) ?_
          refine lv_icmp_lt (tgt := 116) hx hb dX11_claim_109 (by decide) (fun c12 => ?_) (fun c12 => ?_)
          · have hf := (if_pos c12).symm.trans hf
            refine lv_iconst (v := 0) hx hb dX11_claim_116 (by decide) ?_
            obtain ⟨hi13, hf⟩ := ck_of hf
            refine r_iast (k := ((9, 0) : Ky)) (n := 512) C hW rfl (fun _ => rfl) hi13 dX11_claim_117 (fun H locs hW => ?_)
            refine lv_iinc (v := (v3 + (1 : Int32))) (lv' := [(3, .int (v3 + (1 : Int32))), (0, .ref (ad 0)), (1, .int v1), (2, .int v2)]) hx hb dX11_claim_118 hl (k := 3) rfl rfl (by decide) rfl (fun ls hl => ?_)
            refine lv_goto (tgt := 89) hx hb dX11_claim_121 (by decide) ?_
            obtain rfl := Option.some.inj hf
            exact Kl1 _ rfl _ _ _ hW (lv_sub hl [1, 2, 3, 0] rfl)
          · have hf := (if_neg c12).symm.trans hf
            refine lv_iconst (v := 1) hx hb dX11_claim_112 (by decide) ?_
            refine lv_goto (tgt := 117) hx hb dX11_claim_113 (by decide) ?_
            obtain ⟨hi14, hf⟩ := ck_of hf
            refine r_iast (k := ((9, 0) : Ky)) (n := 512) C hW rfl (fun _ => rfl) hi14 dX11_claim_117 (fun H locs hW => ?_)
            refine lv_iinc (v := (v3 + (1 : Int32))) (lv' := [(3, .int (v3 + (1 : Int32))), (0, .ref (ad 0)), (1, .int v1), (2, .int v2)]) hx hb dX11_claim_118 hl (k := 3) rfl rfl (by decide) rfl (fun ls hl => ?_)
            refine lv_goto (tgt := 89) hx hb dX11_claim_121 (by decide) ?_
            obtain rfl := Option.some.inj hf
            exact Kl1 _ rfl _ _ _ hW (lv_sub hl [1, 2, 3, 0] rfl)
      exact L89 x84 (0 : Int32) _ _ _ hf hW (lv_sub hl [1, 2, 3, 0] rfl)
    · have hf := (if_neg c2).symm.trans hf
      refine lv_iconst (v := 0) hx hb dX11_claim_81 (by decide) ?_
      obtain rfl := Option.some.inj hf
      rw [hQ]
      exact r_iret C hr hk hW rfl rfl dX11_claim_82
  have J48 : ∀ (μ : Mm) (s0 : Int32) (H : Heap) (locs : List Loc) (ls : Array Slot), f_X11_claim_J48 μ v1 v2 s0 = some res → Wd D (faM ad) (feM tc ad) A s.heap μ H locs → lv_has ls 4 [(0, .ref (ad 0)), (1, .int v1), (2, .int v2)] → W p l e (rmq 7 160) s m args below meth c H locs 0 0 Q (F0 m 48 ls [.int s0, .ref (ad 0)]) := by
    intro μ s0 H locs ls hf hW hl
    unfold f_X11_claim_J48 at hf
    refine lv_iconst (v := 2) hx hb dX11_claim_48 (by decide) ?_
    obtain ⟨x49, h49, hf⟩ := bd_of hf
    refine r_callV (k := ((0, 0) : Ky)) C hW hl lk_X11_322 (c_X11_throwsIf h49) ⟨rfl, rfl⟩ ⟨Nat.le_of_ble_eq_true rfl, Nat.le_of_ble_eq_true rfl⟩ rfl rfl rfl (As := [.int s0, .int (2 : Int32)]) (rest := []) rfl rfl (Nat.le_of_ble_eq_true rfl) dX11_claim_49 ⟨Nat.zero_le _, Nat.zero_le _⟩ (fun H locs hW => ?_)
    show W p l e (rmq 7 160) s m args below meth c H locs 0 0 Q (F0 m 52 ls [.int x49.1])
    refine lv_if_ne (tgt := 81) hx hb dX11_claim_52 (by decide) (fun c16 => ?_) (fun c16 => ?_)
    · have hf := (if_neg c16).symm.trans hf
      refine lv_iconst (v := 0) hx hb dX11_claim_81 (by decide) ?_
      obtain rfl := Option.some.inj hf
      rw [hQ]
      exact r_iret C hr hk hW rfl rfl dX11_claim_82
    · have hf := (if_pos c16).symm.trans hf
      refine lv_aload_n hx hb dX11_claim_55 rfl (lv_at hl 0 rfl) ?_
      refine lv_aload_n hx hb dX11_claim_56 rfl (lv_at hl 0 rfl) ?_
      refine lv_aload_n hx hb dX11_claim_57 rfl (lv_at hl 0 rfl) ?_
      obtain ⟨x58, h58, hf⟩ := bd_of hf
      refine r_callV (k := ((0, 0) : Ky)) C hW hl lk_X11_121 (c_X11_here h58) ⟨rfl, rfl⟩ ⟨Nat.le_of_ble_eq_true rfl, Nat.le_of_ble_eq_true rfl⟩ rfl rfl rfl (As := []) (rest := [.ref (ad 0), .ref (ad 0)]) rfl rfl (Nat.le_of_ble_eq_true rfl) dX11_claim_58 ⟨Nat.zero_le _, Nat.zero_le _⟩ (fun H locs hW => ?_)
      show W p l e (rmq 7 160) s m args below meth c H locs 0 0 Q (F0 m 61 ls [.int x58, .ref (ad 0), .ref (ad 0)])
      refine lv_iload_n hx hb dX11_claim_61 rfl (lv_at hl 2 rfl) ?_
      obtain ⟨x62, h62, hf⟩ := bd_of hf
      refine r_callV (k := ((0, 0) : Ky)) C hW hl lk_X11_215 (c_X11_haveIn h62) ⟨rfl, rfl⟩ ⟨Nat.le_of_ble_eq_true rfl, Nat.le_of_ble_eq_true rfl⟩ rfl rfl rfl (As := [.int x58, .int v2]) (rest := [.ref (ad 0)]) rfl rfl (Nat.le_of_ble_eq_true rfl) dX11_claim_62 ⟨Nat.zero_le _, Nat.zero_le _⟩ (fun H locs hW => ?_)
      show W p l e (rmq 7 160) s m args below meth c H locs 0 0 Q (F0 m 65 ls [.int x62, .ref (ad 0)])
      refine lv_iload_n hx hb dX11_claim_65 rfl (lv_at hl 1 rfl) ?_
      refine lv_icmp_ge (tgt := 73) hx hb dX11_claim_66 (by decide) (fun c19 => ?_) (fun c19 => ?_)
      · have hf := (if_pos c19).symm.trans hf
        refine lv_iconst (v := 0) hx hb dX11_claim_73 (by decide) ?_
        exact J74 x49.2 (0 : Int32) _ _ _ hf hW (lv_sub hl [0, 1, 2] rfl)
      · have hf := (if_neg c19).symm.trans hf
        refine lv_iconst (v := 1) hx hb dX11_claim_69 (by decide) ?_
        refine lv_goto (tgt := 74) hx hb dX11_claim_70 (by decide) ?_
        exact J74 x49.2 (1 : Int32) _ _ _ hf hW (lv_sub hl [0, 1, 2] rfl)
  have J25 : ∀ (μ : Mm) (s0 : Int32) (H : Heap) (locs : List Loc) (ls : Array Slot), f_X11_claim_J25 μ v1 v2 s0 = some res → Wd D (faM ad) (feM tc ad) A s.heap μ H locs → lv_has ls 4 [(0, .ref (ad 0)), (1, .int v1), (2, .int v2)] → W p l e (rmq 7 160) s m args below meth c H locs 0 0 Q (F0 m 25 ls [.int s0, .ref (ad 0)]) := by
    intro μ s0 H locs ls hf hW hl
    unfold f_X11_claim_J25 at hf
    refine lv_iconst (v := 1) hx hb dX11_claim_25 (by decide) ?_
    obtain ⟨x26, h26, hf⟩ := bd_of hf
    refine r_callV (k := ((0, 0) : Ky)) C hW hl lk_X11_322 (c_X11_throwsIf h26) ⟨rfl, rfl⟩ ⟨Nat.le_of_ble_eq_true rfl, Nat.le_of_ble_eq_true rfl⟩ rfl rfl rfl (As := [.int s0, .int (1 : Int32)]) (rest := []) rfl rfl (Nat.le_of_ble_eq_true rfl) dX11_claim_26 ⟨Nat.zero_le _, Nat.zero_le _⟩ (fun H locs hW => ?_)
    show W p l e (rmq 7 160) s m args below meth c H locs 0 0 Q (F0 m 29 ls [.int x26.1])
    refine lv_if_ne (tgt := 81) hx hb dX11_claim_29 (by decide) (fun c21 => ?_) (fun c21 => ?_)
    · have hf := (if_neg c21).symm.trans hf
      refine lv_iconst (v := 0) hx hb dX11_claim_81 (by decide) ?_
      obtain rfl := Option.some.inj hf
      rw [hQ]
      exact r_iret C hr hk hW rfl rfl dX11_claim_82
    · have hf := (if_pos c21).symm.trans hf
      refine lv_aload_n hx hb dX11_claim_32 rfl (lv_at hl 0 rfl) ?_
      refine lv_iload_n hx hb dX11_claim_33 rfl (lv_at hl 1 rfl) ?_
      refine lv_iconst (v := 0) hx hb dX11_claim_34 (by decide) ?_
      refine lv_bipush (v := 9) hx hb dX11_claim_35 (by decide) ?_
      obtain ⟨x37, h37, hf⟩ := bd_of hf
      refine r_callS C hW hl lk_X11_111 (c_X11_in h37) ⟨rfl, rfl⟩ ⟨Nat.le_of_ble_eq_true rfl, Nat.le_of_ble_eq_true rfl⟩ (As := [.int v1, .int (0 : Int32), .int (9 : Int32)]) (rest := [.ref (ad 0)]) rfl rfl (Nat.le_of_ble_eq_true rfl) dX11_claim_37 ⟨Nat.zero_le _, Nat.zero_le _⟩ (fun H locs hW => ?_)
      show W p l e (rmq 7 160) s m args below meth c H locs 0 0 Q (F0 m 40 ls [.int x37, .ref (ad 0)])
      refine lv_if_ne (tgt := 47) hx hb dX11_claim_40 (by decide) (fun c23 => ?_) (fun c23 => ?_)
      · have hf := (if_neg c23).symm.trans hf
        refine lv_iconst (v := 0) hx hb dX11_claim_47 (by decide) ?_
        exact J48 x26.2 (0 : Int32) _ _ _ hf hW (lv_sub hl [0, 1, 2] rfl)
      · have hf := (if_pos c23).symm.trans hf
        refine lv_iconst (v := 1) hx hb dX11_claim_43 (by decide) ?_
        refine lv_goto (tgt := 48) hx hb dX11_claim_44 (by decide) ?_
        exact J48 x26.2 (1 : Int32) _ _ _ hf hW (lv_sub hl [0, 1, 2] rfl)
  refine lv_aload_n hx hb dX11_claim_0 rfl (lv_at hl 0 rfl) ?_
  refine lv_iconst (v := 0) hx hb dX11_claim_1 (by decide) ?_
  refine pf_X11_3 C hW dX11_claim_2 (fun H locs hW => ?_)
  refine lv_aload_n hx hb dX11_claim_5 rfl (lv_at hl 0 rfl) ?_
  refine lv_iload_n hx hb dX11_claim_6 rfl (lv_at hl 2 rfl) ?_
  refine lv_iconst (v := 0) hx hb dX11_claim_7 (by decide) ?_
  refine lv_aload_n hx hb dX11_claim_8 rfl (lv_at hl 0 rfl) ?_
  obtain ⟨x9, h9, hf⟩ := bd_of hf
  refine r_callV (k := ((0, 0) : Ky)) C hW hl lk_X11_118 (c_X11_values h9) ⟨rfl, rfl⟩ ⟨Nat.le_of_ble_eq_true rfl, Nat.le_of_ble_eq_true rfl⟩ rfl rfl rfl (As := []) (rest := [.int (0 : Int32), .int v2, .ref (ad 0)]) rfl rfl (Nat.le_of_ble_eq_true rfl) dX11_claim_9 ⟨Nat.zero_le _, Nat.zero_le _⟩ (fun H locs hW => ?_)
  show W p l e (rmq 7 160) s m args below meth c H locs 0 0 Q (F0 m 12 ls [.int x9, .int (0 : Int32), .int v2, .ref (ad 0)])
  refine lv_iconst (v := 1) hx hb dX11_claim_12 (by decide) ?_
  refine lv_isub hx hb dX11_claim_13 ?_
  obtain ⟨x14, h14, hf⟩ := bd_of hf
  refine r_callS C hW hl lk_X11_111 (c_X11_in h14) ⟨rfl, rfl⟩ ⟨Nat.le_of_ble_eq_true rfl, Nat.le_of_ble_eq_true rfl⟩ (As := [.int v2, .int (0 : Int32), .int (x9 - (1 : Int32))]) (rest := [.ref (ad 0)]) rfl rfl (Nat.le_of_ble_eq_true rfl) dX11_claim_14 ⟨Nat.zero_le _, Nat.zero_le _⟩ (fun H locs hW => ?_)
  show W p l e (rmq 7 160) s m args below meth c H locs 0 0 Q (F0 m 17 ls [.int x14, .ref (ad 0)])
  refine lv_if_ne (tgt := 24) hx hb dX11_claim_17 (by decide) (fun c26 => ?_) (fun c26 => ?_)
  · have hf := (if_neg c26).symm.trans hf
    refine lv_iconst (v := 0) hx hb dX11_claim_24 (by decide) ?_
    exact J25 (mst μ (0, 0) 0 (0 : Int32)) (0 : Int32) _ _ _ hf hW (lv_sub hl [0, 1, 2] rfl)
  · have hf := (if_pos c26).symm.trans hf
    refine lv_iconst (v := 1) hx hb dX11_claim_20 (by decide) ?_
    refine lv_goto (tgt := 25) hx hb dX11_claim_21 (by decide) ?_
    exact J25 (mst μ (0, 0) 0 (0 : Int32)) (1 : Int32) _ _ _ hf hW (lv_sub hl [0, 1, 2] rfl)
set_option maxHeartbeats 4000000 in
set_option maxRecDepth 100000 in
theorem c_X11_answersCome {l : Launch} {D : va_G} {tc : Nat → ClassId} {ro : Ro} {ad : Nat → Nat} {μ : Mm} {v1 v2 v3 : Int32} {res : Mm} (hf : f_X11_answersCome μ v1 v2 v3 = some res) : Ct l D tc ro (faM ad) (feM tc ad) yX11_answersCome cX11_answersCome 6 none (rmq 3 67) [.ref (ad 0), .int v1, .int v2, .int v3] μ none res := by
  refine Ct.of (by decide) (Nat.le_of_ble_eq_true rfl) (fun p e s m args below meth c A C hr hk hW ls hl => ?_)
  have hx := C.1.1
  have hb := C.1.2.1
  obtain ⟨Q, hQ⟩ : ∃ Q, Q = MQ below (Ctq D (faM ad) (feM tc ad) none res A) args s 0 0 A := ⟨_, rfl⟩
  rw [← hQ]
  have hl : lv_has ls 6 [(0, .ref (ad 0)), (1, .int v1), (2, .int v2), (3, .int v3)] := hl
  unfold f_X11_answersCome at hf
  refine lv_aload_n hx hb dX11_answersCome_0 rfl (lv_at hl 0 rfl) ?_
  refine lv_iload_n hx hb dX11_answersCome_1 rfl (lv_at hl 1 rfl) ?_
  refine lv_iload_n hx hb dX11_answersCome_2 rfl (lv_at hl 2 rfl) ?_
  obtain ⟨x3, h3, hf⟩ := bd_of hf
  refine r_callV (k := ((0, 0) : Ky)) C hW hl lk_X11_135 (c_X11_lays h3) ⟨rfl, rfl⟩ ⟨Nat.le_of_ble_eq_true rfl, Nat.le_of_ble_eq_true rfl⟩ rfl rfl rfl (As := [.int v1, .int v2]) (rest := []) rfl rfl (Nat.le_of_ble_eq_true rfl) dX11_answersCome_3 ⟨Nat.zero_le _, Nat.zero_le _⟩ (fun H locs hW => ?_)
  show W p l e (rmq 3 67) s m args below meth c H locs 0 0 Q (F0 m 6 ls [])
  refine lv_iconst (v := 0) hx hb dX11_answersCome_6 (by decide) ?_
  refine lv_istore (lv' := [(4, .int (0 : Int32)), (0, .ref (ad 0)), (1, .int v1), (2, .int v2), (3, .int v3)]) hx hb dX11_answersCome_7 hl (by decide) rfl (fun ls hl => ?_)
  have L9 : ∀ (μ : Mm) (v4 : Int32) (H : Heap) (locs : List Loc) (ls : Array Slot), Wh (fun z : Mm × Int32 => f_X11_answersCome_L9 v1 v3 z.1 z.2) (μ, v4) = some res → Wd D (faM ad) (feM tc ad) A s.heap μ H locs → lv_has ls 6 [(0, .ref (ad 0)), (1, .int v1), (3, .int v3), (4, .int v4)] → W p l e (rmq 3 67) s m args below meth c H locs 0 0 Q (F0 m 9 ls []) := by
    intro μ v4 H locs ls hf hW hl
    refine Wh_rule hf (fun z : Mm × Int32 => ∀ (H : Heap) (locs : List Loc) (ls : Array Slot), Wd D (faM ad) (feM tc ad) A s.heap z.1 H locs → lv_has ls 6 [(0, .ref (ad 0)), (1, .int v1), (3, .int v3), (4, .int z.2)] → W p l e (rmq 3 67) s m args below meth c H locs 0 0 Q (F0 m 9 ls [])) (fun z o1 hf Kl1 Kr1 => ?_) _ _ _ hW hl
    obtain ⟨μ, v4⟩ := z
    intro H locs ls hW hl
    have hf : f_X11_answersCome_L9 v1 v3 μ v4 = some o1 := hf
    unfold f_X11_answersCome_L9 at hf
    have hW : Wd D (faM ad) (feM tc ad) A s.heap μ H locs := hW
    have hl : lv_has ls 6 [(0, .ref (ad 0)), (1, .int v1), (3, .int v3), (4, .int v4)] := hl
    have J43 : ∀ (μ : Mm) (v4 s0 : Int32) (H : Heap) (locs : List Loc) (ls : Array Slot), f_X11_answersCome_J43 μ v1 v3 v4 s0 = some o1 → Wd D (faM ad) (feM tc ad) A s.heap μ H locs → lv_has ls 6 [(0, .ref (ad 0)), (1, .int v1), (3, .int v3), (4, .int v4)] → W p l e (rmq 3 67) s m args below meth c H locs 0 0 Q (F0 m 43 ls [.int s0]) := by
      intro μ v4 s0 H locs ls hf hW hl
      unfold f_X11_answersCome_J43 at hf
      refine lv_istore (lv' := [(5, .int s0), (0, .ref (ad 0)), (1, .int v1), (3, .int v3), (4, .int v4)]) hx hb dX11_answersCome_43 hl (by decide) rfl (fun ls hl => ?_)
      refine lv_aload_n hx hb dX11_answersCome_45 rfl (lv_at hl 1 rfl) ?_
      refine gf_X11_33 C hW dX11_answersCome_46 ?_
      refine lv_iload hx hb dX11_answersCome_49 (lv_at hl 4 rfl) ?_
      refine lv_iload hx hb dX11_answersCome_51 (lv_at hl 0 rfl) ?_
      refine lv_iconst (v := 1) hx hb dX11_answersCome_53 (by decide) ?_
      refine lv_iload_n hx hb dX11_answersCome_54 rfl (lv_at hl 3 rfl) ?_
      refine lv_ishl hx hb dX11_answersCome_55 ?_
      refine lv_icmp_ne (tgt := 63) hx hb dX11_answersCome_56 (by decide) (fun c2 => ?_) (fun c2 => ?_)
      · have hf := (if_neg c2).symm.trans hf
        refine lv_iload hx hb dX11_answersCome_63 (lv_at hl 0 rfl) ?_
        refine lv_iload_n hx hb dX11_answersCome_65 rfl (lv_at hl 3 rfl) ?_
        obtain ⟨x66, h66, hf⟩ := bd_of hf
        refine r_callS C hW hl lk_X11_103 (c_X11_has h66) ⟨rfl, rfl⟩ ⟨Nat.le_of_ble_eq_true rfl, Nat.le_of_ble_eq_true rfl⟩ (As := [.int s0, .int v3]) (rest := [.int v4, .ref (ad 9)]) rfl rfl (Nat.le_of_ble_eq_true rfl) dX11_answersCome_66 ⟨Nat.zero_le _, Nat.zero_le _⟩ (fun H locs hW => ?_)
        show W p l e (rmq 3 67) s m args below meth c H locs 0 0 Q (F0 m 69 ls [.int x66, .int v4, .ref (ad 9)])
        refine lv_if_eq (tgt := 76) hx hb dX11_answersCome_69 (by decide) (fun c4 => ?_) (fun c4 => ?_)
        · have hf := (if_pos c4).symm.trans hf
          refine lv_iconst (v := 0) hx hb dX11_answersCome_76 (by decide) ?_
          obtain ⟨hi5, hf⟩ := ck_of hf
          refine r_iast (k := ((9, 0) : Ky)) (n := 512) C hW rfl (fun _ => rfl) hi5 dX11_answersCome_77 (fun H locs hW => ?_)
          refine lv_iinc (v := (v4 + (1 : Int32))) (lv' := [(4, .int (v4 + (1 : Int32))), (5, .int s0), (0, .ref (ad 0)), (1, .int v1), (3, .int v3)]) hx hb dX11_answersCome_78 hl (k := 4) rfl rfl (by decide) rfl (fun ls hl => ?_)
          refine lv_goto (tgt := 9) hx hb dX11_answersCome_81 (by decide) ?_
          obtain rfl := Option.some.inj hf
          exact Kl1 _ rfl _ _ _ hW (lv_sub hl [2, 3, 4, 0] rfl)
        · have hf := (if_neg c4).symm.trans hf
          refine lv_iconst (v := 2) hx hb dX11_answersCome_72 (by decide) ?_
          refine lv_goto (tgt := 77) hx hb dX11_answersCome_73 (by decide) ?_
          obtain ⟨hi6, hf⟩ := ck_of hf
          refine r_iast (k := ((9, 0) : Ky)) (n := 512) C hW rfl (fun _ => rfl) hi6 dX11_answersCome_77 (fun H locs hW => ?_)
          refine lv_iinc (v := (v4 + (1 : Int32))) (lv' := [(4, .int (v4 + (1 : Int32))), (5, .int s0), (0, .ref (ad 0)), (1, .int v1), (3, .int v3)]) hx hb dX11_answersCome_78 hl (k := 4) rfl rfl (by decide) rfl (fun ls hl => ?_)
          refine lv_goto (tgt := 9) hx hb dX11_answersCome_81 (by decide) ?_
          obtain rfl := Option.some.inj hf
          exact Kl1 _ rfl _ _ _ hW (lv_sub hl [2, 3, 4, 0] rfl)
      · have hf := (if_pos c2).symm.trans hf
        refine lv_iconst (v := 1) hx hb dX11_answersCome_59 (by decide) ?_
        refine lv_goto (tgt := 77) hx hb dX11_answersCome_60 (by decide) ?_
        obtain ⟨hi7, hf⟩ := ck_of hf
        refine r_iast (k := ((9, 0) : Ky)) (n := 512) C hW rfl (fun _ => rfl) hi7 dX11_answersCome_77 (fun H locs hW => ?_)
        refine lv_iinc (v := (v4 + (1 : Int32))) (lv' := [(4, .int (v4 + (1 : Int32))), (5, .int s0), (0, .ref (ad 0)), (1, .int v1), (3, .int v3)]) hx hb dX11_answersCome_78 hl (k := 4) rfl rfl (by decide) rfl (fun ls hl => ?_)
        refine lv_goto (tgt := 9) hx hb dX11_answersCome_81 (by decide) ?_
        obtain rfl := Option.some.inj hf
        exact Kl1 _ rfl _ _ _ hW (lv_sub hl [2, 3, 4, 0] rfl)
    refine lv_iload hx hb dX11_answersCome_9 (lv_at hl 3 rfl) ?_
    refine lv_aload_n hx hb dX11_answersCome_11 rfl (lv_at hl 0 rfl) ?_
    obtain ⟨x12, h12, hf⟩ := bd_of hf
    refine r_callV (k := ((0, 0) : Ky)) C hW hl lk_X11_115 (c_X11_worlds h12) ⟨rfl, rfl⟩ ⟨Nat.le_of_ble_eq_true rfl, Nat.le_of_ble_eq_true rfl⟩ rfl rfl rfl (As := []) (rest := [.int v4]) rfl rfl (Nat.le_of_ble_eq_true rfl) dX11_answersCome_12 ⟨Nat.zero_le _, Nat.zero_le _⟩ (fun H locs hW => ?_)
    show W p l e (rmq 3 67) s m args below meth c H locs 0 0 Q (F0 m 15 ls [.int x12, .int v4])
    refine lv_icmp_ge (tgt := 84) hx hb dX11_answersCome_15 (by decide) (fun c9 => ?_) (fun c9 => ?_)
    · have hf := (if_pos c9).symm.trans hf
      obtain ⟨x9010, hf, hx9010⟩ := map_of hf
      have e9010 := (Kr1 _ hx9010.symm).symm
      subst e9010
      obtain rfl := Option.some.inj hf
      rw [hQ]
      exact r_vret C hr hk hW rfl rfl dX11_answersCome_84
    · have hf := (if_neg c9).symm.trans hf
      refine lv_aload_n hx hb dX11_answersCome_18 rfl (lv_at hl 0 rfl) ?_
      refine lv_iload hx hb dX11_answersCome_19 (lv_at hl 3 rfl) ?_
      obtain ⟨x21, h21, hf⟩ := bd_of hf
      refine r_callV (k := ((0, 0) : Ky)) C hW hl lk_X11_128 (c_X11_isLeft h21) ⟨rfl, rfl⟩ ⟨Nat.le_of_ble_eq_true rfl, Nat.le_of_ble_eq_true rfl⟩ rfl rfl rfl (As := [.int v4]) (rest := []) rfl rfl (Nat.le_of_ble_eq_true rfl) dX11_answersCome_21 ⟨Nat.zero_le _, Nat.zero_le _⟩ (fun H locs hW => ?_)
      show W p l e (rmq 3 67) s m args below meth c H locs 0 0 Q (F0 m 24 ls [.int x21])
      refine lv_if_eq (tgt := 42) hx hb dX11_answersCome_24 (by decide) (fun c12 => ?_) (fun c12 => ?_)
      · have hf := (if_pos c12).symm.trans hf
        refine lv_iconst (v := 0) hx hb dX11_answersCome_42 (by decide) ?_
        exact J43 μ v4 (0 : Int32) _ _ _ hf hW (lv_sub hl [0, 1, 2, 3] rfl)
      · have hf := (if_neg c12).symm.trans hf
        refine lv_aload_n hx hb dX11_answersCome_27 rfl (lv_at hl 0 rfl) ?_
        refine gf_X11_30 C hW dX11_answersCome_28 ?_
        refine lv_aload_n hx hb dX11_answersCome_31 rfl (lv_at hl 0 rfl) ?_
        refine lv_iload_n hx hb dX11_answersCome_32 rfl (lv_at hl 1 rfl) ?_
        refine lv_iload hx hb dX11_answersCome_33 (lv_at hl 3 rfl) ?_
        obtain ⟨x35, h35, hf⟩ := bd_of hf
        refine r_callV (k := ((0, 0) : Ky)) C hW hl lk_X11_132 (c_X11_label h35) ⟨rfl, rfl⟩ ⟨Nat.le_of_ble_eq_true rfl, Nat.le_of_ble_eq_true rfl⟩ rfl rfl rfl (As := [.int v1, .int v4]) (rest := [.ref (ad 8)]) rfl rfl (Nat.le_of_ble_eq_true rfl) dX11_answersCome_35 ⟨Nat.zero_le _, Nat.zero_le _⟩ (fun H locs hW => ?_)
        show W p l e (rmq 3 67) s m args below meth c H locs 0 0 Q (F0 m 38 ls [.int x35, .ref (ad 8)])
        obtain ⟨hi14, hf⟩ := ck_of hf
        refine r_iald (k := ((8, 0) : Ky)) (n := 512) C hW rfl rfl hi14 dX11_answersCome_38 ?_
        refine lv_goto (tgt := 43) hx hb dX11_answersCome_39 (by decide) ?_
        exact J43 μ v4 (μ (8, 0) x35.toNatClampNeg) _ _ _ hf hW (lv_sub hl [0, 1, 2, 3] rfl)
  exact L9 x3 (0 : Int32) _ _ _ hf hW (lv_sub hl [1, 2, 4, 0] rfl)
set_option maxHeartbeats 4000000 in
set_option maxRecDepth 100000 in
theorem c_X11_query {l : Launch} {D : va_G} {tc : Nat → ClassId} {ro : Ro} {ad : Nat → Nat} {μ : Mm} {v1 v2 v3 : Int32} {res : Int32 × Mm} (hf : f_X11_query μ v1 v2 v3 = some res) : Ct l D tc ro (faM ad) (feM tc ad) yX11_query cX11_query 5 (some .int) (rmq 7 160) [.ref (ad 0), .int v1, .int v2, .int v3] μ (some (.int res.1)) res.2 := by
  refine Ct.of (by decide) (Nat.le_of_ble_eq_true rfl) (fun p e s m args below meth c A C hr hk hW ls hl => ?_)
  have hx := C.1.1
  have hb := C.1.2.1
  obtain ⟨Q, hQ⟩ : ∃ Q, Q = MQ below (Ctq D (faM ad) (feM tc ad) (some (.int res.1)) res.2 A) args s 0 0 A := ⟨_, rfl⟩
  rw [← hQ]
  have hl : lv_has ls 5 [(0, .ref (ad 0)), (1, .int v1), (2, .int v2), (3, .int v3)] := hl
  unfold f_X11_query at hf
  have J41 : ∀ (μ : Mm) (s0 : Int32) (H : Heap) (locs : List Loc) (ls : Array Slot), f_X11_query_J41 μ v1 v2 v3 s0 = some res → Wd D (faM ad) (feM tc ad) A s.heap μ H locs → lv_has ls 5 [(0, .ref (ad 0)), (1, .int v1), (2, .int v2), (3, .int v3)] → W p l e (rmq 7 160) s m args below meth c H locs 0 0 Q (F0 m 41 ls [.int s0, .ref (ad 0)]) := by
    intro μ s0 H locs ls hf hW hl
    unfold f_X11_query_J41 at hf
    refine lv_iconst (v := 1) hx hb dX11_query_41 (by decide) ?_
    obtain ⟨x42, h42, hf⟩ := bd_of hf
    refine r_callV (k := ((0, 0) : Ky)) C hW hl lk_X11_322 (c_X11_throwsIf h42) ⟨rfl, rfl⟩ ⟨Nat.le_of_ble_eq_true rfl, Nat.le_of_ble_eq_true rfl⟩ rfl rfl rfl (As := [.int s0, .int (1 : Int32)]) (rest := []) rfl rfl (Nat.le_of_ble_eq_true rfl) dX11_query_42 ⟨Nat.zero_le _, Nat.zero_le _⟩ (fun H locs hW => ?_)
    show W p l e (rmq 7 160) s m args below meth c H locs 0 0 Q (F0 m 45 ls [.int x42.1])
    refine lv_if_eq (tgt := 50) hx hb dX11_query_45 (by decide) (fun c2 => ?_) (fun c2 => ?_)
    · have hf := (if_pos c2).symm.trans hf
      refine lv_aload_n hx hb dX11_query_50 rfl (lv_at hl 0 rfl) ?_
      obtain ⟨x51, h51, hf⟩ := bd_of hf
      refine r_callV (k := ((0, 0) : Ky)) C hW hl lk_X11_362 (c_X11_remembers h51) ⟨rfl, rfl⟩ ⟨Nat.le_of_ble_eq_true rfl, Nat.le_of_ble_eq_true rfl⟩ rfl rfl rfl (As := []) (rest := []) rfl rfl (Nat.le_of_ble_eq_true rfl) dX11_query_51 ⟨Nat.zero_le _, Nat.zero_le _⟩ (fun H locs hW => ?_)
      show W p l e (rmq 7 160) s m args below meth c H locs 0 0 Q (F0 m 54 ls [])
      refine lv_aload_n hx hb dX11_query_54 rfl (lv_at hl 0 rfl) ?_
      refine lv_iload_n hx hb dX11_query_55 rfl (lv_at hl 1 rfl) ?_
      refine lv_iload_n hx hb dX11_query_56 rfl (lv_at hl 2 rfl) ?_
      refine lv_iload_n hx hb dX11_query_57 rfl (lv_at hl 3 rfl) ?_
      obtain ⟨x58, h58, hf⟩ := bd_of hf
      refine r_callV (k := ((0, 0) : Ky)) C hW hl lk_X11_378 (c_X11_answersCome h58) ⟨rfl, rfl⟩ ⟨Nat.le_of_ble_eq_true rfl, Nat.le_of_ble_eq_true rfl⟩ rfl rfl rfl (As := [.int v1, .int v2, .int v3]) (rest := []) rfl rfl (Nat.le_of_ble_eq_true rfl) dX11_query_58 ⟨Nat.zero_le _, Nat.zero_le _⟩ (fun H locs hW => ?_)
      show W p l e (rmq 7 160) s m args below meth c H locs 0 0 Q (F0 m 61 ls [])
      refine lv_aload_n hx hb dX11_query_61 rfl (lv_at hl 0 rfl) ?_
      refine gf_X11_33 C hW dX11_query_62 ?_
      refine lv_aload_n hx hb dX11_query_65 rfl (lv_at hl 0 rfl) ?_
      obtain ⟨x66, h66, hf⟩ := bd_of hf
      refine r_callV (k := ((0, 0) : Ky)) C hW hl lk_X11_121 (c_X11_here h66) ⟨rfl, rfl⟩ ⟨Nat.le_of_ble_eq_true rfl, Nat.le_of_ble_eq_true rfl⟩ rfl rfl rfl (As := []) (rest := [.ref (ad 9)]) rfl rfl (Nat.le_of_ble_eq_true rfl) dX11_query_66 ⟨Nat.zero_le _, Nat.zero_le _⟩ (fun H locs hW => ?_)
      show W p l e (rmq 7 160) s m args below meth c H locs 0 0 Q (F0 m 69 ls [.int x66, .ref (ad 9)])
      obtain ⟨hi6, hf⟩ := ck_of hf
      refine r_iald (k := ((9, 0) : Ky)) (n := 512) C hW rfl rfl hi6 dX11_query_69 ?_
      refine lv_istore (lv' := [(4, .int (x58 (9, 0) x66.toNatClampNeg)), (0, .ref (ad 0)), (1, .int v1), (2, .int v2), (3, .int v3)]) hx hb dX11_query_70 hl (by decide) rfl (fun ls hl => ?_)
      refine lv_aload_n hx hb dX11_query_72 rfl (lv_at hl 1 rfl) ?_
      obtain ⟨x73, h73, hf⟩ := bd_of hf
      refine r_callV (k := ((0, 0) : Ky)) C hW hl lk_X11_206 (c_X11_drops h73) ⟨rfl, rfl⟩ ⟨Nat.le_of_ble_eq_true rfl, Nat.le_of_ble_eq_true rfl⟩ rfl rfl rfl (As := []) (rest := []) rfl rfl (Nat.le_of_ble_eq_true rfl) dX11_query_73 ⟨Nat.zero_le _, Nat.zero_le _⟩ (fun H locs hW => ?_)
      show W p l e (rmq 7 160) s m args below meth c H locs 0 0 Q (F0 m 76 ls [])
      refine lv_aload_n hx hb dX11_query_76 rfl (lv_at hl 1 rfl) ?_
      refine lv_bipush (v := 7) hx hb dX11_query_77 (by decide) ?_
      refine lv_iload_n hx hb dX11_query_79 rfl (lv_at hl 2 rfl) ?_
      refine lv_iload_n hx hb dX11_query_80 rfl (lv_at hl 3 rfl) ?_
      refine lv_iload hx hb dX11_query_81 (lv_at hl 0 rfl) ?_
      obtain ⟨x83, h83, hf⟩ := bd_of hf
      refine r_callV (k := ((0, 0) : Ky)) C hW hl lk_X11_355 (c_X11_tells h83) ⟨rfl, rfl⟩ ⟨Nat.le_of_ble_eq_true rfl, Nat.le_of_ble_eq_true rfl⟩ rfl rfl rfl (As := [.int (7 : Int32), .int v1, .int v2, .int (x58 (9, 0) x66.toNatClampNeg)]) (rest := []) rfl rfl (Nat.le_of_ble_eq_true rfl) dX11_query_83 ⟨Nat.zero_le _, Nat.zero_le _⟩ (fun H locs hW => ?_)
      show W p l e (rmq 7 160) s m args below meth c H locs 0 0 Q (F0 m 86 ls [])
      refine lv_iload hx hb dX11_query_86 (lv_at hl 0 rfl) ?_
      obtain rfl := Option.some.inj hf
      rw [hQ]
      exact r_iret C hr hk hW rfl rfl dX11_query_88
    · have hf := (if_neg c2).symm.trans hf
      refine lv_iconst (v := 0) hx hb dX11_query_48 (by decide) ?_
      obtain rfl := Option.some.inj hf
      rw [hQ]
      exact r_iret C hr hk hW rfl rfl dX11_query_49
  refine lv_aload_n hx hb dX11_query_0 rfl (lv_at hl 0 rfl) ?_
  refine lv_iconst (v := 0) hx hb dX11_query_1 (by decide) ?_
  refine pf_X11_3 C hW dX11_query_2 (fun H locs hW => ?_)
  refine lv_aload_n hx hb dX11_query_5 rfl (lv_at hl 0 rfl) ?_
  refine lv_aload_n hx hb dX11_query_6 rfl (lv_at hl 0 rfl) ?_
  refine lv_iload_n hx hb dX11_query_7 rfl (lv_at hl 1 rfl) ?_
  obtain ⟨x8, h8, hf⟩ := bd_of hf
  refine r_callV (k := ((0, 0) : Ky)) C hW hl lk_X11_359 (c_X11_noPerson h8) ⟨rfl, rfl⟩ ⟨Nat.le_of_ble_eq_true rfl, Nat.le_of_ble_eq_true rfl⟩ rfl rfl rfl (As := [.int v1]) (rest := [.ref (ad 0)]) rfl rfl (Nat.le_of_ble_eq_true rfl) dX11_query_8 ⟨Nat.zero_le _, Nat.zero_le _⟩ (fun H locs hW => ?_)
  show W p l e (rmq 7 160) s m args below meth c H locs 0 0 Q (F0 m 11 ls [.int x8, .ref (ad 0)])
  refine lv_if_ne (tgt := 36) hx hb dX11_query_11 (by decide) (fun c10 => ?_) (fun c10 => ?_)
  · have hf := (if_neg c10).symm.trans hf
    refine lv_iconst (v := 1) hx hb dX11_query_36 (by decide) ?_
    refine lv_goto (tgt := 41) hx hb dX11_query_37 (by decide) ?_
    exact J41 (mst μ (0, 0) 0 (0 : Int32)) (1 : Int32) _ _ _ hf hW (lv_sub hl [0, 1, 2, 3] rfl)
  · have hf := (if_pos c10).symm.trans hf
    refine lv_aload_n hx hb dX11_query_14 rfl (lv_at hl 0 rfl) ?_
    refine lv_iload_n hx hb dX11_query_15 rfl (lv_at hl 2 rfl) ?_
    obtain ⟨x16, h16, hf⟩ := bd_of hf
    refine r_callV (k := ((0, 0) : Ky)) C hW hl lk_X11_359 (c_X11_noPerson h16) ⟨rfl, rfl⟩ ⟨Nat.le_of_ble_eq_true rfl, Nat.le_of_ble_eq_true rfl⟩ rfl rfl rfl (As := [.int v2]) (rest := [.ref (ad 0)]) rfl rfl (Nat.le_of_ble_eq_true rfl) dX11_query_16 ⟨Nat.zero_le _, Nat.zero_le _⟩ (fun H locs hW => ?_)
    show W p l e (rmq 7 160) s m args below meth c H locs 0 0 Q (F0 m 19 ls [.int x16, .ref (ad 0)])
    refine lv_if_ne (tgt := 36) hx hb dX11_query_19 (by decide) (fun c12 => ?_) (fun c12 => ?_)
    · have hf := (if_neg c12).symm.trans hf
      refine lv_iconst (v := 1) hx hb dX11_query_36 (by decide) ?_
      refine lv_goto (tgt := 41) hx hb dX11_query_37 (by decide) ?_
      exact J41 (mst μ (0, 0) 0 (0 : Int32)) (1 : Int32) _ _ _ hf hW (lv_sub hl [0, 1, 2, 3] rfl)
    · have hf := (if_pos c12).symm.trans hf
      refine lv_iload_n hx hb dX11_query_22 rfl (lv_at hl 3 rfl) ?_
      refine lv_iconst (v := 0) hx hb dX11_query_23 (by decide) ?_
      refine lv_aload_n hx hb dX11_query_24 rfl (lv_at hl 0 rfl) ?_
      obtain ⟨x25, h25, hf⟩ := bd_of hf
      refine r_callV (k := ((0, 0) : Ky)) C hW hl lk_X11_118 (c_X11_values h25) ⟨rfl, rfl⟩ ⟨Nat.le_of_ble_eq_true rfl, Nat.le_of_ble_eq_true rfl⟩ rfl rfl rfl (As := []) (rest := [.int (0 : Int32), .int v3, .ref (ad 0)]) rfl rfl (Nat.le_of_ble_eq_true rfl) dX11_query_25 ⟨Nat.zero_le _, Nat.zero_le _⟩ (fun H locs hW => ?_)
      show W p l e (rmq 7 160) s m args below meth c H locs 0 0 Q (F0 m 28 ls [.int x25, .int (0 : Int32), .int v3, .ref (ad 0)])
      refine lv_iconst (v := 1) hx hb dX11_query_28 (by decide) ?_
      refine lv_isub hx hb dX11_query_29 ?_
      obtain ⟨x30, h30, hf⟩ := bd_of hf
      refine r_callS C hW hl lk_X11_111 (c_X11_in h30) ⟨rfl, rfl⟩ ⟨Nat.le_of_ble_eq_true rfl, Nat.le_of_ble_eq_true rfl⟩ (As := [.int v3, .int (0 : Int32), .int (x25 - (1 : Int32))]) (rest := [.ref (ad 0)]) rfl rfl (Nat.le_of_ble_eq_true rfl) dX11_query_30 ⟨Nat.zero_le _, Nat.zero_le _⟩ (fun H locs hW => ?_)
      show W p l e (rmq 7 160) s m args below meth c H locs 0 0 Q (F0 m 33 ls [.int x30, .ref (ad 0)])
      refine lv_if_ne (tgt := 40) hx hb dX11_query_33 (by decide) (fun c15 => ?_) (fun c15 => ?_)
      · have hf := (if_neg c15).symm.trans hf
        refine lv_iconst (v := 0) hx hb dX11_query_40 (by decide) ?_
        exact J41 (mst μ (0, 0) 0 (0 : Int32)) (0 : Int32) _ _ _ hf hW (lv_sub hl [0, 1, 2, 3] rfl)
      · have hf := (if_pos c15).symm.trans hf
        refine lv_iconst (v := 1) hx hb dX11_query_36 (by decide) ?_
        refine lv_goto (tgt := 41) hx hb dX11_query_37 (by decide) ?_
        exact J41 (mst μ (0, 0) 0 (0 : Int32)) (1 : Int32) _ _ _ hf hW (lv_sub hl [0, 1, 2, 3] rfl)
set_option maxHeartbeats 4000000 in
set_option maxRecDepth 100000 in
theorem c_X11_draw {l : Launch} {D : va_G} {tc : Nat → ClassId} {ro : Ro} {ad : Nat → Nat} {μ : Mm} {v1 : Int32} {res : Int32 × Mm} (hf : f_X11_draw μ v1 = some res) : Ct l D tc ro (faM ad) (feM tc ad) yX11_draw cX11_draw 2 (some .int) (rmq 0 0) [.ref (ad 0), .int v1] μ (some (.int res.1)) res.2 := by
  refine Ct.of (by decide) (Nat.le_of_ble_eq_true rfl) (fun p e s m args below meth c A C hr hk hW ls hl => ?_)
  have hx := C.1.1
  have hb := C.1.2.1
  obtain ⟨Q, hQ⟩ : ∃ Q, Q = MQ below (Ctq D (faM ad) (feM tc ad) (some (.int res.1)) res.2 A) args s 0 0 A := ⟨_, rfl⟩
  rw [← hQ]
  have hl : lv_has ls 2 [(0, .ref (ad 0)), (1, .int v1)] := hl
  unfold f_X11_draw at hf
  refine lv_aload_n hx hb dX11_draw_0 rfl (lv_at hl 0 rfl) ?_
  refine gf_X11_13 C hW dX11_draw_1 ?_
  refine lv_iconst (v := 5) hx hb dX11_draw_4 (by decide) ?_
  refine lv_ldcw (v := 1103515245) hx hb C.1.2.2.2.1 (C.1.2.2.2.2 _ kw_2476) dX11_draw_5 ?_
  refine lv_aload_n hx hb dX11_draw_8 rfl (lv_at hl 0 rfl) ?_
  refine gf_X11_13 C hW dX11_draw_9 ?_
  refine lv_iconst (v := 5) hx hb dX11_draw_12 (by decide) ?_
  obtain ⟨hi1, hf⟩ := ck_of hf
  refine r_iald (k := ((1, 0) : Ky)) (n := 7114) C hW rfl rfl hi1 dX11_draw_13 ?_
  refine lv_imul hx hb dX11_draw_14 ?_
  refine lv_sipush (v := 12345) hx hb dX11_draw_15 (by decide) ?_
  refine lv_iadd hx hb dX11_draw_18 ?_
  obtain ⟨hi2, hf⟩ := ck_of hf
  refine r_iast (k := ((1, 0) : Ky)) (n := 7114) C hW rfl (fun _ => rfl) hi2 dX11_draw_19 (fun H locs hW => ?_)
  refine lv_aload_n hx hb dX11_draw_20 rfl (lv_at hl 0 rfl) ?_
  refine gf_X11_13 C hW dX11_draw_21 ?_
  refine lv_iconst (v := 5) hx hb dX11_draw_24 (by decide) ?_
  obtain ⟨hi3, hf⟩ := ck_of hf
  refine r_iald (k := ((1, 0) : Ky)) (n := 7114) C hW rfl rfl hi3 dX11_draw_25 ?_
  refine lv_bipush (v := 16) hx hb dX11_draw_26 (by decide) ?_
  refine lv_ishr hx hb dX11_draw_28 ?_
  refine lv_sipush (v := 32767) hx hb dX11_draw_29 (by decide) ?_
  refine lv_iand hx hb dX11_draw_32 ?_
  refine lv_iload_n hx hb dX11_draw_33 rfl (lv_at hl 1 rfl) ?_
  obtain ⟨hz4, hf⟩ := cd_of hf
  refine lv_irem hx hb dX11_draw_34 hz4 ?_
  obtain rfl := Option.some.inj hf
  rw [hQ]
  exact r_iret C hr hk hW rfl rfl dX11_draw_35
set_option maxHeartbeats 4000000 in
set_option maxRecDepth 100000 in
theorem c_X11_strolls {l : Launch} {D : va_G} {tc : Nat → ClassId} {ro : Ro} {ad : Nat → Nat} {μ : Mm} {v1 : Int32} {res : Int32 × Mm} (hf : f_X11_strolls μ v1 = some res) : Ct l D tc ro (faM ad) (feM tc ad) yX11_strolls cX11_strolls 6 (some .int) (rmq 8 185) [.ref (ad 0), .int v1] μ (some (.int res.1)) res.2 := by
  refine Ct.of (by decide) (Nat.le_of_ble_eq_true rfl) (fun p e s m args below meth c A C hr hk hW ls hl => ?_)
  have hx := C.1.1
  have hb := C.1.2.1
  obtain ⟨Q, hQ⟩ : ∃ Q, Q = MQ below (Ctq D (faM ad) (feM tc ad) (some (.int res.1)) res.2 A) args s 0 0 A := ⟨_, rfl⟩
  rw [← hQ]
  have hl : lv_has ls 6 [(0, .ref (ad 0)), (1, .int v1)] := hl
  unfold f_X11_strolls at hf
  refine lv_iconst (v := 0) hx hb dX11_strolls_0 (by decide) ?_
  refine lv_istore_n (lv' := [(2, .int (0 : Int32)), (0, .ref (ad 0)), (1, .int v1)]) hx hb dX11_strolls_1 rfl hl (by decide) rfl (fun ls hl => ?_)
  refine lv_iconst (v := 0) hx hb dX11_strolls_2 (by decide) ?_
  refine lv_istore_n (lv' := [(3, .int (0 : Int32)), (2, .int (0 : Int32)), (0, .ref (ad 0)), (1, .int v1)]) hx hb dX11_strolls_3 rfl hl (by decide) rfl (fun ls hl => ?_)
  have L4 : ∀ (μ : Mm) (v2 v3 : Int32) (H : Heap) (locs : List Loc) (ls : Array Slot), Wh (fun z : Mm × Int32 × Int32 => f_X11_strolls_L4 v1 z.1 z.2.1 z.2.2) (μ, v2, v3) = some res → Wd D (faM ad) (feM tc ad) A s.heap μ H locs → lv_has ls 6 [(0, .ref (ad 0)), (1, .int v1), (2, .int v2), (3, .int v3)] → W p l e (rmq 8 185) s m args below meth c H locs 0 0 Q (F0 m 4 ls []) := by
    intro μ v2 v3 H locs ls hf hW hl
    refine Wh_rule hf (fun z : Mm × Int32 × Int32 => ∀ (H : Heap) (locs : List Loc) (ls : Array Slot), Wd D (faM ad) (feM tc ad) A s.heap z.1 H locs → lv_has ls 6 [(0, .ref (ad 0)), (1, .int v1), (2, .int z.2.1), (3, .int z.2.2)] → W p l e (rmq 8 185) s m args below meth c H locs 0 0 Q (F0 m 4 ls [])) (fun z o1 hf Kl1 Kr1 => ?_) _ _ _ hW hl
    obtain ⟨μ, v2, v3⟩ := z
    intro H locs ls hW hl
    have hf : f_X11_strolls_L4 v1 μ v2 v3 = some o1 := hf
    unfold f_X11_strolls_L4 at hf
    have hW : Wd D (faM ad) (feM tc ad) A s.heap μ H locs := hW
    have hl : lv_has ls 6 [(0, .ref (ad 0)), (1, .int v1), (2, .int v2), (3, .int v3)] := hl
    refine lv_iload_n hx hb dX11_strolls_4 rfl (lv_at hl 3 rfl) ?_
    refine lv_iload_n hx hb dX11_strolls_5 rfl (lv_at hl 1 rfl) ?_
    refine lv_icmp_ge (tgt := 76) hx hb dX11_strolls_6 (by decide) (fun c1 => ?_) (fun c1 => ?_)
    · have hf := (if_pos c1).symm.trans hf
      obtain ⟨x9002, hf, hx9002⟩ := map_of hf
      have e9002 := (Kr1 _ hx9002.symm).symm
      subst e9002
      refine lv_iload_n hx hb dX11_strolls_76 rfl (lv_at hl 2 rfl) ?_
      obtain rfl := Option.some.inj hf
      rw [hQ]
      exact r_iret C hr hk hW rfl rfl dX11_strolls_77
    · have hf := (if_neg c1).symm.trans hf
      refine lv_aload_n hx hb dX11_strolls_9 rfl (lv_at hl 0 rfl) ?_
      obtain ⟨x10, h10, hf⟩ := bd_of hf
      refine r_callV (k := ((0, 0) : Ky)) C hW hl lk_X11_107 (c_X11_people h10) ⟨rfl, rfl⟩ ⟨Nat.le_of_ble_eq_true rfl, Nat.le_of_ble_eq_true rfl⟩ rfl rfl rfl (As := []) (rest := []) rfl rfl (Nat.le_of_ble_eq_true rfl) dX11_strolls_10 ⟨Nat.zero_le _, Nat.zero_le _⟩ (fun H locs hW => ?_)
      show W p l e (rmq 8 185) s m args below meth c H locs 0 0 Q (F0 m 13 ls [.int x10])
      refine lv_if_le (tgt := 76) hx hb dX11_strolls_13 (by decide) (fun c4 => ?_) (fun c4 => ?_)
      · have hf := (if_pos c4).symm.trans hf
        obtain ⟨x9005, hf, hx9005⟩ := map_of hf
        have e9005 := (Kr1 _ hx9005.symm).symm
        subst e9005
        refine lv_iload_n hx hb dX11_strolls_76 rfl (lv_at hl 2 rfl) ?_
        obtain rfl := Option.some.inj hf
        rw [hQ]
        exact r_iret C hr hk hW rfl rfl dX11_strolls_77
      · have hf := (if_neg c4).symm.trans hf
        refine lv_aload_n hx hb dX11_strolls_16 rfl (lv_at hl 0 rfl) ?_
        refine lv_aload_n hx hb dX11_strolls_17 rfl (lv_at hl 0 rfl) ?_
        obtain ⟨x18, h18, hf⟩ := bd_of hf
        refine r_callV (k := ((0, 0) : Ky)) C hW hl lk_X11_107 (c_X11_people h18) ⟨rfl, rfl⟩ ⟨Nat.le_of_ble_eq_true rfl, Nat.le_of_ble_eq_true rfl⟩ rfl rfl rfl (As := []) (rest := [.ref (ad 0)]) rfl rfl (Nat.le_of_ble_eq_true rfl) dX11_strolls_18 ⟨Nat.zero_le _, Nat.zero_le _⟩ (fun H locs hW => ?_)
        show W p l e (rmq 8 185) s m args below meth c H locs 0 0 Q (F0 m 21 ls [.int x18, .ref (ad 0)])
        obtain ⟨x21, h21, hf⟩ := bd_of hf
        refine r_callV (k := ((0, 0) : Ky)) C hW hl lk_X11_382 (c_X11_draw h21) ⟨rfl, rfl⟩ ⟨Nat.le_of_ble_eq_true rfl, Nat.le_of_ble_eq_true rfl⟩ rfl rfl rfl (As := [.int x18]) (rest := []) rfl rfl (Nat.le_of_ble_eq_true rfl) dX11_strolls_21 ⟨Nat.zero_le _, Nat.zero_le _⟩ (fun H locs hW => ?_)
        show W p l e (rmq 8 185) s m args below meth c H locs 0 0 Q (F0 m 24 ls [.int x21.1])
        refine lv_istore (lv' := [(4, .int x21.1), (0, .ref (ad 0)), (1, .int v1), (2, .int v2), (3, .int v3)]) hx hb dX11_strolls_24 hl (by decide) rfl (fun ls hl => ?_)
        refine lv_aload_n hx hb dX11_strolls_26 rfl (lv_at hl 1 rfl) ?_
        refine lv_aload_n hx hb dX11_strolls_27 rfl (lv_at hl 1 rfl) ?_
        obtain ⟨x28, h28, hf⟩ := bd_of hf
        refine r_callV (k := ((0, 0) : Ky)) C hW hl lk_X11_107 (c_X11_people h28) ⟨rfl, rfl⟩ ⟨Nat.le_of_ble_eq_true rfl, Nat.le_of_ble_eq_true rfl⟩ rfl rfl rfl (As := []) (rest := [.ref (ad 0)]) rfl rfl (Nat.le_of_ble_eq_true rfl) dX11_strolls_28 ⟨Nat.zero_le _, Nat.zero_le _⟩ (fun H locs hW => ?_)
        show W p l e (rmq 8 185) s m args below meth c H locs 0 0 Q (F0 m 31 ls [.int x28, .ref (ad 0)])
        obtain ⟨x31, h31, hf⟩ := bd_of hf
        refine r_callV (k := ((0, 0) : Ky)) C hW hl lk_X11_382 (c_X11_draw h31) ⟨rfl, rfl⟩ ⟨Nat.le_of_ble_eq_true rfl, Nat.le_of_ble_eq_true rfl⟩ rfl rfl rfl (As := [.int x28]) (rest := []) rfl rfl (Nat.le_of_ble_eq_true rfl) dX11_strolls_31 ⟨Nat.zero_le _, Nat.zero_le _⟩ (fun H locs hW => ?_)
        show W p l e (rmq 8 185) s m args below meth c H locs 0 0 Q (F0 m 34 ls [.int x31.1])
        refine lv_istore (lv' := [(5, .int x31.1), (4, .int x21.1), (0, .ref (ad 0)), (1, .int v1), (2, .int v2), (3, .int v3)]) hx hb dX11_strolls_34 hl (by decide) rfl (fun ls hl => ?_)
        refine lv_iload hx hb dX11_strolls_36 (lv_at hl 1 rfl) ?_
        refine lv_iload hx hb dX11_strolls_38 (lv_at hl 0 rfl) ?_
        refine lv_icmp_eq (tgt := 70) hx hb dX11_strolls_40 (by decide) (fun c10 => ?_) (fun c10 => ?_)
        · have hf := (if_pos c10).symm.trans hf
          refine lv_iinc (v := (v3 + (1 : Int32))) (lv' := [(3, .int (v3 + (1 : Int32))), (5, .int x31.1), (4, .int x21.1), (0, .ref (ad 0)), (1, .int v1), (2, .int v2)]) hx hb dX11_strolls_70 hl (k := 5) rfl rfl (by decide) rfl (fun ls hl => ?_)
          refine lv_goto (tgt := 4) hx hb dX11_strolls_73 (by decide) ?_
          obtain rfl := Option.some.inj hf
          exact Kl1 _ rfl _ _ _ hW (lv_sub hl [3, 4, 5, 0] rfl)
        · have hf := (if_neg c10).symm.trans hf
          refine lv_aload_n hx hb dX11_strolls_43 rfl (lv_at hl 2 rfl) ?_
          refine lv_iload hx hb dX11_strolls_44 (lv_at hl 1 rfl) ?_
          refine lv_iload hx hb dX11_strolls_46 (lv_at hl 0 rfl) ?_
          obtain ⟨x48, h48, hf⟩ := bd_of hf
          refine r_callV (k := ((0, 0) : Ky)) C hW hl lk_X11_325 (c_X11_isSeeing h48) ⟨rfl, rfl⟩ ⟨Nat.le_of_ble_eq_true rfl, Nat.le_of_ble_eq_true rfl⟩ rfl rfl rfl (As := [.int x21.1, .int x31.1]) (rest := []) rfl rfl (Nat.le_of_ble_eq_true rfl) dX11_strolls_48 ⟨Nat.zero_le _, Nat.zero_le _⟩ (fun H locs hW => ?_)
          show W p l e (rmq 8 185) s m args below meth c H locs 0 0 Q (F0 m 51 ls [.int x48])
          refine lv_if_ne (tgt := 57) hx hb dX11_strolls_51 (by decide) (fun c12 => ?_) (fun c12 => ?_)
          · have hf := (if_neg c12).symm.trans hf
            refine lv_aload_n hx hb dX11_strolls_57 rfl (lv_at hl 2 rfl) ?_
            refine lv_iload hx hb dX11_strolls_58 (lv_at hl 1 rfl) ?_
            refine lv_iload hx hb dX11_strolls_60 (lv_at hl 0 rfl) ?_
            refine lv_iconst (v := 0) hx hb dX11_strolls_62 (by decide) ?_
            obtain ⟨x63, h63, hf⟩ := bd_of hf
            refine r_callV (k := ((0, 0) : Ky)) C hW hl lk_X11_365 (c_X11_treats h63) ⟨rfl, rfl⟩ ⟨Nat.le_of_ble_eq_true rfl, Nat.le_of_ble_eq_true rfl⟩ rfl rfl rfl (As := [.int x21.1, .int x31.1, .int (0 : Int32)]) (rest := []) rfl rfl (Nat.le_of_ble_eq_true rfl) dX11_strolls_63 ⟨Nat.zero_le _, Nat.zero_le _⟩ (fun H locs hW => ?_)
            show W p l e (rmq 8 185) s m args below meth c H locs 0 0 Q (F0 m 66 ls [.int x63.1])
            refine lv_pop hx hb dX11_strolls_66 rfl ?_
            refine lv_iinc (v := (v2 + (1 : Int32))) (lv' := [(2, .int (v2 + (1 : Int32))), (5, .int x31.1), (4, .int x21.1), (0, .ref (ad 0)), (1, .int v1), (3, .int v3)]) hx hb dX11_strolls_67 hl (k := 4) rfl rfl (by decide) rfl (fun ls hl => ?_)
            refine lv_iinc (v := (v3 + (1 : Int32))) (lv' := [(3, .int (v3 + (1 : Int32))), (2, .int (v2 + (1 : Int32))), (5, .int x31.1), (4, .int x21.1), (0, .ref (ad 0)), (1, .int v1)]) hx hb dX11_strolls_70 hl (k := 5) rfl rfl (by decide) rfl (fun ls hl => ?_)
            refine lv_goto (tgt := 4) hx hb dX11_strolls_73 (by decide) ?_
            obtain rfl := Option.some.inj hf
            exact Kl1 _ rfl _ _ _ hW (lv_sub hl [4, 5, 1, 0] rfl)
          · have hf := (if_pos c12).symm.trans hf
            refine lv_goto (tgt := 70) hx hb dX11_strolls_54 (by decide) ?_
            refine lv_iinc (v := (v3 + (1 : Int32))) (lv' := [(3, .int (v3 + (1 : Int32))), (5, .int x31.1), (4, .int x21.1), (0, .ref (ad 0)), (1, .int v1), (2, .int v2)]) hx hb dX11_strolls_70 hl (k := 5) rfl rfl (by decide) rfl (fun ls hl => ?_)
            refine lv_goto (tgt := 4) hx hb dX11_strolls_73 (by decide) ?_
            obtain rfl := Option.some.inj hf
            exact Kl1 _ rfl _ _ _ hW (lv_sub hl [3, 4, 5, 0] rfl)
  exact L4 μ (0 : Int32) (0 : Int32) _ _ _ hf hW (lv_sub hl [2, 3, 1, 0] rfl)
set_option maxHeartbeats 4000000 in
set_option maxRecDepth 100000 in
theorem c_X11_stroll {l : Launch} {D : va_G} {tc : Nat → ClassId} {ro : Ro} {ad : Nat → Nat} {μ : Mm} {v1 : Int32} {res : Int32 × Mm} (hf : f_X11_stroll μ v1 = some res) : Ct l D tc ro (faM ad) (feM tc ad) yX11_stroll cX11_stroll 2 (some .int) (rmq 9 210) [.ref (ad 0), .int v1] μ (some (.int res.1)) res.2 := by
  refine Ct.of (by decide) (Nat.le_of_ble_eq_true rfl) (fun p e s m args below meth c A C hr hk hW ls hl => ?_)
  have hx := C.1.1
  have hb := C.1.2.1
  obtain ⟨Q, hQ⟩ : ∃ Q, Q = MQ below (Ctq D (faM ad) (feM tc ad) (some (.int res.1)) res.2 A) args s 0 0 A := ⟨_, rfl⟩
  rw [← hQ]
  have hl : lv_has ls 2 [(0, .ref (ad 0)), (1, .int v1)] := hl
  unfold f_X11_stroll at hf
  refine lv_aload_n hx hb dX11_stroll_0 rfl (lv_at hl 0 rfl) ?_
  refine lv_iconst (v := 0) hx hb dX11_stroll_1 (by decide) ?_
  refine pf_X11_3 C hW dX11_stroll_2 (fun H locs hW => ?_)
  refine lv_aload_n hx hb dX11_stroll_5 rfl (lv_at hl 0 rfl) ?_
  refine lv_iload_n hx hb dX11_stroll_6 rfl (lv_at hl 1 rfl) ?_
  refine lv_iconst (v := 1) hx hb dX11_stroll_7 (by decide) ?_
  refine lv_bipush (v := 30) hx hb dX11_stroll_8 (by decide) ?_
  obtain ⟨x10, h10, hf⟩ := bd_of hf
  refine r_callS C hW hl lk_X11_111 (c_X11_in h10) ⟨rfl, rfl⟩ ⟨Nat.le_of_ble_eq_true rfl, Nat.le_of_ble_eq_true rfl⟩ (As := [.int v1, .int (1 : Int32), .int (30 : Int32)]) (rest := [.ref (ad 0)]) rfl rfl (Nat.le_of_ble_eq_true rfl) dX11_stroll_10 ⟨Nat.zero_le _, Nat.zero_le _⟩ (fun H locs hW => ?_)
  show W p l e (rmq 9 210) s m args below meth c H locs 0 0 Q (F0 m 13 ls [.int x10, .ref (ad 0)])
  refine lv_if_ne (tgt := 20) hx hb dX11_stroll_13 (by decide) (fun c2 => ?_) (fun c2 => ?_)
  · have hf := (if_neg c2).symm.trans hf
    refine lv_iconst (v := 0) hx hb dX11_stroll_20 (by decide) ?_
    refine lv_iconst (v := 1) hx hb dX11_stroll_21 (by decide) ?_
    obtain ⟨x22, h22, hf⟩ := bd_of hf
    refine r_callV (k := ((0, 0) : Ky)) C hW hl lk_X11_322 (c_X11_throwsIf h22) ⟨rfl, rfl⟩ ⟨Nat.le_of_ble_eq_true rfl, Nat.le_of_ble_eq_true rfl⟩ rfl rfl rfl (As := [.int (0 : Int32), .int (1 : Int32)]) (rest := []) rfl rfl (Nat.le_of_ble_eq_true rfl) dX11_stroll_22 ⟨Nat.zero_le _, Nat.zero_le _⟩ (fun H locs hW => ?_)
    show W p l e (rmq 9 210) s m args below meth c H locs 0 0 Q (F0 m 25 ls [.int x22.1])
    refine lv_if_eq (tgt := 30) hx hb dX11_stroll_25 (by decide) (fun c4 => ?_) (fun c4 => ?_)
    · have hf := (if_pos c4).symm.trans hf
      refine lv_aload_n hx hb dX11_stroll_30 rfl (lv_at hl 0 rfl) ?_
      obtain ⟨x31, h31, hf⟩ := bd_of hf
      refine r_callV (k := ((0, 0) : Ky)) C hW hl lk_X11_362 (c_X11_remembers h31) ⟨rfl, rfl⟩ ⟨Nat.le_of_ble_eq_true rfl, Nat.le_of_ble_eq_true rfl⟩ rfl rfl rfl (As := []) (rest := []) rfl rfl (Nat.le_of_ble_eq_true rfl) dX11_stroll_31 ⟨Nat.zero_le _, Nat.zero_le _⟩ (fun H locs hW => ?_)
      show W p l e (rmq 9 210) s m args below meth c H locs 0 0 Q (F0 m 34 ls [])
      refine lv_aload_n hx hb dX11_stroll_34 rfl (lv_at hl 0 rfl) ?_
      refine lv_iload_n hx hb dX11_stroll_35 rfl (lv_at hl 1 rfl) ?_
      obtain ⟨x36, h36, hf⟩ := bd_of hf
      refine r_callV (k := ((0, 0) : Ky)) C hW hl lk_X11_386 (c_X11_strolls h36) ⟨rfl, rfl⟩ ⟨Nat.le_of_ble_eq_true rfl, Nat.le_of_ble_eq_true rfl⟩ rfl rfl rfl (As := [.int v1]) (rest := []) rfl rfl (Nat.le_of_ble_eq_true rfl) dX11_stroll_36 ⟨Nat.zero_le _, Nat.zero_le _⟩ (fun H locs hW => ?_)
      show W p l e (rmq 9 210) s m args below meth c H locs 0 0 Q (F0 m 39 ls [.int x36.1])
      obtain rfl := Option.some.inj hf
      rw [hQ]
      exact r_iret C hr hk hW rfl rfl dX11_stroll_39
    · have hf := (if_neg c4).symm.trans hf
      refine lv_iconst (v := 0) hx hb dX11_stroll_28 (by decide) ?_
      obtain rfl := Option.some.inj hf
      rw [hQ]
      exact r_iret C hr hk hW rfl rfl dX11_stroll_29
  · have hf := (if_pos c2).symm.trans hf
    refine lv_iconst (v := 1) hx hb dX11_stroll_16 (by decide) ?_
    refine lv_goto (tgt := 21) hx hb dX11_stroll_17 (by decide) ?_
    refine lv_iconst (v := 1) hx hb dX11_stroll_21 (by decide) ?_
    obtain ⟨x22, h22, hf⟩ := bd_of hf
    refine r_callV (k := ((0, 0) : Ky)) C hW hl lk_X11_322 (c_X11_throwsIf h22) ⟨rfl, rfl⟩ ⟨Nat.le_of_ble_eq_true rfl, Nat.le_of_ble_eq_true rfl⟩ rfl rfl rfl (As := [.int (1 : Int32), .int (1 : Int32)]) (rest := []) rfl rfl (Nat.le_of_ble_eq_true rfl) dX11_stroll_22 ⟨Nat.zero_le _, Nat.zero_le _⟩ (fun H locs hW => ?_)
    show W p l e (rmq 9 210) s m args below meth c H locs 0 0 Q (F0 m 25 ls [.int x22.1])
    refine lv_if_eq (tgt := 30) hx hb dX11_stroll_25 (by decide) (fun c8 => ?_) (fun c8 => ?_)
    · have hf := (if_pos c8).symm.trans hf
      refine lv_aload_n hx hb dX11_stroll_30 rfl (lv_at hl 0 rfl) ?_
      obtain ⟨x31, h31, hf⟩ := bd_of hf
      refine r_callV (k := ((0, 0) : Ky)) C hW hl lk_X11_362 (c_X11_remembers h31) ⟨rfl, rfl⟩ ⟨Nat.le_of_ble_eq_true rfl, Nat.le_of_ble_eq_true rfl⟩ rfl rfl rfl (As := []) (rest := []) rfl rfl (Nat.le_of_ble_eq_true rfl) dX11_stroll_31 ⟨Nat.zero_le _, Nat.zero_le _⟩ (fun H locs hW => ?_)
      show W p l e (rmq 9 210) s m args below meth c H locs 0 0 Q (F0 m 34 ls [])
      refine lv_aload_n hx hb dX11_stroll_34 rfl (lv_at hl 0 rfl) ?_
      refine lv_iload_n hx hb dX11_stroll_35 rfl (lv_at hl 1 rfl) ?_
      obtain ⟨x36, h36, hf⟩ := bd_of hf
      refine r_callV (k := ((0, 0) : Ky)) C hW hl lk_X11_386 (c_X11_strolls h36) ⟨rfl, rfl⟩ ⟨Nat.le_of_ble_eq_true rfl, Nat.le_of_ble_eq_true rfl⟩ rfl rfl rfl (As := [.int v1]) (rest := []) rfl rfl (Nat.le_of_ble_eq_true rfl) dX11_stroll_36 ⟨Nat.zero_le _, Nat.zero_le _⟩ (fun H locs hW => ?_)
      show W p l e (rmq 9 210) s m args below meth c H locs 0 0 Q (F0 m 39 ls [.int x36.1])
      obtain rfl := Option.some.inj hf
      rw [hQ]
      exact r_iret C hr hk hW rfl rfl dX11_stroll_39
    · have hf := (if_neg c8).symm.trans hf
      refine lv_iconst (v := 0) hx hb dX11_stroll_28 (by decide) ?_
      obtain rfl := Option.some.inj hf
      rw [hQ]
      exact r_iret C hr hk hW rfl rfl dX11_stroll_29
