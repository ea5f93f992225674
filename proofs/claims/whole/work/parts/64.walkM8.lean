set_option maxHeartbeats 4000000 in
set_option maxRecDepth 100000 in
theorem c_X11_led {l : Launch} {D : va_G} {tc : Nat → ClassId} {ro : Ro} {ad : Nat → Nat} {μ : Mm} {v1 : Int32} {res : Int32 × Mm} (hf : f_X11_led μ v1 = some res) : Ct l D tc ro (faM ad) (feM tc ad) yX11_led cX11_led 3 (some .int) (rmq 2 43) [.ref (ad 0), .int v1] μ (some (.int res.1)) res.2 := by
  refine Ct.of (by decide) (Nat.le_of_ble_eq_true rfl) (fun p e s m args below meth c A C hr hk hW ls hl => ?_)
  have hx := C.1.1
  have hb := C.1.2.1
  obtain ⟨Q, hQ⟩ : ∃ Q, Q = MQ below (Ctq D (faM ad) (feM tc ad) (some (.int res.1)) res.2 A) args s 0 0 A := ⟨_, rfl⟩
  rw [← hQ]
  have hl : lv_has ls 3 [(0, .ref (ad 0)), (1, .int v1)] := hl
  unfold f_X11_led at hf
  refine lv_aload_n hx hb dX11_led_0 rfl (lv_at hl 0 rfl) ?_
  refine lv_iconst (v := 0) hx hb dX11_led_1 (by decide) ?_
  refine pf_X11_3 C hW dX11_led_2 (fun H locs hW => ?_)
  refine lv_aload_n hx hb dX11_led_5 rfl (lv_at hl 0 rfl) ?_
  refine lv_aload_n hx hb dX11_led_6 rfl (lv_at hl 0 rfl) ?_
  refine lv_iload_n hx hb dX11_led_7 rfl (lv_at hl 1 rfl) ?_
  obtain ⟨x8, h8, hf⟩ := bd_of hf
  refine r_callV (k := ((0, 0) : Ky)) C hW hl lk_X11_359 (c_X11_noPerson h8) ⟨rfl, rfl⟩ ⟨Nat.le_of_ble_eq_true rfl, Nat.le_of_ble_eq_true rfl⟩ rfl rfl rfl (As := [.int v1]) (rest := [.ref (ad 0)]) rfl rfl (Nat.le_of_ble_eq_true rfl) dX11_led_8 ⟨Nat.zero_le _, Nat.zero_le _⟩ (fun H locs hW => ?_)
  show W p l e (rmq 2 43) s m args below meth c H locs 0 0 Q (F0 m 11 ls [.int x8, .ref (ad 0)])
  refine lv_iconst (v := 1) hx hb dX11_led_11 (by decide) ?_
  obtain ⟨x12, h12, hf⟩ := bd_of hf
  refine r_callV (k := ((0, 0) : Ky)) C hW hl lk_X11_322 (c_X11_throwsIf h12) ⟨rfl, rfl⟩ ⟨Nat.le_of_ble_eq_true rfl, Nat.le_of_ble_eq_true rfl⟩ rfl rfl rfl (As := [.int x8, .int (1 : Int32)]) (rest := []) rfl rfl (Nat.le_of_ble_eq_true rfl) dX11_led_12 ⟨Nat.zero_le _, Nat.zero_le _⟩ (fun H locs hW => ?_)
  show W p l e (rmq 2 43) s m args below meth c H locs 0 0 Q (F0 m 15 ls [.int x12.1])
  refine lv_if_eq (tgt := 20) hx hb dX11_led_15 (by decide) (fun c3 => ?_) (fun c3 => ?_)
  · have hf := (if_pos c3).symm.trans hf
    refine lv_iconst (v := 0) hx hb dX11_led_20 (by decide) ?_
    refine lv_istore_n (lv' := [(2, .int (0 : Int32)), (0, .ref (ad 0)), (1, .int v1)]) hx hb dX11_led_21 rfl hl (by decide) rfl (fun ls hl => ?_)
    have L22 : ∀ (μ : Mm) (v2 : Int32) (H : Heap) (locs : List Loc) (ls : Array Slot), Wh (fun z : Int32 => f_X11_led_L22 v1 μ z) (v2) = some res → Wd D (faM ad) (feM tc ad) A s.heap μ H locs → lv_has ls 3 [(0, .ref (ad 0)), (1, .int v1), (2, .int v2)] → W p l e (rmq 2 43) s m args below meth c H locs 0 0 Q (F0 m 22 ls []) := by
      intro μ v2 H locs ls hf hW hl
      refine Wh_rule hf (fun z : Int32 => ∀ (H : Heap) (locs : List Loc) (ls : Array Slot), Wd D (faM ad) (feM tc ad) A s.heap μ H locs → lv_has ls 3 [(0, .ref (ad 0)), (1, .int v1), (2, .int z)] → W p l e (rmq 2 43) s m args below meth c H locs 0 0 Q (F0 m 22 ls [])) (fun z o1 hf Kl1 Kr1 => ?_) _ _ _ hW hl
      obtain ⟨v2, ez⟩ : ∃ q, q = z := ⟨_, rfl⟩
      subst ez
      intro H locs ls hW hl
      have hf : f_X11_led_L22 v1 μ v2 = some o1 := hf
      unfold f_X11_led_L22 at hf
      have hW : Wd D (faM ad) (feM tc ad) A s.heap μ H locs := hW
      have hl : lv_has ls 3 [(0, .ref (ad 0)), (1, .int v1), (2, .int v2)] := hl
      refine lv_iload_n hx hb dX11_led_22 rfl (lv_at hl 2 rfl) ?_
      refine lv_aload_n hx hb dX11_led_23 rfl (lv_at hl 0 rfl) ?_
      refine gf_X11_13 C hW dX11_led_24 ?_
      refine lv_bipush (v := 9) hx hb dX11_led_27 (by decide) ?_
      obtain ⟨hi4, hf⟩ := ck_of hf
      refine r_iald (k := ((1, 0) : Ky)) (n := 7114) C hW rfl rfl hi4 dX11_led_29 ?_
      refine lv_icmp_ge (tgt := 60) hx hb dX11_led_30 (by decide) (fun c5 => ?_) (fun c5 => ?_)
      · have hf := (if_pos c5).symm.trans hf
        obtain ⟨x9007, hf, hx9007⟩ := map_of hf
        have e9007 := (Kr1 _ hx9007.symm).symm
        subst e9007
        refine lv_iload_n hx hb dX11_led_60 rfl (lv_at hl 2 rfl) ?_
        refine lv_if_ne (tgt := 68) hx hb dX11_led_61 (by decide) (fun c6 => ?_) (fun c6 => ?_)
        · have hf := (if_neg c6).symm.trans hf
          refine lv_iload_n hx hb dX11_led_68 rfl (lv_at hl 2 rfl) ?_
          refine lv_iconst (v := 1) hx hb dX11_led_69 (by decide) ?_
          refine lv_isub hx hb dX11_led_70 ?_
          obtain rfl := Option.some.inj hf
          rw [hQ]
          exact r_iret C hr hk hW rfl rfl dX11_led_71
        · have hf := (if_pos c6).symm.trans hf
          refine lv_iconst (v := -1) hx hb dX11_led_64 (by decide) ?_
          refine lv_goto (tgt := 71) hx hb dX11_led_65 (by decide) ?_
          obtain rfl := Option.some.inj hf
          rw [hQ]
          exact r_iret C hr hk hW rfl rfl dX11_led_71
      · have hf := (if_neg c5).symm.trans hf
        refine lv_aload_n hx hb dX11_led_33 rfl (lv_at hl 0 rfl) ?_
        refine gf_X11_13 C hW dX11_led_34 ?_
        refine lv_sipush (v := 5140) hx hb dX11_led_37 (by decide) ?_
        refine lv_iconst (v := 5) hx hb dX11_led_40 (by decide) ?_
        refine lv_iload_n hx hb dX11_led_41 rfl (lv_at hl 2 rfl) ?_
        refine lv_imul hx hb dX11_led_42 ?_
        refine lv_iadd hx hb dX11_led_43 ?_
        refine lv_iconst (v := 4) hx hb dX11_led_44 (by decide) ?_
        refine lv_iadd hx hb dX11_led_45 ?_
        obtain ⟨hi8, hf⟩ := ck_of hf
        refine r_iald (k := ((1, 0) : Ky)) (n := 7114) C hW rfl rfl hi8 dX11_led_46 ?_
        refine lv_iload_n hx hb dX11_led_47 rfl (lv_at hl 1 rfl) ?_
        obtain ⟨x48, h48, hf⟩ := bd_of hf
        refine r_callS C hW hl lk_X11_103 (c_X11_has h48) ⟨rfl, rfl⟩ ⟨Nat.le_of_ble_eq_true rfl, Nat.le_of_ble_eq_true rfl⟩ (As := [.int (μ (1, 0) (((5140 : Int32) + ((5 : Int32) * v2)) + (4 : Int32)).toNatClampNeg), .int v1]) (rest := []) rfl rfl (Nat.le_of_ble_eq_true rfl) dX11_led_48 ⟨Nat.zero_le _, Nat.zero_le _⟩ (fun H locs hW => ?_)
        show W p l e (rmq 2 43) s m args below meth c H locs 0 0 Q (F0 m 51 ls [.int x48])
        refine lv_if_eq (tgt := 60) hx hb dX11_led_51 (by decide) (fun c10 => ?_) (fun c10 => ?_)
        · have hf := (if_pos c10).symm.trans hf
          obtain ⟨x9012, hf, hx9012⟩ := map_of hf
          have e9012 := (Kr1 _ hx9012.symm).symm
          subst e9012
          refine lv_iload_n hx hb dX11_led_60 rfl (lv_at hl 2 rfl) ?_
          refine lv_if_ne (tgt := 68) hx hb dX11_led_61 (by decide) (fun c11 => ?_) (fun c11 => ?_)
          · have hf := (if_neg c11).symm.trans hf
            refine lv_iload_n hx hb dX11_led_68 rfl (lv_at hl 2 rfl) ?_
            refine lv_iconst (v := 1) hx hb dX11_led_69 (by decide) ?_
            refine lv_isub hx hb dX11_led_70 ?_
            obtain rfl := Option.some.inj hf
            rw [hQ]
            exact r_iret C hr hk hW rfl rfl dX11_led_71
          · have hf := (if_pos c11).symm.trans hf
            refine lv_iconst (v := -1) hx hb dX11_led_64 (by decide) ?_
            refine lv_goto (tgt := 71) hx hb dX11_led_65 (by decide) ?_
            obtain rfl := Option.some.inj hf
            rw [hQ]
            exact r_iret C hr hk hW rfl rfl dX11_led_71
        · have hf := (if_neg c10).symm.trans hf
          refine lv_iinc (v := (v2 + (1 : Int32))) (lv' := [(2, .int (v2 + (1 : Int32))), (0, .ref (ad 0)), (1, .int v1)]) hx hb dX11_led_54 hl (k := 2) rfl rfl (by decide) rfl (fun ls hl => ?_)
          refine lv_goto (tgt := 22) hx hb dX11_led_57 (by decide) ?_
          obtain rfl := Option.some.inj hf
          exact Kl1 _ rfl _ _ _ hW (lv_sub hl [1, 2, 0] rfl)
    exact L22 x12.2 (0 : Int32) _ _ _ hf hW (lv_sub hl [1, 2, 0] rfl)
  · have hf := (if_neg c3).symm.trans hf
    refine lv_iconst (v := 0) hx hb dX11_led_18 (by decide) ?_
    obtain rfl := Option.some.inj hf
    rw [hQ]
    exact r_iret C hr hk hW rfl rfl dX11_led_19
set_option maxHeartbeats 4000000 in
set_option maxRecDepth 100000 in
theorem c_X11_widest {l : Launch} {D : va_G} {tc : Nat → ClassId} {ro : Ro} {ad : Nat → Nat} {μ : Mm} {res : Int32 × Mm} (hf : f_X11_widest μ = some res) : Ct l D tc ro (faM ad) (feM tc ad) yX11_widest cX11_widest 3 (some .int) (rmq 2 46) [.ref (ad 0)] μ (some (.int res.1)) res.2 := by
  refine Ct.of (by decide) (Nat.le_of_ble_eq_true rfl) (fun p e s m args below meth c A C hr hk hW ls hl => ?_)
  have hx := C.1.1
  have hb := C.1.2.1
  obtain ⟨Q, hQ⟩ : ∃ Q, Q = MQ below (Ctq D (faM ad) (feM tc ad) (some (.int res.1)) res.2 A) args s 0 0 A := ⟨_, rfl⟩
  rw [← hQ]
  have hl : lv_has ls 3 [(0, .ref (ad 0))] := hl
  unfold f_X11_widest at hf
  refine lv_aload_n hx hb dX11_widest_0 rfl (lv_at hl 0 rfl) ?_
  refine lv_iconst (v := 0) hx hb dX11_widest_1 (by decide) ?_
  refine pf_X11_3 C hW dX11_widest_2 (fun H locs hW => ?_)
  refine lv_iconst (v := -1) hx hb dX11_widest_5 (by decide) ?_
  refine lv_istore_n (lv' := [(1, .int (-1 : Int32)), (0, .ref (ad 0))]) hx hb dX11_widest_6 rfl hl (by decide) rfl (fun ls hl => ?_)
  refine lv_iconst (v := 0) hx hb dX11_widest_7 (by decide) ?_
  refine lv_istore_n (lv' := [(2, .int (0 : Int32)), (1, .int (-1 : Int32)), (0, .ref (ad 0))]) hx hb dX11_widest_8 rfl hl (by decide) rfl (fun ls hl => ?_)
  have L9 : ∀ (μ : Mm) (v1 v2 : Int32) (H : Heap) (locs : List Loc) (ls : Array Slot), Wh (fun z : Int32 × Int32 => f_X11_widest_L9 μ z.1 z.2) (v1, v2) = some res → Wd D (faM ad) (feM tc ad) A s.heap μ H locs → lv_has ls 3 [(0, .ref (ad 0)), (1, .int v1), (2, .int v2)] → W p l e (rmq 2 46) s m args below meth c H locs 0 0 Q (F0 m 9 ls []) := by
    intro μ v1 v2 H locs ls hf hW hl
    refine Wh_rule hf (fun z : Int32 × Int32 => ∀ (H : Heap) (locs : List Loc) (ls : Array Slot), Wd D (faM ad) (feM tc ad) A s.heap μ H locs → lv_has ls 3 [(0, .ref (ad 0)), (1, .int z.1), (2, .int z.2)] → W p l e (rmq 2 46) s m args below meth c H locs 0 0 Q (F0 m 9 ls [])) (fun z o1 hf Kl1 Kr1 => ?_) _ _ _ hW hl
    obtain ⟨v1, v2⟩ := z
    intro H locs ls hW hl
    have hf : f_X11_widest_L9 μ v1 v2 = some o1 := hf
    unfold f_X11_widest_L9 at hf
    have hW : Wd D (faM ad) (feM tc ad) A s.heap μ H locs := hW
    have hl : lv_has ls 3 [(0, .ref (ad 0)), (1, .int v1), (2, .int v2)] := hl
    refine lv_iload_n hx hb dX11_widest_9 rfl (lv_at hl 2 rfl) ?_
    refine lv_aload_n hx hb dX11_widest_10 rfl (lv_at hl 0 rfl) ?_
    obtain ⟨x11, h11, hf⟩ := bd_of hf
    refine r_callV (k := ((0, 0) : Ky)) C hW hl lk_X11_107 (c_X11_people h11) ⟨rfl, rfl⟩ ⟨Nat.le_of_ble_eq_true rfl, Nat.le_of_ble_eq_true rfl⟩ rfl rfl rfl (As := []) (rest := [.int v2]) rfl rfl (Nat.le_of_ble_eq_true rfl) dX11_widest_11 ⟨Nat.zero_le _, Nat.zero_le _⟩ (fun H locs hW => ?_)
    show W p l e (rmq 2 46) s m args below meth c H locs 0 0 Q (F0 m 14 ls [.int x11, .int v2])
    refine lv_icmp_ge (tgt := 50) hx hb dX11_widest_14 (by decide) (fun c2 => ?_) (fun c2 => ?_)
    · have hf := (if_pos c2).symm.trans hf
      obtain ⟨x9003, hf, hx9003⟩ := map_of hf
      have e9003 := (Kr1 _ hx9003.symm).symm
      subst e9003
      refine lv_iload_n hx hb dX11_widest_50 rfl (lv_at hl 1 rfl) ?_
      obtain rfl := Option.some.inj hf
      rw [hQ]
      exact r_iret C hr hk hW rfl rfl dX11_widest_51
    · have hf := (if_neg c2).symm.trans hf
      refine lv_iload_n hx hb dX11_widest_17 rfl (lv_at hl 1 rfl) ?_
      refine lv_if_lt (tgt := 42) hx hb dX11_widest_18 (by decide) (fun c4 => ?_) (fun c4 => ?_)
      · have hf := (if_pos c4).symm.trans hf
        refine lv_iload_n hx hb dX11_widest_42 rfl (lv_at hl 2 rfl) ?_
        refine lv_istore_n (lv' := [(1, .int v2), (0, .ref (ad 0)), (2, .int v2)]) hx hb dX11_widest_43 rfl hl (by decide) rfl (fun ls hl => ?_)
        refine lv_iinc (v := (v2 + (1 : Int32))) (lv' := [(2, .int (v2 + (1 : Int32))), (1, .int v2), (0, .ref (ad 0))]) hx hb dX11_widest_44 hl (k := 2) rfl rfl (by decide) rfl (fun ls hl => ?_)
        refine lv_goto (tgt := 9) hx hb dX11_widest_47 (by decide) ?_
        obtain rfl := Option.some.inj hf
        exact Kl1 _ rfl _ _ _ hW (lv_sub hl [2, 1, 0] rfl)
      · have hf := (if_neg c4).symm.trans hf
        refine lv_aload_n hx hb dX11_widest_21 rfl (lv_at hl 0 rfl) ?_
        refine lv_iload_n hx hb dX11_widest_22 rfl (lv_at hl 2 rfl) ?_
        refine lv_aload_n hx hb dX11_widest_23 rfl (lv_at hl 0 rfl) ?_
        obtain ⟨x24, h24, hf⟩ := bd_of hf
        refine r_callV (k := ((0, 0) : Ky)) C hW hl lk_X11_121 (c_X11_here h24) ⟨rfl, rfl⟩ ⟨Nat.le_of_ble_eq_true rfl, Nat.le_of_ble_eq_true rfl⟩ rfl rfl rfl (As := []) (rest := [.int v2, .ref (ad 0)]) rfl rfl (Nat.le_of_ble_eq_true rfl) dX11_widest_24 ⟨Nat.zero_le _, Nat.zero_le _⟩ (fun H locs hW => ?_)
        show W p l e (rmq 2 46) s m args below meth c H locs 0 0 Q (F0 m 27 ls [.int x24, .int v2, .ref (ad 0)])
        obtain ⟨x27, h27, hf⟩ := bd_of hf
        refine r_callV (k := ((0, 0) : Ky)) C hW hl lk_X11_392 (c_X11_holds h27) ⟨rfl, rfl⟩ ⟨Nat.le_of_ble_eq_true rfl, Nat.le_of_ble_eq_true rfl⟩ rfl rfl rfl (As := [.int v2, .int x24]) (rest := []) rfl rfl (Nat.le_of_ble_eq_true rfl) dX11_widest_27 ⟨Nat.zero_le _, Nat.zero_le _⟩ (fun H locs hW => ?_)
        show W p l e (rmq 2 46) s m args below meth c H locs 0 0 Q (F0 m 30 ls [.int x27])
        refine lv_aload_n hx hb dX11_widest_30 rfl (lv_at hl 0 rfl) ?_
        refine lv_iload_n hx hb dX11_widest_31 rfl (lv_at hl 1 rfl) ?_
        refine lv_aload_n hx hb dX11_widest_32 rfl (lv_at hl 0 rfl) ?_
        obtain ⟨x33, h33, hf⟩ := bd_of hf
        refine r_callV (k := ((0, 0) : Ky)) C hW hl lk_X11_121 (c_X11_here h33) ⟨rfl, rfl⟩ ⟨Nat.le_of_ble_eq_true rfl, Nat.le_of_ble_eq_true rfl⟩ rfl rfl rfl (As := []) (rest := [.int v1, .ref (ad 0), .int x27]) rfl rfl (Nat.le_of_ble_eq_true rfl) dX11_widest_33 ⟨Nat.zero_le _, Nat.zero_le _⟩ (fun H locs hW => ?_)
        show W p l e (rmq 2 46) s m args below meth c H locs 0 0 Q (F0 m 36 ls [.int x33, .int v1, .ref (ad 0), .int x27])
        obtain ⟨x36, h36, hf⟩ := bd_of hf
        refine r_callV (k := ((0, 0) : Ky)) C hW hl lk_X11_392 (c_X11_holds h36) ⟨rfl, rfl⟩ ⟨Nat.le_of_ble_eq_true rfl, Nat.le_of_ble_eq_true rfl⟩ rfl rfl rfl (As := [.int v1, .int x33]) (rest := [.int x27]) rfl rfl (Nat.le_of_ble_eq_true rfl) dX11_widest_36 ⟨Nat.zero_le _, Nat.zero_le _⟩ (fun H locs hW => ?_)
        show W p l e (rmq 2 46) s m args below meth c H locs 0 0 Q (F0 m 39 ls [.int x36, .int x27])
        refine lv_icmp_le (tgt := 44) hx hb dX11_widest_39 (by decide) (fun c9 => ?_) (fun c9 => ?_)
        · have hf := (if_pos c9).symm.trans hf
          refine lv_iinc (v := (v2 + (1 : Int32))) (lv' := [(2, .int (v2 + (1 : Int32))), (0, .ref (ad 0)), (1, .int v1)]) hx hb dX11_widest_44 hl (k := 2) rfl rfl (by decide) rfl (fun ls hl => ?_)
          refine lv_goto (tgt := 9) hx hb dX11_widest_47 (by decide) ?_
          obtain rfl := Option.some.inj hf
          exact Kl1 _ rfl _ _ _ hW (lv_sub hl [1, 2, 0] rfl)
        · have hf := (if_neg c9).symm.trans hf
          refine lv_iload_n hx hb dX11_widest_42 rfl (lv_at hl 2 rfl) ?_
          refine lv_istore_n (lv' := [(1, .int v2), (0, .ref (ad 0)), (2, .int v2)]) hx hb dX11_widest_43 rfl hl (by decide) rfl (fun ls hl => ?_)
          refine lv_iinc (v := (v2 + (1 : Int32))) (lv' := [(2, .int (v2 + (1 : Int32))), (1, .int v2), (0, .ref (ad 0))]) hx hb dX11_widest_44 hl (k := 2) rfl rfl (by decide) rfl (fun ls hl => ?_)
          refine lv_goto (tgt := 9) hx hb dX11_widest_47 (by decide) ?_
          obtain rfl := Option.some.inj hf
          exact Kl1 _ rfl _ _ _ hW (lv_sub hl [2, 1, 0] rfl)
  exact L9 (mst μ (0, 0) 0 (0 : Int32)) (-1 : Int32) (0 : Int32) _ _ _ hf hW (lv_sub hl [2, 1, 0] rfl)
set_option maxHeartbeats 4000000 in
set_option maxRecDepth 100000 in
theorem c_X11_possibleAll {l : Launch} {D : va_G} {tc : Nat → ClassId} {ro : Ro} {ad : Nat → Nat} {μ : Mm} {v1 : Int32} {res : Int32 × Mm} (hf : f_X11_possibleAll μ v1 = some res) : Ct l D tc ro (faM ad) (feM tc ad) yX11_possibleAll cX11_possibleAll 4 (some .int) (rmq 4 90) [.ref (ad 0), .int v1] μ (some (.int res.1)) res.2 := by
  refine Ct.of (by decide) (Nat.le_of_ble_eq_true rfl) (fun p e s m args below meth c A C hr hk hW ls hl => ?_)
  have hx := C.1.1
  have hb := C.1.2.1
  obtain ⟨Q, hQ⟩ : ∃ Q, Q = MQ below (Ctq D (faM ad) (feM tc ad) (some (.int res.1)) res.2 A) args s 0 0 A := ⟨_, rfl⟩
  rw [← hQ]
  have hl : lv_has ls 4 [(0, .ref (ad 0)), (1, .int v1)] := hl
  unfold f_X11_possibleAll at hf
  refine lv_iconst (v := 0) hx hb dX11_possibleAll_0 (by decide) ?_
  refine lv_istore_n (lv' := [(2, .int (0 : Int32)), (0, .ref (ad 0)), (1, .int v1)]) hx hb dX11_possibleAll_1 rfl hl (by decide) rfl (fun ls hl => ?_)
  refine lv_iconst (v := 0) hx hb dX11_possibleAll_2 (by decide) ?_
  refine lv_istore_n (lv' := [(3, .int (0 : Int32)), (2, .int (0 : Int32)), (0, .ref (ad 0)), (1, .int v1)]) hx hb dX11_possibleAll_3 rfl hl (by decide) rfl (fun ls hl => ?_)
  have L4 : ∀ (μ : Mm) (v2 v3 : Int32) (H : Heap) (locs : List Loc) (ls : Array Slot), Wh (fun z : Mm × Int32 × Int32 => f_X11_possibleAll_L4 v1 z.1 z.2.1 z.2.2) (μ, v2, v3) = some res → Wd D (faM ad) (feM tc ad) A s.heap μ H locs → lv_has ls 4 [(0, .ref (ad 0)), (1, .int v1), (2, .int v2), (3, .int v3)] → W p l e (rmq 4 90) s m args below meth c H locs 0 0 Q (F0 m 4 ls []) := by
    intro μ v2 v3 H locs ls hf hW hl
    refine Wh_rule hf (fun z : Mm × Int32 × Int32 => ∀ (H : Heap) (locs : List Loc) (ls : Array Slot), Wd D (faM ad) (feM tc ad) A s.heap z.1 H locs → lv_has ls 4 [(0, .ref (ad 0)), (1, .int v1), (2, .int z.2.1), (3, .int z.2.2)] → W p l e (rmq 4 90) s m args below meth c H locs 0 0 Q (F0 m 4 ls [])) (fun z o1 hf Kl1 Kr1 => ?_) _ _ _ hW hl
    obtain ⟨μ, v2, v3⟩ := z
    intro H locs ls hW hl
    have hf : f_X11_possibleAll_L4 v1 μ v2 v3 = some o1 := hf
    unfold f_X11_possibleAll_L4 at hf
    have hW : Wd D (faM ad) (feM tc ad) A s.heap μ H locs := hW
    have hl : lv_has ls 4 [(0, .ref (ad 0)), (1, .int v1), (2, .int v2), (3, .int v3)] := hl
    refine lv_iload_n hx hb dX11_possibleAll_4 rfl (lv_at hl 3 rfl) ?_
    refine lv_aload_n hx hb dX11_possibleAll_5 rfl (lv_at hl 0 rfl) ?_
    obtain ⟨x6, h6, hf⟩ := bd_of hf
    refine r_callV (k := ((0, 0) : Ky)) C hW hl lk_X11_107 (c_X11_people h6) ⟨rfl, rfl⟩ ⟨Nat.le_of_ble_eq_true rfl, Nat.le_of_ble_eq_true rfl⟩ rfl rfl rfl (As := []) (rest := [.int v3]) rfl rfl (Nat.le_of_ble_eq_true rfl) dX11_possibleAll_6 ⟨Nat.zero_le _, Nat.zero_le _⟩ (fun H locs hW => ?_)
    show W p l e (rmq 4 90) s m args below meth c H locs 0 0 Q (F0 m 9 ls [.int x6, .int v3])
    refine lv_icmp_ge (tgt := 34) hx hb dX11_possibleAll_9 (by decide) (fun c2 => ?_) (fun c2 => ?_)
    · have hf := (if_pos c2).symm.trans hf
      obtain ⟨x9003, hf, hx9003⟩ := map_of hf
      have e9003 := (Kr1 _ hx9003.symm).symm
      subst e9003
      refine lv_iload_n hx hb dX11_possibleAll_34 rfl (lv_at hl 2 rfl) ?_
      obtain rfl := Option.some.inj hf
      rw [hQ]
      exact r_iret C hr hk hW rfl rfl dX11_possibleAll_35
    · have hf := (if_neg c2).symm.trans hf
      refine lv_iload_n hx hb dX11_possibleAll_12 rfl (lv_at hl 2 rfl) ?_
      refine lv_aload_n hx hb dX11_possibleAll_13 rfl (lv_at hl 0 rfl) ?_
      refine lv_iload_n hx hb dX11_possibleAll_14 rfl (lv_at hl 1 rfl) ?_
      refine lv_iload_n hx hb dX11_possibleAll_15 rfl (lv_at hl 3 rfl) ?_
      refine lv_aload_n hx hb dX11_possibleAll_16 rfl (lv_at hl 0 rfl) ?_
      obtain ⟨x17, h17, hf⟩ := bd_of hf
      refine r_callV (k := ((0, 0) : Ky)) C hW hl lk_X11_121 (c_X11_here h17) ⟨rfl, rfl⟩ ⟨Nat.le_of_ble_eq_true rfl, Nat.le_of_ble_eq_true rfl⟩ rfl rfl rfl (As := []) (rest := [.int v3, .int v1, .ref (ad 0), .int v2]) rfl rfl (Nat.le_of_ble_eq_true rfl) dX11_possibleAll_17 ⟨Nat.zero_le _, Nat.zero_le _⟩ (fun H locs hW => ?_)
      show W p l e (rmq 4 90) s m args below meth c H locs 0 0 Q (F0 m 20 ls [.int x17, .int v3, .int v1, .ref (ad 0), .int v2])
      obtain ⟨x20, h20, hf⟩ := bd_of hf
      refine r_callV (k := ((0, 0) : Ky)) C hW hl lk_X11_139 (c_X11_possibleOf h20) ⟨rfl, rfl⟩ ⟨Nat.le_of_ble_eq_true rfl, Nat.le_of_ble_eq_true rfl⟩ rfl rfl rfl (As := [.int v1, .int v3, .int x17]) (rest := [.int v2]) rfl rfl (Nat.le_of_ble_eq_true rfl) dX11_possibleAll_20 ⟨Nat.zero_le _, Nat.zero_le _⟩ (fun H locs hW => ?_)
      show W p l e (rmq 4 90) s m args below meth c H locs 0 0 Q (F0 m 23 ls [.int x20.1, .int v2])
      obtain ⟨x23, h23, hf⟩ := bd_of hf
      refine r_callS C hW hl lk_X11_418 (c_J6_bitCount_0f7a4 h23) ⟨rfl, rfl⟩ ⟨Nat.le_of_ble_eq_true rfl, Nat.le_of_ble_eq_true rfl⟩ (As := [.int x20.1]) (rest := [.int v2]) rfl rfl (Nat.le_of_ble_eq_true rfl) dX11_possibleAll_23 ⟨Nat.zero_le _, Nat.zero_le _⟩ (fun H locs hW => ?_)
      show W p l e (rmq 4 90) s m args below meth c H locs 0 0 Q (F0 m 26 ls [.int x23, .int v2])
      refine lv_iadd hx hb dX11_possibleAll_26 ?_
      refine lv_istore_n (lv' := [(2, .int (v2 + x23)), (0, .ref (ad 0)), (1, .int v1), (3, .int v3)]) hx hb dX11_possibleAll_27 rfl hl (by decide) rfl (fun ls hl => ?_)
      refine lv_iinc (v := (v3 + (1 : Int32))) (lv' := [(3, .int (v3 + (1 : Int32))), (2, .int (v2 + x23)), (0, .ref (ad 0)), (1, .int v1)]) hx hb dX11_possibleAll_28 hl (k := 3) rfl rfl (by decide) rfl (fun ls hl => ?_)
      refine lv_goto (tgt := 4) hx hb dX11_possibleAll_31 (by decide) ?_
      obtain rfl := Option.some.inj hf
      exact Kl1 _ rfl _ _ _ hW (lv_sub hl [2, 3, 1, 0] rfl)
  exact L4 μ (0 : Int32) (0 : Int32) _ _ _ hf hW (lv_sub hl [2, 3, 1, 0] rfl)
set_option maxHeartbeats 4000000 in
set_option maxRecDepth 100000 in
theorem c_X11_under {l : Launch} {D : va_G} {tc : Nat → ClassId} {ro : Ro} {ad : Nat → Nat} {μ : Mm} {res : Int32 × Mm} (hf : f_X11_under μ = some res) : Ct l D tc ro (faM ad) (feM tc ad) yX11_under cX11_under 3 (some .int) (rmq 5 113) [.ref (ad 0)] μ (some (.int res.1)) res.2 := by
  refine Ct.of (by decide) (Nat.le_of_ble_eq_true rfl) (fun p e s m args below meth c A C hr hk hW ls hl => ?_)
  have hx := C.1.1
  have hb := C.1.2.1
  obtain ⟨Q, hQ⟩ : ∃ Q, Q = MQ below (Ctq D (faM ad) (feM tc ad) (some (.int res.1)) res.2 A) args s 0 0 A := ⟨_, rfl⟩
  rw [← hQ]
  have hl : lv_has ls 3 [(0, .ref (ad 0))] := hl
  unfold f_X11_under at hf
  refine lv_aload_n hx hb dX11_under_0 rfl (lv_at hl 0 rfl) ?_
  refine lv_iconst (v := 0) hx hb dX11_under_1 (by decide) ?_
  refine pf_X11_3 C hW dX11_under_2 (fun H locs hW => ?_)
  refine lv_iconst (v := -1) hx hb dX11_under_5 (by decide) ?_
  refine lv_istore_n (lv' := [(1, .int (-1 : Int32)), (0, .ref (ad 0))]) hx hb dX11_under_6 rfl hl (by decide) rfl (fun ls hl => ?_)
  refine lv_iconst (v := 0) hx hb dX11_under_7 (by decide) ?_
  refine lv_istore_n (lv' := [(2, .int (0 : Int32)), (1, .int (-1 : Int32)), (0, .ref (ad 0))]) hx hb dX11_under_8 rfl hl (by decide) rfl (fun ls hl => ?_)
  have L9 : ∀ (μ : Mm) (v1 v2 : Int32) (H : Heap) (locs : List Loc) (ls : Array Slot), Wh (fun z : Mm × Int32 × Int32 => f_X11_under_L9 z.1 z.2.1 z.2.2) (μ, v1, v2) = some res → Wd D (faM ad) (feM tc ad) A s.heap μ H locs → lv_has ls 3 [(0, .ref (ad 0)), (1, .int v1), (2, .int v2)] → W p l e (rmq 5 113) s m args below meth c H locs 0 0 Q (F0 m 9 ls []) := by
    intro μ v1 v2 H locs ls hf hW hl
    refine Wh_rule hf (fun z : Mm × Int32 × Int32 => ∀ (H : Heap) (locs : List Loc) (ls : Array Slot), Wd D (faM ad) (feM tc ad) A s.heap z.1 H locs → lv_has ls 3 [(0, .ref (ad 0)), (1, .int z.2.1), (2, .int z.2.2)] → W p l e (rmq 5 113) s m args below meth c H locs 0 0 Q (F0 m 9 ls [])) (fun z o1 hf Kl1 Kr1 => ?_) _ _ _ hW hl
    obtain ⟨μ, v1, v2⟩ := z
    intro H locs ls hW hl
    have hf : f_X11_under_L9 μ v1 v2 = some o1 := hf
    unfold f_X11_under_L9 at hf
    have hW : Wd D (faM ad) (feM tc ad) A s.heap μ H locs := hW
    have hl : lv_has ls 3 [(0, .ref (ad 0)), (1, .int v1), (2, .int v2)] := hl
    refine lv_iload_n hx hb dX11_under_9 rfl (lv_at hl 2 rfl) ?_
    refine lv_aload_n hx hb dX11_under_10 rfl (lv_at hl 0 rfl) ?_
    obtain ⟨x11, h11, hf⟩ := bd_of hf
    refine r_callV (k := ((0, 0) : Ky)) C hW hl lk_X11_107 (c_X11_people h11) ⟨rfl, rfl⟩ ⟨Nat.le_of_ble_eq_true rfl, Nat.le_of_ble_eq_true rfl⟩ rfl rfl rfl (As := []) (rest := [.int v2]) rfl rfl (Nat.le_of_ble_eq_true rfl) dX11_under_11 ⟨Nat.zero_le _, Nat.zero_le _⟩ (fun H locs hW => ?_)
    show W p l e (rmq 5 113) s m args below meth c H locs 0 0 Q (F0 m 14 ls [.int x11, .int v2])
    refine lv_icmp_ge (tgt := 42) hx hb dX11_under_14 (by decide) (fun c2 => ?_) (fun c2 => ?_)
    · have hf := (if_pos c2).symm.trans hf
      obtain ⟨x9003, hf, hx9003⟩ := map_of hf
      have e9003 := (Kr1 _ hx9003.symm).symm
      subst e9003
      refine lv_iload_n hx hb dX11_under_42 rfl (lv_at hl 1 rfl) ?_
      obtain rfl := Option.some.inj hf
      rw [hQ]
      exact r_iret C hr hk hW rfl rfl dX11_under_43
    · have hf := (if_neg c2).symm.trans hf
      refine lv_iload_n hx hb dX11_under_17 rfl (lv_at hl 1 rfl) ?_
      refine lv_if_lt (tgt := 34) hx hb dX11_under_18 (by decide) (fun c4 => ?_) (fun c4 => ?_)
      · have hf := (if_pos c4).symm.trans hf
        refine lv_iload_n hx hb dX11_under_34 rfl (lv_at hl 2 rfl) ?_
        refine lv_istore_n (lv' := [(1, .int v2), (0, .ref (ad 0)), (2, .int v2)]) hx hb dX11_under_35 rfl hl (by decide) rfl (fun ls hl => ?_)
        refine lv_iinc (v := (v2 + (1 : Int32))) (lv' := [(2, .int (v2 + (1 : Int32))), (1, .int v2), (0, .ref (ad 0))]) hx hb dX11_under_36 hl (k := 2) rfl rfl (by decide) rfl (fun ls hl => ?_)
        refine lv_goto (tgt := 9) hx hb dX11_under_39 (by decide) ?_
        obtain rfl := Option.some.inj hf
        exact Kl1 _ rfl _ _ _ hW (lv_sub hl [2, 1, 0] rfl)
      · have hf := (if_neg c4).symm.trans hf
        refine lv_aload_n hx hb dX11_under_21 rfl (lv_at hl 0 rfl) ?_
        refine lv_iload_n hx hb dX11_under_22 rfl (lv_at hl 2 rfl) ?_
        obtain ⟨x23, h23, hf⟩ := bd_of hf
        refine r_callV (k := ((0, 0) : Ky)) C hW hl lk_X11_473 (c_X11_possibleAll h23) ⟨rfl, rfl⟩ ⟨Nat.le_of_ble_eq_true rfl, Nat.le_of_ble_eq_true rfl⟩ rfl rfl rfl (As := [.int v2]) (rest := []) rfl rfl (Nat.le_of_ble_eq_true rfl) dX11_under_23 ⟨Nat.zero_le _, Nat.zero_le _⟩ (fun H locs hW => ?_)
        show W p l e (rmq 5 113) s m args below meth c H locs 0 0 Q (F0 m 26 ls [.int x23.1])
        refine lv_aload_n hx hb dX11_under_26 rfl (lv_at hl 0 rfl) ?_
        refine lv_iload_n hx hb dX11_under_27 rfl (lv_at hl 1 rfl) ?_
        obtain ⟨x28, h28, hf⟩ := bd_of hf
        refine r_callV (k := ((0, 0) : Ky)) C hW hl lk_X11_473 (c_X11_possibleAll h28) ⟨rfl, rfl⟩ ⟨Nat.le_of_ble_eq_true rfl, Nat.le_of_ble_eq_true rfl⟩ rfl rfl rfl (As := [.int v1]) (rest := [.int x23.1]) rfl rfl (Nat.le_of_ble_eq_true rfl) dX11_under_28 ⟨Nat.zero_le _, Nat.zero_le _⟩ (fun H locs hW => ?_)
        show W p l e (rmq 5 113) s m args below meth c H locs 0 0 Q (F0 m 31 ls [.int x28.1, .int x23.1])
        refine lv_icmp_ge (tgt := 36) hx hb dX11_under_31 (by decide) (fun c7 => ?_) (fun c7 => ?_)
        · have hf := (if_pos c7).symm.trans hf
          refine lv_iinc (v := (v2 + (1 : Int32))) (lv' := [(2, .int (v2 + (1 : Int32))), (0, .ref (ad 0)), (1, .int v1)]) hx hb dX11_under_36 hl (k := 2) rfl rfl (by decide) rfl (fun ls hl => ?_)
          refine lv_goto (tgt := 9) hx hb dX11_under_39 (by decide) ?_
          obtain rfl := Option.some.inj hf
          exact Kl1 _ rfl _ _ _ hW (lv_sub hl [1, 2, 0] rfl)
        · have hf := (if_neg c7).symm.trans hf
          refine lv_iload_n hx hb dX11_under_34 rfl (lv_at hl 2 rfl) ?_
          refine lv_istore_n (lv' := [(1, .int v2), (0, .ref (ad 0)), (2, .int v2)]) hx hb dX11_under_35 rfl hl (by decide) rfl (fun ls hl => ?_)
          refine lv_iinc (v := (v2 + (1 : Int32))) (lv' := [(2, .int (v2 + (1 : Int32))), (1, .int v2), (0, .ref (ad 0))]) hx hb dX11_under_36 hl (k := 2) rfl rfl (by decide) rfl (fun ls hl => ?_)
          refine lv_goto (tgt := 9) hx hb dX11_under_39 (by decide) ?_
          obtain rfl := Option.some.inj hf
          exact Kl1 _ rfl _ _ _ hW (lv_sub hl [2, 1, 0] rfl)
  exact L9 (mst μ (0, 0) 0 (0 : Int32)) (-1 : Int32) (0 : Int32) _ _ _ hf hW (lv_sub hl [2, 1, 0] rfl)
set_option maxHeartbeats 4000000 in
set_option maxRecDepth 100000 in
theorem c_X11_log {l : Launch} {D : va_G} {tc : Nat → ClassId} {ro : Ro} {ad : Nat → Nat} {μ : Mm} {v1 v2 : Int32} {res : Int32 × Mm} (hf : f_X11_log μ v1 v2 = some res) : Ct l D tc ro (faM ad) (feM tc ad) yX11_log cX11_log 3 (some .int) (rmq 1 22) [.ref (ad 0), .int v1, .int v2] μ (some (.int res.1)) res.2 := by
  refine Ct.of (by decide) (Nat.le_of_ble_eq_true rfl) (fun p e s m args below meth c A C hr hk hW ls hl => ?_)
  have hx := C.1.1
  have hb := C.1.2.1
  obtain ⟨Q, hQ⟩ : ∃ Q, Q = MQ below (Ctq D (faM ad) (feM tc ad) (some (.int res.1)) res.2 A) args s 0 0 A := ⟨_, rfl⟩
  rw [← hQ]
  have hl : lv_has ls 3 [(0, .ref (ad 0)), (1, .int v1), (2, .int v2)] := hl
  unfold f_X11_log at hf
  have J20 : ∀ (μ : Mm) (s0 : Int32) (H : Heap) (locs : List Loc) (ls : Array Slot), f_X11_log_J20 μ v1 v2 s0 = some res → Wd D (faM ad) (feM tc ad) A s.heap μ H locs → lv_has ls 3 [(0, .ref (ad 0)), (1, .int v1), (2, .int v2)] → W p l e (rmq 1 22) s m args below meth c H locs 0 0 Q (F0 m 20 ls [.int s0, .ref (ad 0)]) := by
    intro μ s0 H locs ls hf hW hl
    unfold f_X11_log_J20 at hf
    refine lv_iconst (v := 1) hx hb dX11_log_20 (by decide) ?_
    obtain ⟨x21, h21, hf⟩ := bd_of hf
    refine r_callV (k := ((0, 0) : Ky)) C hW hl lk_X11_322 (c_X11_throwsIf h21) ⟨rfl, rfl⟩ ⟨Nat.le_of_ble_eq_true rfl, Nat.le_of_ble_eq_true rfl⟩ rfl rfl rfl (As := [.int s0, .int (1 : Int32)]) (rest := []) rfl rfl (Nat.le_of_ble_eq_true rfl) dX11_log_21 ⟨Nat.zero_le _, Nat.zero_le _⟩ (fun H locs hW => ?_)
    show W p l e (rmq 1 22) s m args below meth c H locs 0 0 Q (F0 m 24 ls [.int x21.1])
    refine lv_if_eq (tgt := 29) hx hb dX11_log_24 (by decide) (fun c2 => ?_) (fun c2 => ?_)
    · have hf := (if_pos c2).symm.trans hf
      refine lv_iload_n hx hb dX11_log_29 rfl (lv_at hl 1 rfl) ?_
      refine lv_iconst (v := 0) hx hb dX11_log_30 (by decide) ?_
      refine lv_aload_n hx hb dX11_log_31 rfl (lv_at hl 0 rfl) ?_
      refine gf_X11_13 C hW dX11_log_32 ?_
      refine lv_bipush (v := 9) hx hb dX11_log_35 (by decide) ?_
      obtain ⟨hi3, hf⟩ := ck_of hf
      refine r_iald (k := ((1, 0) : Ky)) (n := 7114) C hW rfl rfl hi3 dX11_log_37 ?_
      refine lv_iconst (v := 1) hx hb dX11_log_38 (by decide) ?_
      refine lv_isub hx hb dX11_log_39 ?_
      obtain ⟨x40, h40, hf⟩ := bd_of hf
      refine r_callS C hW hl lk_X11_111 (c_X11_in h40) ⟨rfl, rfl⟩ ⟨Nat.le_of_ble_eq_true rfl, Nat.le_of_ble_eq_true rfl⟩ (As := [.int v1, .int (0 : Int32), .int ((x21.2 (1, 0) (9 : Int32).toNatClampNeg) - (1 : Int32))]) (rest := []) rfl rfl (Nat.le_of_ble_eq_true rfl) dX11_log_40 ⟨Nat.zero_le _, Nat.zero_le _⟩ (fun H locs hW => ?_)
      show W p l e (rmq 1 22) s m args below meth c H locs 0 0 Q (F0 m 43 ls [.int x40])
      refine lv_if_eq (tgt := 63) hx hb dX11_log_43 (by decide) (fun c5 => ?_) (fun c5 => ?_)
      · have hf := (if_pos c5).symm.trans hf
        refine lv_iconst (v := -1) hx hb dX11_log_63 (by decide) ?_
        obtain rfl := Option.some.inj hf
        rw [hQ]
        exact r_iret C hr hk hW rfl rfl dX11_log_64
      · have hf := (if_neg c5).symm.trans hf
        refine lv_aload_n hx hb dX11_log_46 rfl (lv_at hl 0 rfl) ?_
        refine gf_X11_13 C hW dX11_log_47 ?_
        refine lv_sipush (v := 5140) hx hb dX11_log_50 (by decide) ?_
        refine lv_iconst (v := 5) hx hb dX11_log_53 (by decide) ?_
        refine lv_iload_n hx hb dX11_log_54 rfl (lv_at hl 1 rfl) ?_
        refine lv_imul hx hb dX11_log_55 ?_
        refine lv_iadd hx hb dX11_log_56 ?_
        refine lv_iload_n hx hb dX11_log_57 rfl (lv_at hl 2 rfl) ?_
        refine lv_iadd hx hb dX11_log_58 ?_
        obtain ⟨hi6, hf⟩ := ck_of hf
        refine r_iald (k := ((1, 0) : Ky)) (n := 7114) C hW rfl rfl hi6 dX11_log_59 ?_
        refine lv_goto (tgt := 64) hx hb dX11_log_60 (by decide) ?_
        obtain rfl := Option.some.inj hf
        rw [hQ]
        exact r_iret C hr hk hW rfl rfl dX11_log_64
    · have hf := (if_neg c2).symm.trans hf
      refine lv_iconst (v := 0) hx hb dX11_log_27 (by decide) ?_
      obtain rfl := Option.some.inj hf
      rw [hQ]
      exact r_iret C hr hk hW rfl rfl dX11_log_28
  refine lv_aload_n hx hb dX11_log_0 rfl (lv_at hl 0 rfl) ?_
  refine lv_iconst (v := 0) hx hb dX11_log_1 (by decide) ?_
  refine pf_X11_3 C hW dX11_log_2 (fun H locs hW => ?_)
  refine lv_aload_n hx hb dX11_log_5 rfl (lv_at hl 0 rfl) ?_
  refine lv_iload_n hx hb dX11_log_6 rfl (lv_at hl 2 rfl) ?_
  refine lv_iconst (v := 0) hx hb dX11_log_7 (by decide) ?_
  refine lv_iconst (v := 4) hx hb dX11_log_8 (by decide) ?_
  obtain ⟨x9, h9, hf⟩ := bd_of hf
  refine r_callS C hW hl lk_X11_111 (c_X11_in h9) ⟨rfl, rfl⟩ ⟨Nat.le_of_ble_eq_true rfl, Nat.le_of_ble_eq_true rfl⟩ (As := [.int v2, .int (0 : Int32), .int (4 : Int32)]) (rest := [.ref (ad 0)]) rfl rfl (Nat.le_of_ble_eq_true rfl) dX11_log_9 ⟨Nat.zero_le _, Nat.zero_le _⟩ (fun H locs hW => ?_)
  show W p l e (rmq 1 22) s m args below meth c H locs 0 0 Q (F0 m 12 ls [.int x9, .ref (ad 0)])
  refine lv_if_ne (tgt := 19) hx hb dX11_log_12 (by decide) (fun c8 => ?_) (fun c8 => ?_)
  · have hf := (if_neg c8).symm.trans hf
    refine lv_iconst (v := 0) hx hb dX11_log_19 (by decide) ?_
    exact J20 (mst μ (0, 0) 0 (0 : Int32)) (0 : Int32) _ _ _ hf hW (lv_sub hl [0, 1, 2] rfl)
  · have hf := (if_pos c8).symm.trans hf
    refine lv_iconst (v := 1) hx hb dX11_log_15 (by decide) ?_
    refine lv_goto (tgt := 20) hx hb dX11_log_16 (by decide) ?_
    exact J20 (mst μ (0, 0) 0 (0 : Int32)) (1 : Int32) _ _ _ hf hW (lv_sub hl [0, 1, 2] rfl)
set_option maxHeartbeats 4000000 in
set_option maxRecDepth 100000 in
theorem c_X11_seed {l : Launch} {D : va_G} {tc : Nat → ClassId} {ro : Ro} {ad : Nat → Nat} {μ : Mm} {v1 : Int32} {res : Int32 × Mm} (hf : f_X11_seed μ v1 = some res) : Ct l D tc ro (faM ad) (feM tc ad) yX11_seed cX11_seed 3 (some .int) (rmq 0 0) [.ref (ad 0), .int v1] μ (some (.int res.1)) res.2 := by
  refine Ct.of (by decide) (Nat.le_of_ble_eq_true rfl) (fun p e s m args below meth c A C hr hk hW ls hl => ?_)
  have hx := C.1.1
  have hb := C.1.2.1
  obtain ⟨Q, hQ⟩ : ∃ Q, Q = MQ below (Ctq D (faM ad) (feM tc ad) (some (.int res.1)) res.2 A) args s 0 0 A := ⟨_, rfl⟩
  rw [← hQ]
  have hl : lv_has ls 3 [(0, .ref (ad 0)), (1, .int v1)] := hl
  unfold f_X11_seed at hf
  refine lv_aload_n hx hb dX11_seed_0 rfl (lv_at hl 0 rfl) ?_
  refine lv_iconst (v := 0) hx hb dX11_seed_1 (by decide) ?_
  refine pf_X11_3 C hW dX11_seed_2 (fun H locs hW => ?_)
  refine lv_aload_n hx hb dX11_seed_5 rfl (lv_at hl 0 rfl) ?_
  refine gf_X11_13 C hW dX11_seed_6 ?_
  refine lv_iconst (v := 5) hx hb dX11_seed_9 (by decide) ?_
  obtain ⟨hi1, hf⟩ := ck_of hf
  refine r_iald (k := ((1, 0) : Ky)) (n := 7114) C hW rfl rfl hi1 dX11_seed_10 ?_
  refine lv_istore_n (lv' := [(2, .int ((mst μ (0, 0) 0 (0 : Int32)) (1, 0) (5 : Int32).toNatClampNeg)), (0, .ref (ad 0)), (1, .int v1)]) hx hb dX11_seed_11 rfl hl (by decide) rfl (fun ls hl => ?_)
  refine lv_aload_n hx hb dX11_seed_12 rfl (lv_at hl 1 rfl) ?_
  refine gf_X11_13 C hW dX11_seed_13 ?_
  refine lv_iconst (v := 5) hx hb dX11_seed_16 (by decide) ?_
  refine lv_iload_n hx hb dX11_seed_17 rfl (lv_at hl 2 rfl) ?_
  obtain ⟨hi2, hf⟩ := ck_of hf
  refine r_iast (k := ((1, 0) : Ky)) (n := 7114) C hW rfl (fun _ => rfl) hi2 dX11_seed_18 (fun H locs hW => ?_)
  refine lv_iload_n hx hb dX11_seed_19 rfl (lv_at hl 0 rfl) ?_
  obtain rfl := Option.some.inj hf
  rw [hQ]
  exact r_iret C hr hk hW rfl rfl dX11_seed_20
set_option maxHeartbeats 4000000 in
set_option maxRecDepth 100000 in
theorem c_X11_count {l : Launch} {D : va_G} {tc : Nat → ClassId} {ro : Ro} {ad : Nat → Nat} {μ : Mm} {v1 : Int32} {res : Int32 × Mm} (hf : f_X11_count μ v1 = some res) : Ct l D tc ro (faM ad) (feM tc ad) yX11_count cX11_count 4 (some .int) (rmq 6 135) [.ref (ad 0), .int v1] μ (some (.int res.1)) res.2 := by
  refine Ct.of (by decide) (Nat.le_of_ble_eq_true rfl) (fun p e s m args below meth c A C hr hk hW ls hl => ?_)
  have hx := C.1.1
  have hb := C.1.2.1
  obtain ⟨Q, hQ⟩ : ∃ Q, Q = MQ below (Ctq D (faM ad) (feM tc ad) (some (.int res.1)) res.2 A) args s 0 0 A := ⟨_, rfl⟩
  rw [← hQ]
  have hl : lv_has ls 4 [(0, .ref (ad 0)), (1, .int v1)] := hl
  unfold f_X11_count at hf
  refine lv_aload_n hx hb dX11_count_0 rfl (lv_at hl 0 rfl) ?_
  refine lv_iconst (v := 0) hx hb dX11_count_1 (by decide) ?_
  refine pf_X11_3 C hW dX11_count_2 (fun H locs hW => ?_)
  refine lv_iconst (v := 0) hx hb dX11_count_5 (by decide) ?_
  refine lv_istore_n (lv' := [(2, .int (0 : Int32)), (0, .ref (ad 0)), (1, .int v1)]) hx hb dX11_count_6 rfl hl (by decide) rfl (fun ls hl => ?_)
  refine lv_iload_n hx hb dX11_count_7 rfl (lv_at hl 2 rfl) ?_
  by_cases c2 : v1 = (0 : Int32)
  · have hf := (if_pos c2).symm.trans hf
    refine lv_tableIn (off := 60) (tgt := 68) hx hb dX11_count_8 (by rw [c2]; decide) (by rw [c2]; decide) (by rw [c2]; rfl) (by decide) ?_
    refine lv_aload_n hx hb dX11_count_68 rfl (lv_at hl 1 rfl) ?_
    obtain ⟨x69, h69, hf⟩ := bd_of hf
    refine r_callV (k := ((0, 0) : Ky)) C hW hl lk_X11_107 (c_X11_people h69) ⟨rfl, rfl⟩ ⟨Nat.le_of_ble_eq_true rfl, Nat.le_of_ble_eq_true rfl⟩ rfl rfl rfl (As := []) (rest := []) rfl rfl (Nat.le_of_ble_eq_true rfl) dX11_count_69 ⟨Nat.zero_le _, Nat.zero_le _⟩ (fun H locs hW => ?_)
    show W p l e (rmq 6 135) s m args below meth c H locs 0 0 Q (F0 m 72 ls [.int x69])
    obtain rfl := Option.some.inj hf
    rw [hQ]
    exact r_iret C hr hk hW rfl rfl dX11_count_72
  · have hf := (if_neg c2).symm.trans hf
    have n2 := lv_neT c2 (a := 0) (by decide)
    by_cases c4 : v1 = (1 : Int32)
    · have hf := (if_pos c4).symm.trans hf
      refine lv_tableIn (off := 65) (tgt := 73) hx hb dX11_count_8 (by rw [c4]; decide) (by rw [c4]; decide) (by rw [c4]; rfl) (by decide) ?_
      refine lv_aload_n hx hb dX11_count_73 rfl (lv_at hl 1 rfl) ?_
      obtain ⟨x74, h74, hf⟩ := bd_of hf
      refine r_callV (k := ((0, 0) : Ky)) C hW hl lk_X11_118 (c_X11_values h74) ⟨rfl, rfl⟩ ⟨Nat.le_of_ble_eq_true rfl, Nat.le_of_ble_eq_true rfl⟩ rfl rfl rfl (As := []) (rest := []) rfl rfl (Nat.le_of_ble_eq_true rfl) dX11_count_74 ⟨Nat.zero_le _, Nat.zero_le _⟩ (fun H locs hW => ?_)
      show W p l e (rmq 6 135) s m args below meth c H locs 0 0 Q (F0 m 77 ls [.int x74])
      obtain rfl := Option.some.inj hf
      rw [hQ]
      exact r_iret C hr hk hW rfl rfl dX11_count_77
    · have hf := (if_neg c4).symm.trans hf
      have n4 := lv_neT c4 (a := 1) (by decide)
      by_cases c6 : v1 = (2 : Int32)
      · have hf := (if_pos c6).symm.trans hf
        refine lv_tableIn (off := 70) (tgt := 78) hx hb dX11_count_8 (by rw [c6]; decide) (by rw [c6]; decide) (by rw [c6]; rfl) (by decide) ?_
        refine lv_aload_n hx hb dX11_count_78 rfl (lv_at hl 1 rfl) ?_
        refine gf_X11_13 C hW dX11_count_79 ?_
        refine lv_iconst (v := 2) hx hb dX11_count_82 (by decide) ?_
        obtain ⟨hi7, hf⟩ := ck_of hf
        refine r_iald (k := ((1, 0) : Ky)) (n := 7114) C hW rfl rfl hi7 dX11_count_83 ?_
        obtain rfl := Option.some.inj hf
        rw [hQ]
        exact r_iret C hr hk hW rfl rfl dX11_count_84
      · have hf := (if_neg c6).symm.trans hf
        have n6 := lv_neT c6 (a := 2) (by decide)
        by_cases c8 : v1 = (3 : Int32)
        · have hf := (if_pos c8).symm.trans hf
          refine lv_tableIn (off := 77) (tgt := 85) hx hb dX11_count_8 (by rw [c8]; decide) (by rw [c8]; decide) (by rw [c8]; rfl) (by decide) ?_
          refine lv_aload_n hx hb dX11_count_85 rfl (lv_at hl 1 rfl) ?_
          refine gf_X11_13 C hW dX11_count_86 ?_
          refine lv_iconst (v := 3) hx hb dX11_count_89 (by decide) ?_
          obtain ⟨hi9, hf⟩ := ck_of hf
          refine r_iald (k := ((1, 0) : Ky)) (n := 7114) C hW rfl rfl hi9 dX11_count_90 ?_
          refine lv_iconst (v := 1) hx hb dX11_count_91 (by decide) ?_
          refine lv_icmp_ne (tgt := 106) hx hb dX11_count_92 (by decide) (fun c10 => ?_) (fun c10 => ?_)
          · have hf := (if_neg c10).symm.trans hf
            refine lv_iconst (v := -1) hx hb dX11_count_106 (by decide) ?_
            obtain rfl := Option.some.inj hf
            rw [hQ]
            exact r_iret C hr hk hW rfl rfl dX11_count_107
          · have hf := (if_pos c10).symm.trans hf
            refine lv_aload_n hx hb dX11_count_95 rfl (lv_at hl 1 rfl) ?_
            refine gf_X11_13 C hW dX11_count_96 ?_
            refine lv_sipush (v := 5440) hx hb dX11_count_99 (by decide) ?_
            obtain ⟨hi11, hf⟩ := ck_of hf
            refine r_iald (k := ((1, 0) : Ky)) (n := 7114) C hW rfl rfl hi11 dX11_count_102 ?_
            refine lv_goto (tgt := 107) hx hb dX11_count_103 (by decide) ?_
            obtain rfl := Option.some.inj hf
            rw [hQ]
            exact r_iret C hr hk hW rfl rfl dX11_count_107
        · have hf := (if_neg c8).symm.trans hf
          have n8 := lv_neT c8 (a := 3) (by decide)
          by_cases c12 : v1 = (4 : Int32)
          · have hf := (if_pos c12).symm.trans hf
            refine lv_tableIn (off := 100) (tgt := 108) hx hb dX11_count_8 (by rw [c12]; decide) (by rw [c12]; decide) (by rw [c12]; rfl) (by decide) ?_
            refine lv_aload_n hx hb dX11_count_108 rfl (lv_at hl 1 rfl) ?_
            refine gf_X11_13 C hW dX11_count_109 ?_
            refine lv_iconst (v := 4) hx hb dX11_count_112 (by decide) ?_
            obtain ⟨hi13, hf⟩ := ck_of hf
            refine r_iald (k := ((1, 0) : Ky)) (n := 7114) C hW rfl rfl hi13 dX11_count_113 ?_
            obtain rfl := Option.some.inj hf
            rw [hQ]
            exact r_iret C hr hk hW rfl rfl dX11_count_114
          · have hf := (if_neg c12).symm.trans hf
            have n12 := lv_neT c12 (a := 4) (by decide)
            by_cases c14 : v1 = (5 : Int32)
            · have hf := (if_pos c14).symm.trans hf
              refine lv_tableIn (off := 107) (tgt := 115) hx hb dX11_count_8 (by rw [c14]; decide) (by rw [c14]; decide) (by rw [c14]; rfl) (by decide) ?_
              refine lv_aload_n hx hb dX11_count_115 rfl (lv_at hl 1 rfl) ?_
              obtain ⟨x116, h116, hf⟩ := bd_of hf
              refine r_callV (k := ((0, 0) : Ky)) C hW hl lk_X11_115 (c_X11_worlds h116) ⟨rfl, rfl⟩ ⟨Nat.le_of_ble_eq_true rfl, Nat.le_of_ble_eq_true rfl⟩ rfl rfl rfl (As := []) (rest := []) rfl rfl (Nat.le_of_ble_eq_true rfl) dX11_count_116 ⟨Nat.zero_le _, Nat.zero_le _⟩ (fun H locs hW => ?_)
              show W p l e (rmq 6 135) s m args below meth c H locs 0 0 Q (F0 m 119 ls [.int x116])
              obtain rfl := Option.some.inj hf
              rw [hQ]
              exact r_iret C hr hk hW rfl rfl dX11_count_119
            · have hf := (if_neg c14).symm.trans hf
              have n14 := lv_neT c14 (a := 5) (by decide)
              by_cases c16 : v1 = (6 : Int32)
              · have hf := (if_pos c16).symm.trans hf
                refine lv_tableIn (off := 112) (tgt := 120) hx hb dX11_count_8 (by rw [c16]; decide) (by rw [c16]; decide) (by rw [c16]; rfl) (by decide) ?_
                refine lv_iconst (v := 0) hx hb dX11_count_120 (by decide) ?_
                refine lv_istore_n (lv' := [(3, .int (0 : Int32)), (2, .int (0 : Int32)), (0, .ref (ad 0)), (1, .int v1)]) hx hb dX11_count_121 rfl hl (by decide) rfl (fun ls hl => ?_)
                have L122 : ∀ (μ : Mm) (v2 v3 : Int32) (H : Heap) (locs : List Loc) (ls : Array Slot), Wh (fun z : Int32 × Int32 => f_X11_count_L122 μ z.1 z.2) (v2, v3) = some res → Wd D (faM ad) (feM tc ad) A s.heap μ H locs → lv_has ls 4 [(0, .ref (ad 0)), (2, .int v2), (3, .int v3)] → W p l e (rmq 6 135) s m args below meth c H locs 0 0 Q (F0 m 122 ls []) := by
                  intro μ v2 v3 H locs ls hf hW hl
                  refine Wh_rule hf (fun z : Int32 × Int32 => ∀ (H : Heap) (locs : List Loc) (ls : Array Slot), Wd D (faM ad) (feM tc ad) A s.heap μ H locs → lv_has ls 4 [(0, .ref (ad 0)), (2, .int z.1), (3, .int z.2)] → W p l e (rmq 6 135) s m args below meth c H locs 0 0 Q (F0 m 122 ls [])) (fun z o1 hf Kl1 Kr1 => ?_) _ _ _ hW hl
                  obtain ⟨v2, v3⟩ := z
                  intro H locs ls hW hl
                  have hf : f_X11_count_L122 μ v2 v3 = some o1 := hf
                  unfold f_X11_count_L122 at hf
                  have hW : Wd D (faM ad) (feM tc ad) A s.heap μ H locs := hW
                  have hl : lv_has ls 4 [(0, .ref (ad 0)), (2, .int v2), (3, .int v3)] := hl
                  refine lv_iload_n hx hb dX11_count_122 rfl (lv_at hl 2 rfl) ?_
                  refine lv_aload_n hx hb dX11_count_123 rfl (lv_at hl 0 rfl) ?_
                  obtain ⟨x124, h124, hf⟩ := bd_of hf
                  refine r_callV (k := ((0, 0) : Ky)) C hW hl lk_X11_115 (c_X11_worlds h124) ⟨rfl, rfl⟩ ⟨Nat.le_of_ble_eq_true rfl, Nat.le_of_ble_eq_true rfl⟩ rfl rfl rfl (As := []) (rest := [.int v3]) rfl rfl (Nat.le_of_ble_eq_true rfl) dX11_count_124 ⟨Nat.zero_le _, Nat.zero_le _⟩ (fun H locs hW => ?_)
                  show W p l e (rmq 6 135) s m args below meth c H locs 0 0 Q (F0 m 127 ls [.int x124, .int v3])
                  refine lv_icmp_ge (tgt := 152) hx hb dX11_count_127 (by decide) (fun c18 => ?_) (fun c18 => ?_)
                  · have hf := (if_pos c18).symm.trans hf
                    obtain ⟨x9019, hf, hx9019⟩ := map_of hf
                    have e9019 := (Kr1 _ hx9019.symm).symm
                    subst e9019
                    refine lv_iload_n hx hb dX11_count_152 rfl (lv_at hl 1 rfl) ?_
                    obtain rfl := Option.some.inj hf
                    rw [hQ]
                    exact r_iret C hr hk hW rfl rfl dX11_count_153
                  · have hf := (if_neg c18).symm.trans hf
                    refine lv_iload_n hx hb dX11_count_130 rfl (lv_at hl 1 rfl) ?_
                    refine lv_aload_n hx hb dX11_count_131 rfl (lv_at hl 0 rfl) ?_
                    refine lv_iload_n hx hb dX11_count_132 rfl (lv_at hl 2 rfl) ?_
                    obtain ⟨x133, h133, hf⟩ := bd_of hf
                    refine r_callV (k := ((0, 0) : Ky)) C hW hl lk_X11_128 (c_X11_isLeft h133) ⟨rfl, rfl⟩ ⟨Nat.le_of_ble_eq_true rfl, Nat.le_of_ble_eq_true rfl⟩ rfl rfl rfl (As := [.int v3]) (rest := [.int v2]) rfl rfl (Nat.le_of_ble_eq_true rfl) dX11_count_133 ⟨Nat.zero_le _, Nat.zero_le _⟩ (fun H locs hW => ?_)
                    show W p l e (rmq 6 135) s m args below meth c H locs 0 0 Q (F0 m 136 ls [.int x133, .int v2])
                    refine lv_if_eq (tgt := 143) hx hb dX11_count_136 (by decide) (fun c21 => ?_) (fun c21 => ?_)
                    · have hf := (if_pos c21).symm.trans hf
                      refine lv_iconst (v := 0) hx hb dX11_count_143 (by decide) ?_
                      refine lv_iadd hx hb dX11_count_144 ?_
                      refine lv_istore_n (lv' := [(2, .int (v2 + (0 : Int32))), (0, .ref (ad 0)), (3, .int v3)]) hx hb dX11_count_145 rfl hl (by decide) rfl (fun ls hl => ?_)
                      refine lv_iinc (v := (v3 + (1 : Int32))) (lv' := [(3, .int (v3 + (1 : Int32))), (2, .int (v2 + (0 : Int32))), (0, .ref (ad 0))]) hx hb dX11_count_146 hl (k := 2) rfl rfl (by decide) rfl (fun ls hl => ?_)
                      refine lv_goto (tgt := 122) hx hb dX11_count_149 (by decide) ?_
                      obtain rfl := Option.some.inj hf
                      exact Kl1 _ rfl _ _ _ hW (lv_sub hl [2, 1, 0] rfl)
                    · have hf := (if_neg c21).symm.trans hf
                      refine lv_iconst (v := 1) hx hb dX11_count_139 (by decide) ?_
                      refine lv_goto (tgt := 144) hx hb dX11_count_140 (by decide) ?_
                      refine lv_iadd hx hb dX11_count_144 ?_
                      refine lv_istore_n (lv' := [(2, .int (v2 + (1 : Int32))), (0, .ref (ad 0)), (3, .int v3)]) hx hb dX11_count_145 rfl hl (by decide) rfl (fun ls hl => ?_)
                      refine lv_iinc (v := (v3 + (1 : Int32))) (lv' := [(3, .int (v3 + (1 : Int32))), (2, .int (v2 + (1 : Int32))), (0, .ref (ad 0))]) hx hb dX11_count_146 hl (k := 2) rfl rfl (by decide) rfl (fun ls hl => ?_)
                      refine lv_goto (tgt := 122) hx hb dX11_count_149 (by decide) ?_
                      obtain rfl := Option.some.inj hf
                      exact Kl1 _ rfl _ _ _ hW (lv_sub hl [2, 1, 0] rfl)
                exact L122 (mst μ (0, 0) 0 (0 : Int32)) (0 : Int32) (0 : Int32) _ _ _ hf hW (lv_sub hl [2, 1, 0] rfl)
              · have hf := (if_neg c16).symm.trans hf
                have n16 := lv_neT c16 (a := 6) (by decide)
                by_cases c22 : v1 = (7 : Int32)
                · have hf := (if_pos c22).symm.trans hf
                  refine lv_tableIn (off := 146) (tgt := 154) hx hb dX11_count_8 (by rw [c22]; decide) (by rw [c22]; decide) (by rw [c22]; rfl) (by decide) ?_
                  refine lv_aload_n hx hb dX11_count_154 rfl (lv_at hl 1 rfl) ?_
                  obtain ⟨x155, h155, hf⟩ := bd_of hf
                  refine r_callV (k := ((0, 0) : Ky)) C hW hl lk_X11_121 (c_X11_here h155) ⟨rfl, rfl⟩ ⟨Nat.le_of_ble_eq_true rfl, Nat.le_of_ble_eq_true rfl⟩ rfl rfl rfl (As := []) (rest := []) rfl rfl (Nat.le_of_ble_eq_true rfl) dX11_count_155 ⟨Nat.zero_le _, Nat.zero_le _⟩ (fun H locs hW => ?_)
                  show W p l e (rmq 6 135) s m args below meth c H locs 0 0 Q (F0 m 158 ls [.int x155])
                  obtain rfl := Option.some.inj hf
                  rw [hQ]
                  exact r_iret C hr hk hW rfl rfl dX11_count_158
                · have hf := (if_neg c22).symm.trans hf
                  have n22 := lv_neT c22 (a := 7) (by decide)
                  by_cases c24 : v1 = (8 : Int32)
                  · have hf := (if_pos c24).symm.trans hf
                    refine lv_tableIn (off := 151) (tgt := 159) hx hb dX11_count_8 (by rw [c24]; decide) (by rw [c24]; decide) (by rw [c24]; rfl) (by decide) ?_
                    refine lv_aload_n hx hb dX11_count_159 rfl (lv_at hl 1 rfl) ?_
                    refine lv_aload_n hx hb dX11_count_160 rfl (lv_at hl 1 rfl) ?_
                    obtain ⟨x161, h161, hf⟩ := bd_of hf
                    refine r_callV (k := ((0, 0) : Ky)) C hW hl lk_X11_121 (c_X11_here h161) ⟨rfl, rfl⟩ ⟨Nat.le_of_ble_eq_true rfl, Nat.le_of_ble_eq_true rfl⟩ rfl rfl rfl (As := []) (rest := [.ref (ad 0)]) rfl rfl (Nat.le_of_ble_eq_true rfl) dX11_count_161 ⟨Nat.zero_le _, Nat.zero_le _⟩ (fun H locs hW => ?_)
                    show W p l e (rmq 6 135) s m args below meth c H locs 0 0 Q (F0 m 164 ls [.int x161, .ref (ad 0)])
                    obtain ⟨x164, h164, hf⟩ := bd_of hf
                    refine r_callV (k := ((0, 0) : Ky)) C hW hl lk_X11_340 (c_X11_sureOnes h164) ⟨rfl, rfl⟩ ⟨Nat.le_of_ble_eq_true rfl, Nat.le_of_ble_eq_true rfl⟩ rfl rfl rfl (As := [.int x161]) (rest := []) rfl rfl (Nat.le_of_ble_eq_true rfl) dX11_count_164 ⟨Nat.zero_le _, Nat.zero_le _⟩ (fun H locs hW => ?_)
                    show W p l e (rmq 6 135) s m args below meth c H locs 0 0 Q (F0 m 167 ls [.int x164.1])
                    obtain rfl := Option.some.inj hf
                    rw [hQ]
                    exact r_iret C hr hk hW rfl rfl dX11_count_167
                  · have hf := (if_neg c24).symm.trans hf
                    have n24 := lv_neT c24 (a := 8) (by decide)
                    by_cases c27 : v1 = (9 : Int32)
                    · have hf := (if_pos c27).symm.trans hf
                      refine lv_tableIn (off := 160) (tgt := 168) hx hb dX11_count_8 (by rw [c27]; decide) (by rw [c27]; decide) (by rw [c27]; rfl) (by decide) ?_
                      refine lv_aload_n hx hb dX11_count_168 rfl (lv_at hl 1 rfl) ?_
                      refine gf_X11_13 C hW dX11_count_169 ?_
                      refine lv_bipush (v := 9) hx hb dX11_count_172 (by decide) ?_
                      obtain ⟨hi28, hf⟩ := ck_of hf
                      refine r_iald (k := ((1, 0) : Ky)) (n := 7114) C hW rfl rfl hi28 dX11_count_174 ?_
                      obtain rfl := Option.some.inj hf
                      rw [hQ]
                      exact r_iret C hr hk hW rfl rfl dX11_count_175
                    · have hf := (if_neg c27).symm.trans hf
                      have n27 := lv_neT c27 (a := 9) (by decide)
                      by_cases c29 : v1 = (10 : Int32)
                      · have hf := (if_pos c29).symm.trans hf
                        refine lv_tableIn (off := 168) (tgt := 176) hx hb dX11_count_8 (by rw [c29]; decide) (by rw [c29]; decide) (by rw [c29]; rfl) (by decide) ?_
                        refine lv_aload_n hx hb dX11_count_176 rfl (lv_at hl 1 rfl) ?_
                        refine gf_X11_99 C hW dX11_count_177 ?_
                        obtain rfl := Option.some.inj hf
                        rw [hQ]
                        exact r_iret C hr hk hW rfl rfl dX11_count_180
                      · have hf := (if_neg c29).symm.trans hf
                        have n29 := lv_neT c29 (a := 10) (by decide)
                        refine lv_tableOut (tgt := 181) hx hb dX11_count_8 (by omega) (by decide) ?_
                        refine lv_iconst (v := -1) hx hb dX11_count_181 (by decide) ?_
                        obtain rfl := Option.some.inj hf
                        rw [hQ]
                        exact r_iret C hr hk hW rfl rfl dX11_count_182
