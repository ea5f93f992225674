set_option maxHeartbeats 4000000 in
set_option maxRecDepth 100000 in
theorem c_X11_isWord {l : Launch} {D : va_G} {tc : Nat → ClassId} {ro : Ro} {ad : Nat → Nat} {w1 : Nat} {μ : Mm} {res : Int32} (hw1 : w1 < nS) (hf : f_X11_isWord w1 μ = some res) : Ct l D tc ro (faM ad) (feM tc ad) yX11_isWord cX11_isWord 4 (some .boolean) (rmq 4 85) [.ref (ad 0), .ref (ro.1 w1)] μ (some (.int res)) μ := by
  refine Ct.of (by decide) (Nat.le_of_ble_eq_true rfl) (fun p e s m args below meth c A C hr hk hW ls hl => ?_)
  have hx := C.1.1
  have hb := C.1.2.1
  obtain ⟨Q, hQ⟩ : ∃ Q, Q = MQ below (Ctq D (faM ad) (feM tc ad) (some (.int res)) μ A) args s 0 0 A := ⟨_, rfl⟩
  rw [← hQ]
  have hl : lv_has ls 4 [(0, .ref (ad 0)), (1, .ref (ro.1 w1))] := hl
  unfold f_X11_isWord at hf
  have J21 : ∀ (s0 : Int32) (H : Heap) (locs : List Loc) (ls : Array Slot), f_X11_isWord_J21 w1 μ s0 = some res → Wd D (faM ad) (feM tc ad) A s.heap μ H locs → lv_has ls 4 [(0, .ref (ad 0)), (1, .ref (ro.1 w1))] → W p l e (rmq 4 85) s m args below meth c H locs 0 0 Q (F0 m 21 ls [.int s0]) := by
    intro s0 H locs ls hf hW hl
    unfold f_X11_isWord_J21 at hf
    refine lv_istore_n (lv' := [(2, .int s0), (0, .ref (ad 0)), (1, .ref (ro.1 w1))]) hx hb dX11_isWord_21 rfl hl (by decide) rfl (fun ls hl => ?_)
    refine lv_iconst (v := 0) hx hb dX11_isWord_22 (by decide) ?_
    refine lv_istore_n (lv' := [(3, .int (0 : Int32)), (2, .int s0), (0, .ref (ad 0)), (1, .ref (ro.1 w1))]) hx hb dX11_isWord_23 rfl hl (by decide) rfl (fun ls hl => ?_)
    have L24 : ∀ (v2 v3 : Int32) (H : Heap) (locs : List Loc) (ls : Array Slot), Wh (fun z : Int32 × Int32 => f_X11_isWord_L24 w1 μ z.1 z.2) (v2, v3) = some res → Wd D (faM ad) (feM tc ad) A s.heap μ H locs → lv_has ls 4 [(0, .ref (ad 0)), (1, .ref (ro.1 w1)), (2, .int v2), (3, .int v3)] → W p l e (rmq 4 85) s m args below meth c H locs 0 0 Q (F0 m 24 ls []) := by
      intro v2 v3 H locs ls hf hW hl
      refine Wh_rule hf (fun z : Int32 × Int32 => ∀ (H : Heap) (locs : List Loc) (ls : Array Slot), Wd D (faM ad) (feM tc ad) A s.heap μ H locs → lv_has ls 4 [(0, .ref (ad 0)), (1, .ref (ro.1 w1)), (2, .int z.1), (3, .int z.2)] → W p l e (rmq 4 85) s m args below meth c H locs 0 0 Q (F0 m 24 ls [])) (fun z o1 hf Kl1 Kr1 => ?_) _ _ _ hW hl
      obtain ⟨v2, v3⟩ := z
      intro H locs ls hW hl
      have hf : f_X11_isWord_L24 w1 μ v2 v3 = some o1 := hf
      unfold f_X11_isWord_L24 at hf
      have hW : Wd D (faM ad) (feM tc ad) A s.heap μ H locs := hW
      have hl : lv_has ls 4 [(0, .ref (ad 0)), (1, .ref (ro.1 w1)), (2, .int v2), (3, .int v3)] := hl
      refine lv_iload_n hx hb dX11_isWord_24 rfl (lv_at hl 2 rfl) ?_
      refine lv_if_eq (tgt := 67) hx hb dX11_isWord_25 (by decide) (fun c1 => ?_) (fun c1 => ?_)
      · have hf := (if_pos c1).symm.trans hf
        obtain ⟨x9003, hf, hx9003⟩ := map_of hf
        have e9003 := (Kr1 _ hx9003.symm).symm
        subst e9003
        refine lv_iload_n hx hb dX11_isWord_67 rfl (lv_at hl 2 rfl) ?_
        obtain ⟨hz2, hf⟩ := cb_of hf
        obtain rfl := Option.some.inj hf
        rw [hQ]
        exact r_zret C hr hk hW hz2 rfl rfl dX11_isWord_68
      · have hf := (if_neg c1).symm.trans hf
        refine lv_iload_n hx hb dX11_isWord_28 rfl (lv_at hl 3 rfl) ?_
        refine lv_aload_n hx hb dX11_isWord_29 rfl (lv_at hl 1 rfl) ?_
        refine r_callVx C hW hl lk_X11_174 (c_J0_length hw1) ⟨rfl, rfl⟩ ⟨Nat.le_of_ble_eq_true rfl, Nat.le_of_ble_eq_true rfl⟩ (vk_recv (i := 0) (C.2.2.1.1 _ hw1) (by decide) hW.2.1) (As := []) (rest := [.int v3]) rfl rfl (Nat.le_of_ble_eq_true rfl) dX11_isWord_30 ⟨Nat.zero_le _, Nat.zero_le _⟩ (fun H locs hW => ?_)
        show W p l e (rmq 4 85) s m args below meth c H locs 0 0 Q (F0 m 33 ls [.int (nI (lenS w1)), .int v3])
        refine lv_icmp_ge (tgt := 67) hx hb dX11_isWord_33 (by decide) (fun c4 => ?_) (fun c4 => ?_)
        · have hf := (if_pos c4).symm.trans hf
          obtain ⟨x9006, hf, hx9006⟩ := map_of hf
          have e9006 := (Kr1 _ hx9006.symm).symm
          subst e9006
          refine lv_iload_n hx hb dX11_isWord_67 rfl (lv_at hl 2 rfl) ?_
          obtain ⟨hz5, hf⟩ := cb_of hf
          obtain rfl := Option.some.inj hf
          rw [hQ]
          exact r_zret C hr hk hW hz5 rfl rfl dX11_isWord_68
        · have hf := (if_neg c4).symm.trans hf
          refine lv_aload_n hx hb dX11_isWord_36 rfl (lv_at hl 0 rfl) ?_
          refine gf_X11_39 C hW dX11_isWord_37 ?_
          refine lv_aload_n hx hb dX11_isWord_40 rfl (lv_at hl 0 rfl) ?_
          refine gf_X11_168 C hW dX11_isWord_41 ?_
          refine lv_iload_n hx hb dX11_isWord_44 rfl (lv_at hl 3 rfl) ?_
          refine lv_iadd hx hb dX11_isWord_45 ?_
          obtain ⟨hi7, hf⟩ := ck_of hf
          refine r_bald (k := ((11, 0) : Ky)) (n := 400) C hW rfl rfl hi7 dX11_isWord_46 ?_
          refine lv_aload_n hx hb dX11_isWord_47 rfl (lv_at hl 1 rfl) ?_
          refine lv_iload_n hx hb dX11_isWord_48 rfl (lv_at hl 3 rfl) ?_
          obtain ⟨hi8, hf⟩ := ck_of hf
          refine r_callVx C hW hl lk_X11_179 (c_J0_charAt hw1 hi8) ⟨rfl, rfl⟩ ⟨Nat.le_of_ble_eq_true rfl, Nat.le_of_ble_eq_true rfl⟩ (vk_recv (i := 0) (C.2.2.1.1 _ hw1) (by decide) hW.2.1) (As := [.int v3]) (rest := [.int (μ (11, 0) ((μ (0, 0) 15) + v3).toNatClampNeg)]) rfl rfl (Nat.le_of_ble_eq_true rfl) dX11_isWord_49 ⟨Nat.zero_le _, Nat.zero_le _⟩ (fun H locs hW => ?_)
          show W p l e (rmq 4 85) s m args below meth c H locs 0 0 Q (F0 m 52 ls [.int ((bytS w1).getD v3.toNatClampNeg 0), .int (μ (11, 0) ((μ (0, 0) 15) + v3).toNatClampNeg)])
          refine lv_icmp_ne (tgt := 59) hx hb dX11_isWord_52 (by decide) (fun c9 => ?_) (fun c9 => ?_)
          · have hf := (if_neg c9).symm.trans hf
            refine lv_iconst (v := 0) hx hb dX11_isWord_59 (by decide) ?_
            refine lv_istore_n (lv' := [(2, .int (0 : Int32)), (0, .ref (ad 0)), (1, .ref (ro.1 w1)), (3, .int v3)]) hx hb dX11_isWord_60 rfl hl (by decide) rfl (fun ls hl => ?_)
            refine lv_iinc (v := (v3 + (1 : Int32))) (lv' := [(3, .int (v3 + (1 : Int32))), (2, .int (0 : Int32)), (0, .ref (ad 0)), (1, .ref (ro.1 w1))]) hx hb dX11_isWord_61 hl (k := 3) rfl rfl (by decide) rfl (fun ls hl => ?_)
            refine lv_goto (tgt := 24) hx hb dX11_isWord_64 (by decide) ?_
            obtain rfl := Option.some.inj hf
            exact Kl1 _ rfl _ _ _ hW (lv_sub hl [2, 3, 1, 0] rfl)
          · have hf := (if_pos c9).symm.trans hf
            refine lv_iconst (v := 1) hx hb dX11_isWord_55 (by decide) ?_
            refine lv_goto (tgt := 60) hx hb dX11_isWord_56 (by decide) ?_
            refine lv_istore_n (lv' := [(2, .int (1 : Int32)), (0, .ref (ad 0)), (1, .ref (ro.1 w1)), (3, .int v3)]) hx hb dX11_isWord_60 rfl hl (by decide) rfl (fun ls hl => ?_)
            refine lv_iinc (v := (v3 + (1 : Int32))) (lv' := [(3, .int (v3 + (1 : Int32))), (2, .int (1 : Int32)), (0, .ref (ad 0)), (1, .ref (ro.1 w1))]) hx hb dX11_isWord_61 hl (k := 3) rfl rfl (by decide) rfl (fun ls hl => ?_)
            refine lv_goto (tgt := 24) hx hb dX11_isWord_64 (by decide) ?_
            obtain rfl := Option.some.inj hf
            exact Kl1 _ rfl _ _ _ hW (lv_sub hl [2, 3, 1, 0] rfl)
    exact L24 s0 (0 : Int32) _ _ _ hf hW (lv_sub hl [2, 3, 1, 0] rfl)
  refine lv_aload_n hx hb dX11_isWord_0 rfl (lv_at hl 0 rfl) ?_
  refine gf_X11_159 C hW dX11_isWord_1 ?_
  refine lv_aload_n hx hb dX11_isWord_4 rfl (lv_at hl 0 rfl) ?_
  refine gf_X11_168 C hW dX11_isWord_5 ?_
  refine lv_isub hx hb dX11_isWord_8 ?_
  refine lv_aload_n hx hb dX11_isWord_9 rfl (lv_at hl 1 rfl) ?_
  refine r_callVx C hW hl lk_X11_174 (c_J0_length hw1) ⟨rfl, rfl⟩ ⟨Nat.le_of_ble_eq_true rfl, Nat.le_of_ble_eq_true rfl⟩ (vk_recv (i := 0) (C.2.2.1.1 _ hw1) (by decide) hW.2.1) (As := []) (rest := [.int ((μ (0, 0) 13) - (μ (0, 0) 15))]) rfl rfl (Nat.le_of_ble_eq_true rfl) dX11_isWord_10 ⟨Nat.zero_le _, Nat.zero_le _⟩ (fun H locs hW => ?_)
  show W p l e (rmq 4 85) s m args below meth c H locs 0 0 Q (F0 m 13 ls [.int (nI (lenS w1)), .int ((μ (0, 0) 13) - (μ (0, 0) 15))])
  refine lv_icmp_ne (tgt := 20) hx hb dX11_isWord_13 (by decide) (fun c10 => ?_) (fun c10 => ?_)
  · have hf := (if_neg c10).symm.trans hf
    refine lv_iconst (v := 0) hx hb dX11_isWord_20 (by decide) ?_
    exact J21 (0 : Int32) _ _ _ hf hW (lv_sub hl [0, 1] rfl)
  · have hf := (if_pos c10).symm.trans hf
    refine lv_iconst (v := 1) hx hb dX11_isWord_16 (by decide) ?_
    refine lv_goto (tgt := 21) hx hb dX11_isWord_17 (by decide) ?_
    exact J21 (1 : Int32) _ _ _ hf hW (lv_sub hl [0, 1] rfl)
set_option maxHeartbeats 4000000 in
set_option maxRecDepth 100000 in
theorem c_X11_passes {l : Launch} {D : va_G} {tc : Nat → ClassId} {ro : Ro} {ad : Nat → Nat} {w1 : Nat} {μ : Mm} {res : Int32 × Mm} (hw1 : w1 < nS) (hf : f_X11_passes w1 μ = some res) : Ct l D tc ro (faM ad) (feM tc ad) yX11_passes cX11_passes 2 (some .boolean) (rmq 5 108) [.ref (ad 0), .ref (ro.1 w1)] μ (some (.int res.1)) res.2 := by
  refine Ct.of (by decide) (Nat.le_of_ble_eq_true rfl) (fun p e s m args below meth c A C hr hk hW ls hl => ?_)
  have hx := C.1.1
  have hb := C.1.2.1
  obtain ⟨Q, hQ⟩ : ∃ Q, Q = MQ below (Ctq D (faM ad) (feM tc ad) (some (.int res.1)) res.2 A) args s 0 0 A := ⟨_, rfl⟩
  rw [← hQ]
  have hl : lv_has ls 2 [(0, .ref (ad 0)), (1, .ref (ro.1 w1))] := hl
  unfold f_X11_passes at hf
  refine lv_aload_n hx hb dX11_passes_0 rfl (lv_at hl 0 rfl) ?_
  obtain ⟨x1, h1, hf⟩ := bd_of hf
  refine r_callV (k := ((0, 0) : Ky)) C hW hl lk_X11_183 (c_X11_letters h1) ⟨rfl, rfl⟩ ⟨Nat.le_of_ble_eq_true rfl, Nat.le_of_ble_eq_true rfl⟩ rfl rfl rfl (As := []) (rest := []) rfl rfl (Nat.le_of_ble_eq_true rfl) dX11_passes_1 ⟨Nat.zero_le _, Nat.zero_le _⟩ (fun H locs hW => ?_)
  show W p l e (rmq 5 108) s m args below meth c H locs 0 0 Q (F0 m 4 ls [])
  refine lv_aload_n hx hb dX11_passes_4 rfl (lv_at hl 0 rfl) ?_
  refine lv_aload_n hx hb dX11_passes_5 rfl (lv_at hl 1 rfl) ?_
  obtain ⟨x6, h6, hf⟩ := bd_of hf
  refine r_callV (k := ((0, 0) : Ky)) C hW hl lk_X11_186 (c_X11_isWord hw1 h6) ⟨rfl, rfl⟩ ⟨Nat.le_of_ble_eq_true rfl, Nat.le_of_ble_eq_true rfl⟩ rfl rfl rfl (As := [.ref (ro.1 w1)]) (rest := []) rfl rfl (Nat.le_of_ble_eq_true rfl) dX11_passes_6 ⟨Nat.zero_le _, Nat.zero_le _⟩ (fun H locs hW => ?_)
  show W p l e (rmq 5 108) s m args below meth c H locs 0 0 Q (F0 m 9 ls [.int x6])
  refine lv_if_eq (tgt := 14) hx hb dX11_passes_9 (by decide) (fun c3 => ?_) (fun c3 => ?_)
  · have hf := (if_pos c3).symm.trans hf
    refine lv_aload_n hx hb dX11_passes_14 rfl (lv_at hl 0 rfl) ?_
    refine lv_aload_n hx hb dX11_passes_15 rfl (lv_at hl 0 rfl) ?_
    refine gf_X11_168 C hW dX11_passes_16 ?_
    refine pf_X11_159 C hW dX11_passes_19 (fun H locs hW => ?_)
    refine lv_iconst (v := 0) hx hb dX11_passes_22 (by decide) ?_
    obtain rfl := Option.some.inj hf
    rw [hQ]
    exact r_zret C hr hk hW (Or.inl rfl) rfl rfl dX11_passes_23
  · have hf := (if_neg c3).symm.trans hf
    refine lv_iconst (v := 1) hx hb dX11_passes_12 (by decide) ?_
    obtain rfl := Option.some.inj hf
    rw [hQ]
    exact r_zret C hr hk hW (Or.inr rfl) rfl rfl dX11_passes_13
set_option maxHeartbeats 4000000 in
set_option maxRecDepth 100000 in
theorem c_X11_sign {l : Launch} {D : va_G} {tc : Nat → ClassId} {ro : Ro} {ad : Nat → Nat} {μ : Mm} {v1 : Int32} {res : Int32 × Mm} (hf : f_X11_sign μ v1 = some res) : Ct l D tc ro (faM ad) (feM tc ad) yX11_sign cX11_sign 2 (some .boolean) (rmq 2 42) [.ref (ad 0), .int v1] μ (some (.int res.1)) res.2 := by
  refine Ct.of (by decide) (Nat.le_of_ble_eq_true rfl) (fun p e s m args below meth c A C hr hk hW ls hl => ?_)
  have hx := C.1.1
  have hb := C.1.2.1
  obtain ⟨Q, hQ⟩ : ∃ Q, Q = MQ below (Ctq D (faM ad) (feM tc ad) (some (.int res.1)) res.2 A) args s 0 0 A := ⟨_, rfl⟩
  rw [← hQ]
  have hl : lv_has ls 2 [(0, .ref (ad 0)), (1, .int v1)] := hl
  unfold f_X11_sign at hf
  refine lv_aload_n hx hb dX11_sign_0 rfl (lv_at hl 0 rfl) ?_
  obtain ⟨x1, h1, hf⟩ := bd_of hf
  refine r_callV (k := ((0, 0) : Ky)) C hW hl lk_X11_171 (c_X11_blanks h1) ⟨rfl, rfl⟩ ⟨Nat.le_of_ble_eq_true rfl, Nat.le_of_ble_eq_true rfl⟩ rfl rfl rfl (As := []) (rest := []) rfl rfl (Nat.le_of_ble_eq_true rfl) dX11_sign_1 ⟨Nat.zero_le _, Nat.zero_le _⟩ (fun H locs hW => ?_)
  show W p l e (rmq 2 42) s m args below meth c H locs 0 0 Q (F0 m 4 ls [])
  refine lv_aload_n hx hb dX11_sign_4 rfl (lv_at hl 0 rfl) ?_
  refine lv_iload_n hx hb dX11_sign_5 rfl (lv_at hl 1 rfl) ?_
  refine lv_iload_n hx hb dX11_sign_6 rfl (lv_at hl 1 rfl) ?_
  obtain ⟨x7, h7, hf⟩ := bd_of hf
  refine r_callV (k := ((0, 0) : Ky)) C hW hl lk_X11_165 (c_X11_isAt h7) ⟨rfl, rfl⟩ ⟨Nat.le_of_ble_eq_true rfl, Nat.le_of_ble_eq_true rfl⟩ rfl rfl rfl (As := [.int v1, .int v1]) (rest := []) rfl rfl (Nat.le_of_ble_eq_true rfl) dX11_sign_7 ⟨Nat.zero_le _, Nat.zero_le _⟩ (fun H locs hW => ?_)
  show W p l e (rmq 2 42) s m args below meth c H locs 0 0 Q (F0 m 10 ls [.int x7])
  refine lv_if_ne (tgt := 15) hx hb dX11_sign_10 (by decide) (fun c3 => ?_) (fun c3 => ?_)
  · have hf := (if_neg c3).symm.trans hf
    refine lv_aload_n hx hb dX11_sign_15 rfl (lv_at hl 0 rfl) ?_
    refine lv_dup hx hb dX11_sign_16 rfl ?_
    refine gf_X11_159 C hW dX11_sign_17 ?_
    refine lv_iconst (v := 1) hx hb dX11_sign_20 (by decide) ?_
    refine lv_iadd hx hb dX11_sign_21 ?_
    refine pf_X11_159 C hW dX11_sign_22 (fun H locs hW => ?_)
    refine lv_iconst (v := 1) hx hb dX11_sign_25 (by decide) ?_
    obtain rfl := Option.some.inj hf
    rw [hQ]
    exact r_zret C hr hk hW (Or.inr rfl) rfl rfl dX11_sign_26
  · have hf := (if_pos c3).symm.trans hf
    refine lv_iconst (v := 0) hx hb dX11_sign_13 (by decide) ?_
    obtain rfl := Option.some.inj hf
    rw [hQ]
    exact r_zret C hr hk hW (Or.inl rfl) rfl rfl dX11_sign_14
set_option maxHeartbeats 4000000 in
set_option maxRecDepth 100000 in
theorem c_X11_number {l : Launch} {D : va_G} {tc : Nat → ClassId} {ro : Ro} {ad : Nat → Nat} {μ : Mm} {v1 v2 : Int32} {res : Int32 × Mm} (hf : f_X11_number μ v1 v2 = some res) : Ct l D tc ro (faM ad) (feM tc ad) yX11_number cX11_number 4 (some .int) (rmq 2 42) [.ref (ad 0), .int v1, .int v2] μ (some (.int res.1)) res.2 := by
  refine Ct.of (by decide) (Nat.le_of_ble_eq_true rfl) (fun p e s m args below meth c A C hr hk hW ls hl => ?_)
  have hx := C.1.1
  have hb := C.1.2.1
  obtain ⟨Q, hQ⟩ : ∃ Q, Q = MQ below (Ctq D (faM ad) (feM tc ad) (some (.int res.1)) res.2 A) args s 0 0 A := ⟨_, rfl⟩
  rw [← hQ]
  have hl : lv_has ls 4 [(0, .ref (ad 0)), (1, .int v1), (2, .int v2)] := hl
  unfold f_X11_number at hf
  refine lv_aload_n hx hb dX11_number_0 rfl (lv_at hl 0 rfl) ?_
  obtain ⟨x1, h1, hf⟩ := bd_of hf
  refine r_callV (k := ((0, 0) : Ky)) C hW hl lk_X11_171 (c_X11_blanks h1) ⟨rfl, rfl⟩ ⟨Nat.le_of_ble_eq_true rfl, Nat.le_of_ble_eq_true rfl⟩ rfl rfl rfl (As := []) (rest := []) rfl rfl (Nat.le_of_ble_eq_true rfl) dX11_number_1 ⟨Nat.zero_le _, Nat.zero_le _⟩ (fun H locs hW => ?_)
  show W p l e (rmq 2 42) s m args below meth c H locs 0 0 Q (F0 m 4 ls [])
  refine lv_iconst (v := 0) hx hb dX11_number_4 (by decide) ?_
  refine lv_istore_n (lv' := [(3, .int (0 : Int32)), (0, .ref (ad 0)), (1, .int v1), (2, .int v2)]) hx hb dX11_number_5 rfl hl (by decide) rfl (fun ls hl => ?_)
  have L6 : ∀ (μ : Mm) (v3 : Int32) (H : Heap) (locs : List Loc) (ls : Array Slot), Wh (fun z : Mm × Int32 => f_X11_number_L6 v1 v2 z.1 z.2) (μ, v3) = some res → Wd D (faM ad) (feM tc ad) A s.heap μ H locs → lv_has ls 4 [(0, .ref (ad 0)), (1, .int v1), (2, .int v2), (3, .int v3)] → W p l e (rmq 2 42) s m args below meth c H locs 0 0 Q (F0 m 6 ls []) := by
    intro μ v3 H locs ls hf hW hl
    refine Wh_rule hf (fun z : Mm × Int32 => ∀ (H : Heap) (locs : List Loc) (ls : Array Slot), Wd D (faM ad) (feM tc ad) A s.heap z.1 H locs → lv_has ls 4 [(0, .ref (ad 0)), (1, .int v1), (2, .int v2), (3, .int z.2)] → W p l e (rmq 2 42) s m args below meth c H locs 0 0 Q (F0 m 6 ls [])) (fun z o1 hf Kl1 Kr1 => ?_) _ _ _ hW hl
    obtain ⟨μ, v3⟩ := z
    intro H locs ls hW hl
    have hf : f_X11_number_L6 v1 v2 μ v3 = some o1 := hf
    unfold f_X11_number_L6 at hf
    have hW : Wd D (faM ad) (feM tc ad) A s.heap μ H locs := hW
    have hl : lv_has ls 4 [(0, .ref (ad 0)), (1, .int v1), (2, .int v2), (3, .int v3)] := hl
    refine lv_aload_n hx hb dX11_number_6 rfl (lv_at hl 0 rfl) ?_
    refine lv_bipush (v := 48) hx hb dX11_number_7 (by decide) ?_
    refine lv_bipush (v := 57) hx hb dX11_number_9 (by decide) ?_
    obtain ⟨x11, h11, hf⟩ := bd_of hf
    refine r_callV (k := ((0, 0) : Ky)) C hW hl lk_X11_165 (c_X11_isAt h11) ⟨rfl, rfl⟩ ⟨Nat.le_of_ble_eq_true rfl, Nat.le_of_ble_eq_true rfl⟩ rfl rfl rfl (As := [.int (48 : Int32), .int (57 : Int32)]) (rest := []) rfl rfl (Nat.le_of_ble_eq_true rfl) dX11_number_11 ⟨Nat.zero_le _, Nat.zero_le _⟩ (fun H locs hW => ?_)
    show W p l e (rmq 2 42) s m args below meth c H locs 0 0 Q (F0 m 14 ls [.int x11])
    refine lv_if_eq (tgt := 65) hx hb dX11_number_14 (by decide) (fun c3 => ?_) (fun c3 => ?_)
    · have hf := (if_pos c3).symm.trans hf
      obtain ⟨x9008, hf, hx9008⟩ := map_of hf
      have e9008 := (Kr1 _ hx9008.symm).symm
      subst e9008
      refine lv_aload_n hx hb dX11_number_65 rfl (lv_at hl 0 rfl) ?_
      refine gf_X11_159 C hW dX11_number_66 ?_
      refine lv_aload_n hx hb dX11_number_69 rfl (lv_at hl 0 rfl) ?_
      refine gf_X11_168 C hW dX11_number_70 ?_
      refine lv_icmp_eq (tgt := 99) hx hb dX11_number_73 (by decide) (fun c4 => ?_) (fun c4 => ?_)
      · have hf := (if_pos c4).symm.trans hf
        refine lv_iconst (v := -1) hx hb dX11_number_99 (by decide) ?_
        refine lv_goto (tgt := 104) hx hb dX11_number_100 (by decide) ?_
        obtain rfl := Option.some.inj hf
        rw [hQ]
        exact r_iret C hr hk hW rfl rfl dX11_number_104
      · have hf := (if_neg c4).symm.trans hf
        refine lv_aload_n hx hb dX11_number_76 rfl (lv_at hl 0 rfl) ?_
        refine gf_X11_159 C hW dX11_number_77 ?_
        refine lv_aload_n hx hb dX11_number_80 rfl (lv_at hl 0 rfl) ?_
        refine gf_X11_168 C hW dX11_number_81 ?_
        refine lv_isub hx hb dX11_number_84 ?_
        refine lv_iconst (v := 3) hx hb dX11_number_85 (by decide) ?_
        refine lv_icmp_gt (tgt := 99) hx hb dX11_number_86 (by decide) (fun c5 => ?_) (fun c5 => ?_)
        · have hf := (if_pos c5).symm.trans hf
          refine lv_iconst (v := -1) hx hb dX11_number_99 (by decide) ?_
          refine lv_goto (tgt := 104) hx hb dX11_number_100 (by decide) ?_
          obtain rfl := Option.some.inj hf
          rw [hQ]
          exact r_iret C hr hk hW rfl rfl dX11_number_104
        · have hf := (if_neg c5).symm.trans hf
          refine lv_iload_n hx hb dX11_number_89 rfl (lv_at hl 3 rfl) ?_
          refine lv_iload_n hx hb dX11_number_90 rfl (lv_at hl 1 rfl) ?_
          refine lv_icmp_lt (tgt := 99) hx hb dX11_number_91 (by decide) (fun c6 => ?_) (fun c6 => ?_)
          · have hf := (if_pos c6).symm.trans hf
            refine lv_iconst (v := -1) hx hb dX11_number_99 (by decide) ?_
            refine lv_goto (tgt := 104) hx hb dX11_number_100 (by decide) ?_
            obtain rfl := Option.some.inj hf
            rw [hQ]
            exact r_iret C hr hk hW rfl rfl dX11_number_104
          · have hf := (if_neg c6).symm.trans hf
            refine lv_iload_n hx hb dX11_number_94 rfl (lv_at hl 3 rfl) ?_
            refine lv_iload_n hx hb dX11_number_95 rfl (lv_at hl 2 rfl) ?_
            refine lv_icmp_le (tgt := 103) hx hb dX11_number_96 (by decide) (fun c7 => ?_) (fun c7 => ?_)
            · have hf := (if_pos c7).symm.trans hf
              refine lv_iload_n hx hb dX11_number_103 rfl (lv_at hl 3 rfl) ?_
              obtain rfl := Option.some.inj hf
              rw [hQ]
              exact r_iret C hr hk hW rfl rfl dX11_number_104
            · have hf := (if_neg c7).symm.trans hf
              refine lv_iconst (v := -1) hx hb dX11_number_99 (by decide) ?_
              refine lv_goto (tgt := 104) hx hb dX11_number_100 (by decide) ?_
              obtain rfl := Option.some.inj hf
              rw [hQ]
              exact r_iret C hr hk hW rfl rfl dX11_number_104
    · have hf := (if_neg c3).symm.trans hf
      refine lv_aload_n hx hb dX11_number_17 rfl (lv_at hl 0 rfl) ?_
      refine gf_X11_159 C hW dX11_number_18 ?_
      refine lv_aload_n hx hb dX11_number_21 rfl (lv_at hl 0 rfl) ?_
      refine gf_X11_168 C hW dX11_number_22 ?_
      refine lv_isub hx hb dX11_number_25 ?_
      refine lv_iconst (v := 3) hx hb dX11_number_26 (by decide) ?_
      refine lv_icmp_ge (tgt := 50) hx hb dX11_number_27 (by decide) (fun c9 => ?_) (fun c9 => ?_)
      · have hf := (if_pos c9).symm.trans hf
        refine lv_iload_n hx hb dX11_number_50 rfl (lv_at hl 3 rfl) ?_
        refine lv_istore_n (lv' := [(3, .int v3), (0, .ref (ad 0)), (1, .int v1), (2, .int v2)]) hx hb dX11_number_51 rfl hl (by decide) rfl (fun ls hl => ?_)
        refine lv_aload_n hx hb dX11_number_52 rfl (lv_at hl 1 rfl) ?_
        refine lv_dup hx hb dX11_number_53 rfl ?_
        refine gf_X11_159 C hW dX11_number_54 ?_
        refine lv_iconst (v := 1) hx hb dX11_number_57 (by decide) ?_
        refine lv_iadd hx hb dX11_number_58 ?_
        refine pf_X11_159 C hW dX11_number_59 (fun H locs hW => ?_)
        refine lv_goto (tgt := 6) hx hb dX11_number_62 (by decide) ?_
        obtain rfl := Option.some.inj hf
        exact Kl1 _ rfl _ _ _ hW (lv_sub hl [1, 2, 3, 0] rfl)
      · have hf := (if_neg c9).symm.trans hf
        refine lv_bipush (v := 10) hx hb dX11_number_30 (by decide) ?_
        refine lv_iload_n hx hb dX11_number_32 rfl (lv_at hl 3 rfl) ?_
        refine lv_imul hx hb dX11_number_33 ?_
        refine lv_aload_n hx hb dX11_number_34 rfl (lv_at hl 0 rfl) ?_
        refine gf_X11_39 C hW dX11_number_35 ?_
        refine lv_aload_n hx hb dX11_number_38 rfl (lv_at hl 0 rfl) ?_
        refine gf_X11_159 C hW dX11_number_39 ?_
        obtain ⟨hi10, hf⟩ := ck_of hf
        refine r_bald (k := ((11, 0) : Ky)) (n := 400) C hW rfl rfl hi10 dX11_number_42 ?_
        refine lv_iadd hx hb dX11_number_43 ?_
        refine lv_bipush (v := 48) hx hb dX11_number_44 (by decide) ?_
        refine lv_isub hx hb dX11_number_46 ?_
        refine lv_goto (tgt := 51) hx hb dX11_number_47 (by decide) ?_
        refine lv_istore_n (lv' := [(3, .int ((((10 : Int32) * v3) + (μ (11, 0) (μ (0, 0) 13).toNatClampNeg)) - (48 : Int32))), (0, .ref (ad 0)), (1, .int v1), (2, .int v2)]) hx hb dX11_number_51 rfl hl (by decide) rfl (fun ls hl => ?_)
        refine lv_aload_n hx hb dX11_number_52 rfl (lv_at hl 1 rfl) ?_
        refine lv_dup hx hb dX11_number_53 rfl ?_
        refine gf_X11_159 C hW dX11_number_54 ?_
        refine lv_iconst (v := 1) hx hb dX11_number_57 (by decide) ?_
        refine lv_iadd hx hb dX11_number_58 ?_
        refine pf_X11_159 C hW dX11_number_59 (fun H locs hW => ?_)
        refine lv_goto (tgt := 6) hx hb dX11_number_62 (by decide) ?_
        obtain rfl := Option.some.inj hf
        exact Kl1 _ rfl _ _ _ hW (lv_sub hl [1, 2, 3, 0] rfl)
  exact L6 x1 (0 : Int32) _ _ _ hf hW (lv_sub hl [1, 2, 3, 0] rfl)
set_option maxHeartbeats 4000000 in
set_option maxRecDepth 100000 in
theorem c_X11_after {l : Launch} {D : va_G} {tc : Nat → ClassId} {ro : Ro} {ad : Nat → Nat} {w1 : Nat} {μ : Mm} {v2 v3 : Int32} {res : Int32 × Mm} (hw1 : w1 < nS) (hf : f_X11_after w1 μ v2 v3 = some res) : Ct l D tc ro (faM ad) (feM tc ad) yX11_after cX11_after 4 (some .int) (rmq 5 108) [.ref (ad 0), .ref (ro.1 w1), .int v2, .int v3] μ (some (.int res.1)) res.2 := by
  refine Ct.of (by decide) (Nat.le_of_ble_eq_true rfl) (fun p e s m args below meth c A C hr hk hW ls hl => ?_)
  have hx := C.1.1
  have hb := C.1.2.1
  obtain ⟨Q, hQ⟩ : ∃ Q, Q = MQ below (Ctq D (faM ad) (feM tc ad) (some (.int res.1)) res.2 A) args s 0 0 A := ⟨_, rfl⟩
  rw [← hQ]
  have hl : lv_has ls 4 [(0, .ref (ad 0)), (1, .ref (ro.1 w1)), (2, .int v2), (3, .int v3)] := hl
  unfold f_X11_after at hf
  refine lv_aload_n hx hb dX11_after_0 rfl (lv_at hl 0 rfl) ?_
  obtain ⟨x1, h1, hf⟩ := bd_of hf
  refine r_callV (k := ((0, 0) : Ky)) C hW hl lk_X11_183 (c_X11_letters h1) ⟨rfl, rfl⟩ ⟨Nat.le_of_ble_eq_true rfl, Nat.le_of_ble_eq_true rfl⟩ rfl rfl rfl (As := []) (rest := []) rfl rfl (Nat.le_of_ble_eq_true rfl) dX11_after_1 ⟨Nat.zero_le _, Nat.zero_le _⟩ (fun H locs hW => ?_)
  show W p l e (rmq 5 108) s m args below meth c H locs 0 0 Q (F0 m 4 ls [])
  refine lv_aload_n hx hb dX11_after_4 rfl (lv_at hl 0 rfl) ?_
  refine lv_aload_n hx hb dX11_after_5 rfl (lv_at hl 1 rfl) ?_
  obtain ⟨x6, h6, hf⟩ := bd_of hf
  refine r_callV (k := ((0, 0) : Ky)) C hW hl lk_X11_186 (c_X11_isWord hw1 h6) ⟨rfl, rfl⟩ ⟨Nat.le_of_ble_eq_true rfl, Nat.le_of_ble_eq_true rfl⟩ rfl rfl rfl (As := [.ref (ro.1 w1)]) (rest := []) rfl rfl (Nat.le_of_ble_eq_true rfl) dX11_after_6 ⟨Nat.zero_le _, Nat.zero_le _⟩ (fun H locs hW => ?_)
  show W p l e (rmq 5 108) s m args below meth c H locs 0 0 Q (F0 m 9 ls [.int x6])
  refine lv_if_eq (tgt := 21) hx hb dX11_after_9 (by decide) (fun c3 => ?_) (fun c3 => ?_)
  · have hf := (if_pos c3).symm.trans hf
    refine lv_iconst (v := -1) hx hb dX11_after_21 (by decide) ?_
    obtain rfl := Option.some.inj hf
    rw [hQ]
    exact r_iret C hr hk hW rfl rfl dX11_after_22
  · have hf := (if_neg c3).symm.trans hf
    refine lv_aload_n hx hb dX11_after_12 rfl (lv_at hl 0 rfl) ?_
    refine lv_iload_n hx hb dX11_after_13 rfl (lv_at hl 2 rfl) ?_
    refine lv_iload_n hx hb dX11_after_14 rfl (lv_at hl 3 rfl) ?_
    obtain ⟨x15, h15, hf⟩ := bd_of hf
    refine r_callV (k := ((0, 0) : Ky)) C hW hl lk_X11_190 (c_X11_number h15) ⟨rfl, rfl⟩ ⟨Nat.le_of_ble_eq_true rfl, Nat.le_of_ble_eq_true rfl⟩ rfl rfl rfl (As := [.int v2, .int v3]) (rest := []) rfl rfl (Nat.le_of_ble_eq_true rfl) dX11_after_15 ⟨Nat.zero_le _, Nat.zero_le _⟩ (fun H locs hW => ?_)
    show W p l e (rmq 5 108) s m args below meth c H locs 0 0 Q (F0 m 18 ls [.int x15.1])
    refine lv_goto (tgt := 22) hx hb dX11_after_18 (by decide) ?_
    obtain rfl := Option.some.inj hf
    rw [hQ]
    exact r_iret C hr hk hW rfl rfl dX11_after_22
set_option maxHeartbeats 4000000 in
set_option maxRecDepth 100000 in
theorem c_X11_fault {l : Launch} {D : va_G} {tc : Nat → ClassId} {ro : Ro} {ad : Nat → Nat} {μ : Mm} {res : Int32 × Mm} (hf : f_X11_fault μ = some res) : Ct l D tc ro (faM ad) (feM tc ad) yX11_fault cX11_fault 1 (some .int) (rmq 0 0) [.ref (ad 0)] μ (some (.int res.1)) res.2 := by
  refine Ct.of (by decide) (Nat.le_of_ble_eq_true rfl) (fun p e s m args below meth c A C hr hk hW ls hl => ?_)
  have hx := C.1.1
  have hb := C.1.2.1
  obtain ⟨Q, hQ⟩ : ∃ Q, Q = MQ below (Ctq D (faM ad) (feM tc ad) (some (.int res.1)) res.2 A) args s 0 0 A := ⟨_, rfl⟩
  rw [← hQ]
  have hl : lv_has ls 1 [(0, .ref (ad 0))] := hl
  unfold f_X11_fault at hf
  refine lv_aload_n hx hb dX11_fault_0 rfl (lv_at hl 0 rfl) ?_
  refine lv_iconst (v := 0) hx hb dX11_fault_1 (by decide) ?_
  refine pf_X11_3 C hW dX11_fault_2 (fun H locs hW => ?_)
  refine lv_aload_n hx hb dX11_fault_5 rfl (lv_at hl 0 rfl) ?_
  refine gf_X11_43 C hW dX11_fault_6 ?_
  obtain rfl := Option.some.inj hf
  rw [hQ]
  exact r_iret C hr hk hW rfl rfl dX11_fault_9
set_option maxHeartbeats 4000000 in
set_option maxRecDepth 100000 in
theorem c_X11_uses {l : Launch} {D : va_G} {tc : Nat → ClassId} {ro : Ro} {ad : Nat → Nat} {μ : Mm} {res : Mm} (hf : f_X11_uses μ = some res) : Ct l D tc ro (faM ad) (feM tc ad) yX11_uses cX11_uses 1 none (rmq 0 0) [.ref (ad 0)] μ none res := by
  refine Ct.of (by decide) (Nat.le_of_ble_eq_true rfl) (fun p e s m args below meth c A C hr hk hW ls hl => ?_)
  have hx := C.1.1
  have hb := C.1.2.1
  obtain ⟨Q, hQ⟩ : ∃ Q, Q = MQ below (Ctq D (faM ad) (feM tc ad) none res A) args s 0 0 A := ⟨_, rfl⟩
  rw [← hQ]
  have hl : lv_has ls 1 [(0, .ref (ad 0))] := hl
  unfold f_X11_uses at hf
  refine lv_aload_n hx hb dX11_uses_0 rfl (lv_at hl 0 rfl) ?_
  refine lv_iconst (v := 0) hx hb dX11_uses_1 (by decide) ?_
  refine pf_X11_3 C hW dX11_uses_2 (fun H locs hW => ?_)
  refine lv_aload_n hx hb dX11_uses_5 rfl (lv_at hl 0 rfl) ?_
  refine lv_aload_n hx hb dX11_uses_6 rfl (lv_at hl 0 rfl) ?_
  refine gf_X11_156 C hW dX11_uses_7 ?_
  refine pf_X11_162 C hW dX11_uses_10 (fun H locs hW => ?_)
  refine lv_aload_n hx hb dX11_uses_13 rfl (lv_at hl 0 rfl) ?_
  refine lv_iconst (v := 0) hx hb dX11_uses_14 (by decide) ?_
  refine pf_X11_156 C hW dX11_uses_15 (fun H locs hW => ?_)
  refine lv_aload_n hx hb dX11_uses_18 rfl (lv_at hl 0 rfl) ?_
  refine lv_iconst (v := 0) hx hb dX11_uses_19 (by decide) ?_
  refine pf_X11_159 C hW dX11_uses_20 (fun H locs hW => ?_)
  obtain rfl := Option.some.inj hf
  rw [hQ]
  exact r_vret C hr hk hW rfl rfl dX11_uses_23
set_option maxHeartbeats 4000000 in
set_option maxRecDepth 100000 in
theorem c_X11_personTold {l : Launch} {D : va_G} {tc : Nat → ClassId} {ro : Ro} {ad : Nat → Nat} {μ : Mm} {res : Int32 × Mm} (hf : f_X11_personTold μ = some res) : Ct l D tc ro (faM ad) (feM tc ad) yX11_personTold cX11_personTold 1 (some .int) (rmq 3 65) [.ref (ad 0)] μ (some (.int res.1)) res.2 := by
  refine Ct.of (by decide) (Nat.le_of_ble_eq_true rfl) (fun p e s m args below meth c A C hr hk hW ls hl => ?_)
  have hx := C.1.1
  have hb := C.1.2.1
  obtain ⟨Q, hQ⟩ : ∃ Q, Q = MQ below (Ctq D (faM ad) (feM tc ad) (some (.int res.1)) res.2 A) args s 0 0 A := ⟨_, rfl⟩
  rw [← hQ]
  have hl : lv_has ls 1 [(0, .ref (ad 0))] := hl
  unfold f_X11_personTold at hf
  refine lv_aload_n hx hb dX11_personTold_0 rfl (lv_at hl 0 rfl) ?_
  refine lv_iconst (v := 0) hx hb dX11_personTold_1 (by decide) ?_
  refine lv_aload_n hx hb dX11_personTold_2 rfl (lv_at hl 0 rfl) ?_
  obtain ⟨x3, h3, hf⟩ := bd_of hf
  refine r_callV (k := ((0, 0) : Ky)) C hW hl lk_X11_107 (c_X11_people h3) ⟨rfl, rfl⟩ ⟨Nat.le_of_ble_eq_true rfl, Nat.le_of_ble_eq_true rfl⟩ rfl rfl rfl (As := []) (rest := [.int (0 : Int32), .ref (ad 0)]) rfl rfl (Nat.le_of_ble_eq_true rfl) dX11_personTold_3 ⟨Nat.zero_le _, Nat.zero_le _⟩ (fun H locs hW => ?_)
  show W p l e (rmq 3 65) s m args below meth c H locs 0 0 Q (F0 m 6 ls [.int x3, .int (0 : Int32), .ref (ad 0)])
  refine lv_iconst (v := 1) hx hb dX11_personTold_6 (by decide) ?_
  refine lv_isub hx hb dX11_personTold_7 ?_
  obtain ⟨x8, h8, hf⟩ := bd_of hf
  refine r_callV (k := ((0, 0) : Ky)) C hW hl lk_X11_190 (c_X11_number h8) ⟨rfl, rfl⟩ ⟨Nat.le_of_ble_eq_true rfl, Nat.le_of_ble_eq_true rfl⟩ rfl rfl rfl (As := [.int (0 : Int32), .int (x3 - (1 : Int32))]) (rest := []) rfl rfl (Nat.le_of_ble_eq_true rfl) dX11_personTold_8 ⟨Nat.zero_le _, Nat.zero_le _⟩ (fun H locs hW => ?_)
  show W p l e (rmq 3 65) s m args below meth c H locs 0 0 Q (F0 m 11 ls [.int x8.1])
  obtain rfl := Option.some.inj hf
  rw [hQ]
  exact r_iret C hr hk hW rfl rfl dX11_personTold_11
set_option maxHeartbeats 4000000 in
set_option maxRecDepth 100000 in
theorem c_X11_isEarly {l : Launch} {D : va_G} {tc : Nat → ClassId} {ro : Ro} {ad : Nat → Nat} {μ : Mm} {res : Int32} (hf : f_X11_isEarly μ = some res) : Ct l D tc ro (faM ad) (feM tc ad) yX11_isEarly cX11_isEarly 1 (some .boolean) (rmq 0 0) [.ref (ad 0)] μ (some (.int res)) μ := by
  refine Ct.of (by decide) (Nat.le_of_ble_eq_true rfl) (fun p e s m args below meth c A C hr hk hW ls hl => ?_)
  have hx := C.1.1
  have hb := C.1.2.1
  obtain ⟨Q, hQ⟩ : ∃ Q, Q = MQ below (Ctq D (faM ad) (feM tc ad) (some (.int res)) μ A) args s 0 0 A := ⟨_, rfl⟩
  rw [← hQ]
  have hl : lv_has ls 1 [(0, .ref (ad 0))] := hl
  unfold f_X11_isEarly at hf
  refine lv_aload_n hx hb dX11_isEarly_0 rfl (lv_at hl 0 rfl) ?_
  refine gf_X11_13 C hW dX11_isEarly_1 ?_
  refine lv_bipush (v := 7) hx hb dX11_isEarly_4 (by decide) ?_
  obtain ⟨hi1, hf⟩ := ck_of hf
  refine r_iald (k := ((1, 0) : Ky)) (n := 7114) C hW rfl rfl hi1 dX11_isEarly_6 ?_
  refine lv_aload_n hx hb dX11_isEarly_7 rfl (lv_at hl 0 rfl) ?_
  refine gf_X11_13 C hW dX11_isEarly_8 ?_
  refine lv_bipush (v := 8) hx hb dX11_isEarly_11 (by decide) ?_
  obtain ⟨hi2, hf⟩ := ck_of hf
  refine r_iald (k := ((1, 0) : Ky)) (n := 7114) C hW rfl rfl hi2 dX11_isEarly_13 ?_
  refine lv_iadd hx hb dX11_isEarly_14 ?_
  refine lv_if_ne (tgt := 22) hx hb dX11_isEarly_15 (by decide) (fun c3 => ?_) (fun c3 => ?_)
  · have hf := (if_neg c3).symm.trans hf
    refine lv_iconst (v := 0) hx hb dX11_isEarly_22 (by decide) ?_
    obtain rfl := Option.some.inj hf
    rw [hQ]
    exact r_zret C hr hk hW (Or.inl rfl) rfl rfl dX11_isEarly_23
  · have hf := (if_pos c3).symm.trans hf
    refine lv_iconst (v := 1) hx hb dX11_isEarly_18 (by decide) ?_
    refine lv_goto (tgt := 23) hx hb dX11_isEarly_19 (by decide) ?_
    obtain rfl := Option.some.inj hf
    rw [hQ]
    exact r_zret C hr hk hW (Or.inr rfl) rfl rfl dX11_isEarly_23
set_option maxHeartbeats 4000000 in
set_option maxRecDepth 100000 in
theorem c_X11_readValues {l : Launch} {D : va_G} {tc : Nat → ClassId} {ro : Ro} {ad : Nat → Nat} {μ : Mm} {res : Int32 × Mm} (hf : f_X11_readValues μ = some res) : Ct l D tc ro (faM ad) (feM tc ad) yX11_readValues cX11_readValues 2 (some .boolean) (rmq 3 65) [.ref (ad 0)] μ (some (.int res.1)) res.2 := by
  refine Ct.of (by decide) (Nat.le_of_ble_eq_true rfl) (fun p e s m args below meth c A C hr hk hW ls hl => ?_)
  have hx := C.1.1
  have hb := C.1.2.1
  obtain ⟨Q, hQ⟩ : ∃ Q, Q = MQ below (Ctq D (faM ad) (feM tc ad) (some (.int res.1)) res.2 A) args s 0 0 A := ⟨_, rfl⟩
  rw [← hQ]
  have hl : lv_has ls 2 [(0, .ref (ad 0))] := hl
  unfold f_X11_readValues at hf
  refine lv_aload_n hx hb dX11_readValues_0 rfl (lv_at hl 0 rfl) ?_
  obtain ⟨x1, h1, hf⟩ := bd_of hf
  refine r_callV (k := ((0, 0) : Ky)) C hW hl lk_X11_193 (c_X11_isEarly h1) ⟨rfl, rfl⟩ ⟨Nat.le_of_ble_eq_true rfl, Nat.le_of_ble_eq_true rfl⟩ rfl rfl rfl (As := []) (rest := []) rfl rfl (Nat.le_of_ble_eq_true rfl) dX11_readValues_1 ⟨Nat.zero_le _, Nat.zero_le _⟩ (fun H locs hW => ?_)
  show W p l e (rmq 3 65) s m args below meth c H locs 0 0 Q (F0 m 4 ls [.int x1])
  refine lv_if_eq (tgt := 14) hx hb dX11_readValues_4 (by decide) (fun c2 => ?_) (fun c2 => ?_)
  · have hf := (if_pos c2).symm.trans hf
    refine lv_iconst (v := 0) hx hb dX11_readValues_14 (by decide) ?_
    obtain rfl := Option.some.inj hf
    rw [hQ]
    exact r_zret C hr hk hW (Or.inl rfl) rfl rfl dX11_readValues_15
  · have hf := (if_neg c2).symm.trans hf
    refine lv_aload_n hx hb dX11_readValues_7 rfl (lv_at hl 0 rfl) ?_
    obtain ⟨x8, h8, hf⟩ := bd_of hf
    refine r_callV (k := ((0, 0) : Ky)) C hW hl lk_X11_107 (c_X11_people h8) ⟨rfl, rfl⟩ ⟨Nat.le_of_ble_eq_true rfl, Nat.le_of_ble_eq_true rfl⟩ rfl rfl rfl (As := []) (rest := []) rfl rfl (Nat.le_of_ble_eq_true rfl) dX11_readValues_8 ⟨Nat.zero_le _, Nat.zero_le _⟩ (fun H locs hW => ?_)
    show W p l e (rmq 3 65) s m args below meth c H locs 0 0 Q (F0 m 11 ls [.int x8])
    refine lv_if_le (tgt := 16) hx hb dX11_readValues_11 (by decide) (fun c4 => ?_) (fun c4 => ?_)
    · have hf := (if_pos c4).symm.trans hf
      refine lv_aload_n hx hb dX11_readValues_16 rfl (lv_at hl 0 rfl) ?_
      refine lv_iconst (v := 2) hx hb dX11_readValues_17 (by decide) ?_
      refine lv_iconst (v := 4) hx hb dX11_readValues_18 (by decide) ?_
      obtain ⟨x19, h19, hf⟩ := bd_of hf
      refine r_callV (k := ((0, 0) : Ky)) C hW hl lk_X11_190 (c_X11_number h19) ⟨rfl, rfl⟩ ⟨Nat.le_of_ble_eq_true rfl, Nat.le_of_ble_eq_true rfl⟩ rfl rfl rfl (As := [.int (2 : Int32), .int (4 : Int32)]) (rest := []) rfl rfl (Nat.le_of_ble_eq_true rfl) dX11_readValues_19 ⟨Nat.zero_le _, Nat.zero_le _⟩ (fun H locs hW => ?_)
      show W p l e (rmq 3 65) s m args below meth c H locs 0 0 Q (F0 m 22 ls [.int x19.1])
      refine lv_istore_n (lv' := [(1, .int x19.1), (0, .ref (ad 0))]) hx hb dX11_readValues_22 rfl hl (by decide) rfl (fun ls hl => ?_)
      refine lv_iload_n hx hb dX11_readValues_23 rfl (lv_at hl 0 rfl) ?_
      refine lv_if_lt (tgt := 34) hx hb dX11_readValues_24 (by decide) (fun c6 => ?_) (fun c6 => ?_)
      · have hf := (if_pos c6).symm.trans hf
        refine lv_iload_n hx hb dX11_readValues_34 rfl (lv_at hl 0 rfl) ?_
        refine lv_if_lt (tgt := 42) hx hb dX11_readValues_35 (by decide) (fun c7 => ?_) (fun c7 => ?_)
        · have hf := (if_pos c7).symm.trans hf
          refine lv_iconst (v := 0) hx hb dX11_readValues_42 (by decide) ?_
          obtain rfl := Option.some.inj hf
          rw [hQ]
          exact r_zret C hr hk hW (Or.inl rfl) rfl rfl dX11_readValues_43
        · have hf := (if_neg c7).symm.trans hf
          refine lv_iconst (v := 1) hx hb dX11_readValues_38 (by decide) ?_
          refine lv_goto (tgt := 43) hx hb dX11_readValues_39 (by decide) ?_
          obtain rfl := Option.some.inj hf
          rw [hQ]
          exact r_zret C hr hk hW (Or.inr rfl) rfl rfl dX11_readValues_43
      · have hf := (if_neg c6).symm.trans hf
        refine lv_aload_n hx hb dX11_readValues_27 rfl (lv_at hl 1 rfl) ?_
        refine gf_X11_13 C hW dX11_readValues_28 ?_
        refine lv_iconst (v := 0) hx hb dX11_readValues_31 (by decide) ?_
        refine lv_iload_n hx hb dX11_readValues_32 rfl (lv_at hl 0 rfl) ?_
        obtain ⟨hi8, hf⟩ := ck_of hf
        refine r_iast (k := ((1, 0) : Ky)) (n := 7114) C hW rfl (fun _ => rfl) hi8 dX11_readValues_33 (fun H locs hW => ?_)
        refine lv_iload_n hx hb dX11_readValues_34 rfl (lv_at hl 0 rfl) ?_
        refine lv_if_lt (tgt := 42) hx hb dX11_readValues_35 (by decide) (fun c9 => ?_) (fun c9 => ?_)
        · have hf := (if_pos c9).symm.trans hf
          refine lv_iconst (v := 0) hx hb dX11_readValues_42 (by decide) ?_
          obtain rfl := Option.some.inj hf
          rw [hQ]
          exact r_zret C hr hk hW (Or.inl rfl) rfl rfl dX11_readValues_43
        · have hf := (if_neg c9).symm.trans hf
          refine lv_iconst (v := 1) hx hb dX11_readValues_38 (by decide) ?_
          refine lv_goto (tgt := 43) hx hb dX11_readValues_39 (by decide) ?_
          obtain rfl := Option.some.inj hf
          rw [hQ]
          exact r_zret C hr hk hW (Or.inr rfl) rfl rfl dX11_readValues_43
    · have hf := (if_neg c4).symm.trans hf
      refine lv_iconst (v := 0) hx hb dX11_readValues_14 (by decide) ?_
      obtain rfl := Option.some.inj hf
      rw [hQ]
      exact r_zret C hr hk hW (Or.inl rfl) rfl rfl dX11_readValues_15
set_option maxHeartbeats 4000000 in
set_option maxRecDepth 100000 in
theorem c_X11_readPerson {l : Launch} {D : va_G} {tc : Nat → ClassId} {ro : Ro} {ad : Nat → Nat} {μ : Mm} {res : Int32 × Mm} (hf : f_X11_readPerson μ = some res) : Ct l D tc ro (faM ad) (feM tc ad) yX11_readPerson cX11_readPerson 3 (some .boolean) (rmq 3 65) [.ref (ad 0)] μ (some (.int res.1)) res.2 := by
  refine Ct.of (by decide) (Nat.le_of_ble_eq_true rfl) (fun p e s m args below meth c A C hr hk hW ls hl => ?_)
  have hx := C.1.1
  have hb := C.1.2.1
  obtain ⟨Q, hQ⟩ : ∃ Q, Q = MQ below (Ctq D (faM ad) (feM tc ad) (some (.int res.1)) res.2 A) args s 0 0 A := ⟨_, rfl⟩
  rw [← hQ]
  have hl : lv_has ls 3 [(0, .ref (ad 0))] := hl
  unfold f_X11_readPerson at hf
  refine lv_aload_n hx hb dX11_readPerson_0 rfl (lv_at hl 0 rfl) ?_
  obtain ⟨x1, h1, hf⟩ := bd_of hf
  refine r_callV (k := ((0, 0) : Ky)) C hW hl lk_X11_193 (c_X11_isEarly h1) ⟨rfl, rfl⟩ ⟨Nat.le_of_ble_eq_true rfl, Nat.le_of_ble_eq_true rfl⟩ rfl rfl rfl (As := []) (rest := []) rfl rfl (Nat.le_of_ble_eq_true rfl) dX11_readPerson_1 ⟨Nat.zero_le _, Nat.zero_le _⟩ (fun H locs hW => ?_)
  show W p l e (rmq 3 65) s m args below meth c H locs 0 0 Q (F0 m 4 ls [.int x1])
  refine lv_if_eq (tgt := 22) hx hb dX11_readPerson_4 (by decide) (fun c2 => ?_) (fun c2 => ?_)
  · have hf := (if_pos c2).symm.trans hf
    refine lv_iconst (v := 0) hx hb dX11_readPerson_22 (by decide) ?_
    obtain rfl := Option.some.inj hf
    rw [hQ]
    exact r_zret C hr hk hW (Or.inl rfl) rfl rfl dX11_readPerson_23
  · have hf := (if_neg c2).symm.trans hf
    refine lv_aload_n hx hb dX11_readPerson_7 rfl (lv_at hl 0 rfl) ?_
    obtain ⟨x8, h8, hf⟩ := bd_of hf
    refine r_callV (k := ((0, 0) : Ky)) C hW hl lk_X11_115 (c_X11_worlds h8) ⟨rfl, rfl⟩ ⟨Nat.le_of_ble_eq_true rfl, Nat.le_of_ble_eq_true rfl⟩ rfl rfl rfl (As := []) (rest := []) rfl rfl (Nat.le_of_ble_eq_true rfl) dX11_readPerson_8 ⟨Nat.zero_le _, Nat.zero_le _⟩ (fun H locs hW => ?_)
    show W p l e (rmq 3 65) s m args below meth c H locs 0 0 Q (F0 m 11 ls [.int x8])
    refine lv_aload_n hx hb dX11_readPerson_11 rfl (lv_at hl 0 rfl) ?_
    obtain ⟨x12, h12, hf⟩ := bd_of hf
    refine r_callV (k := ((0, 0) : Ky)) C hW hl lk_X11_118 (c_X11_values h12) ⟨rfl, rfl⟩ ⟨Nat.le_of_ble_eq_true rfl, Nat.le_of_ble_eq_true rfl⟩ rfl rfl rfl (As := []) (rest := [.int x8]) rfl rfl (Nat.le_of_ble_eq_true rfl) dX11_readPerson_12 ⟨Nat.zero_le _, Nat.zero_le _⟩ (fun H locs hW => ?_)
    show W p l e (rmq 3 65) s m args below meth c H locs 0 0 Q (F0 m 15 ls [.int x12, .int x8])
    refine lv_imul hx hb dX11_readPerson_15 ?_
    refine lv_sipush (v := 512) hx hb dX11_readPerson_16 (by decide) ?_
    refine lv_icmp_le (tgt := 24) hx hb dX11_readPerson_19 (by decide) (fun c5 => ?_) (fun c5 => ?_)
    · have hf := (if_pos c5).symm.trans hf
      refine lv_aload_n hx hb dX11_readPerson_24 rfl (lv_at hl 0 rfl) ?_
      refine lv_iconst (v := 0) hx hb dX11_readPerson_25 (by decide) ?_
      refine lv_aload_n hx hb dX11_readPerson_26 rfl (lv_at hl 0 rfl) ?_
      obtain ⟨x27, h27, hf⟩ := bd_of hf
      refine r_callV (k := ((0, 0) : Ky)) C hW hl lk_X11_118 (c_X11_values h27) ⟨rfl, rfl⟩ ⟨Nat.le_of_ble_eq_true rfl, Nat.le_of_ble_eq_true rfl⟩ rfl rfl rfl (As := []) (rest := [.int (0 : Int32), .ref (ad 0)]) rfl rfl (Nat.le_of_ble_eq_true rfl) dX11_readPerson_27 ⟨Nat.zero_le _, Nat.zero_le _⟩ (fun H locs hW => ?_)
      show W p l e (rmq 3 65) s m args below meth c H locs 0 0 Q (F0 m 30 ls [.int x27, .int (0 : Int32), .ref (ad 0)])
      refine lv_iconst (v := 1) hx hb dX11_readPerson_30 (by decide) ?_
      refine lv_isub hx hb dX11_readPerson_31 ?_
      obtain ⟨x32, h32, hf⟩ := bd_of hf
      refine r_callV (k := ((0, 0) : Ky)) C hW hl lk_X11_190 (c_X11_number h32) ⟨rfl, rfl⟩ ⟨Nat.le_of_ble_eq_true rfl, Nat.le_of_ble_eq_true rfl⟩ rfl rfl rfl (As := [.int (0 : Int32), .int (x27 - (1 : Int32))]) (rest := []) rfl rfl (Nat.le_of_ble_eq_true rfl) dX11_readPerson_32 ⟨Nat.zero_le _, Nat.zero_le _⟩ (fun H locs hW => ?_)
      show W p l e (rmq 3 65) s m args below meth c H locs 0 0 Q (F0 m 35 ls [.int x32.1])
      refine lv_istore_n (lv' := [(1, .int x32.1), (0, .ref (ad 0))]) hx hb dX11_readPerson_35 rfl hl (by decide) rfl (fun ls hl => ?_)
      refine lv_iload_n hx hb dX11_readPerson_36 rfl (lv_at hl 0 rfl) ?_
      refine lv_if_ge (tgt := 42) hx hb dX11_readPerson_37 (by decide) (fun c8 => ?_) (fun c8 => ?_)
      · have hf := (if_pos c8).symm.trans hf
        refine lv_aload_n hx hb dX11_readPerson_42 rfl (lv_at hl 1 rfl) ?_
        refine gf_X11_13 C hW dX11_readPerson_43 ?_
        refine lv_iconst (v := 1) hx hb dX11_readPerson_46 (by decide) ?_
        refine lv_dup2_11 hx hb dX11_readPerson_47 rfl rfl ?_
        obtain ⟨hi9, hf⟩ := ck_of hf
        refine r_iald (k := ((1, 0) : Ky)) (n := 7114) C hW rfl rfl hi9 dX11_readPerson_48 ?_
        refine lv_iconst (v := 1) hx hb dX11_readPerson_49 (by decide) ?_
        refine lv_iadd hx hb dX11_readPerson_50 ?_
        obtain ⟨hi10, hf⟩ := ck_of hf
        refine r_iast (k := ((1, 0) : Ky)) (n := 7114) C hW rfl (fun _ => rfl) hi10 dX11_readPerson_51 (fun H locs hW => ?_)
        refine lv_aload_n hx hb dX11_readPerson_52 rfl (lv_at hl 1 rfl) ?_
        refine gf_X11_13 C hW dX11_readPerson_53 ?_
        refine lv_bipush (v := 10) hx hb dX11_readPerson_56 (by decide) ?_
        refine lv_dup2_11 hx hb dX11_readPerson_58 rfl rfl ?_
        obtain ⟨hi11, hf⟩ := ck_of hf
        refine r_iald (k := ((1, 0) : Ky)) (n := 7114) C hW rfl rfl hi11 dX11_readPerson_59 ?_
        refine lv_aload_n hx hb dX11_readPerson_60 rfl (lv_at hl 1 rfl) ?_
        obtain ⟨x61, h61, hf⟩ := bd_of hf
        refine r_callV (k := ((0, 0) : Ky)) C hW hl lk_X11_118 (c_X11_values h61) ⟨rfl, rfl⟩ ⟨Nat.le_of_ble_eq_true rfl, Nat.le_of_ble_eq_true rfl⟩ rfl rfl rfl (As := []) (rest := [.int ((mst x32.2 (1, 0) (1 : Int32).toNatClampNeg ((x32.2 (1, 0) (1 : Int32).toNatClampNeg) + (1 : Int32))) (1, 0) (10 : Int32).toNatClampNeg), .int (10 : Int32), .ref (ad 1)]) rfl rfl (Nat.le_of_ble_eq_true rfl) dX11_readPerson_61 ⟨Nat.zero_le _, Nat.zero_le _⟩ (fun H locs hW => ?_)
        show W p l e (rmq 3 65) s m args below meth c H locs 0 0 Q (F0 m 64 ls [.int x61, .int ((mst x32.2 (1, 0) (1 : Int32).toNatClampNeg ((x32.2 (1, 0) (1 : Int32).toNatClampNeg) + (1 : Int32))) (1, 0) (10 : Int32).toNatClampNeg), .int (10 : Int32), .ref (ad 1)])
        refine lv_imul hx hb dX11_readPerson_64 ?_
        obtain ⟨hi13, hf⟩ := ck_of hf
        refine r_iast (k := ((1, 0) : Ky)) (n := 7114) C hW rfl (fun _ => rfl) hi13 dX11_readPerson_65 (fun H locs hW => ?_)
        refine lv_aload_n hx hb dX11_readPerson_66 rfl (lv_at hl 1 rfl) ?_
        refine gf_X11_13 C hW dX11_readPerson_67 ?_
        refine lv_bipush (v := 6) hx hb dX11_readPerson_70 (by decide) ?_
        refine lv_aload_n hx hb dX11_readPerson_72 rfl (lv_at hl 1 rfl) ?_
        refine gf_X11_13 C hW dX11_readPerson_73 ?_
        refine lv_bipush (v := 6) hx hb dX11_readPerson_76 (by decide) ?_
        obtain ⟨hi14, hf⟩ := ck_of hf
        refine r_iald (k := ((1, 0) : Ky)) (n := 7114) C hW rfl rfl hi14 dX11_readPerson_78 ?_
        refine lv_aload_n hx hb dX11_readPerson_79 rfl (lv_at hl 1 rfl) ?_
        obtain ⟨x80, h80, hf⟩ := bd_of hf
        refine r_callV (k := ((0, 0) : Ky)) C hW hl lk_X11_118 (c_X11_values h80) ⟨rfl, rfl⟩ ⟨Nat.le_of_ble_eq_true rfl, Nat.le_of_ble_eq_true rfl⟩ rfl rfl rfl (As := []) (rest := [.int ((mst (mst x32.2 (1, 0) (1 : Int32).toNatClampNeg ((x32.2 (1, 0) (1 : Int32).toNatClampNeg) + (1 : Int32))) (1, 0) (10 : Int32).toNatClampNeg (((mst x32.2 (1, 0) (1 : Int32).toNatClampNeg ((x32.2 (1, 0) (1 : Int32).toNatClampNeg) + (1 : Int32))) (1, 0) (10 : Int32).toNatClampNeg) * x61)) (1, 0) (6 : Int32).toNatClampNeg), .int (6 : Int32), .ref (ad 1)]) rfl rfl (Nat.le_of_ble_eq_true rfl) dX11_readPerson_80 ⟨Nat.zero_le _, Nat.zero_le _⟩ (fun H locs hW => ?_)
        show W p l e (rmq 3 65) s m args below meth c H locs 0 0 Q (F0 m 83 ls [.int x80, .int ((mst (mst x32.2 (1, 0) (1 : Int32).toNatClampNeg ((x32.2 (1, 0) (1 : Int32).toNatClampNeg) + (1 : Int32))) (1, 0) (10 : Int32).toNatClampNeg (((mst x32.2 (1, 0) (1 : Int32).toNatClampNeg ((x32.2 (1, 0) (1 : Int32).toNatClampNeg) + (1 : Int32))) (1, 0) (10 : Int32).toNatClampNeg) * x61)) (1, 0) (6 : Int32).toNatClampNeg), .int (6 : Int32), .ref (ad 1)])
        refine lv_imul hx hb dX11_readPerson_83 ?_
        refine lv_iload_n hx hb dX11_readPerson_84 rfl (lv_at hl 0 rfl) ?_
        refine lv_iadd hx hb dX11_readPerson_85 ?_
        obtain ⟨hi16, hf⟩ := ck_of hf
        refine r_iast (k := ((1, 0) : Ky)) (n := 7114) C hW rfl (fun _ => rfl) hi16 dX11_readPerson_86 (fun H locs hW => ?_)
        refine lv_iconst (v := 0) hx hb dX11_readPerson_87 (by decide) ?_
        refine lv_istore_n (lv' := [(2, .int (0 : Int32)), (1, .int x32.1), (0, .ref (ad 0))]) hx hb dX11_readPerson_88 rfl hl (by decide) rfl (fun ls hl => ?_)
        have L89 : ∀ (μ : Mm) (v2 : Int32) (H : Heap) (locs : List Loc) (ls : Array Slot), Wh (fun z : Mm × Int32 => f_X11_readPerson_L89 z.1 z.2) (μ, v2) = some res → Wd D (faM ad) (feM tc ad) A s.heap μ H locs → lv_has ls 3 [(0, .ref (ad 0)), (2, .int v2)] → W p l e (rmq 3 65) s m args below meth c H locs 0 0 Q (F0 m 89 ls []) := by
          intro μ v2 H locs ls hf hW hl
          refine Wh_rule hf (fun z : Mm × Int32 => ∀ (H : Heap) (locs : List Loc) (ls : Array Slot), Wd D (faM ad) (feM tc ad) A s.heap z.1 H locs → lv_has ls 3 [(0, .ref (ad 0)), (2, .int z.2)] → W p l e (rmq 3 65) s m args below meth c H locs 0 0 Q (F0 m 89 ls [])) (fun z o1 hf Kl1 Kr1 => ?_) _ _ _ hW hl
          obtain ⟨μ, v2⟩ := z
          intro H locs ls hW hl
          have hf : f_X11_readPerson_L89 μ v2 = some o1 := hf
          unfold f_X11_readPerson_L89 at hf
          have hW : Wd D (faM ad) (feM tc ad) A s.heap μ H locs := hW
          have hl : lv_has ls 3 [(0, .ref (ad 0)), (2, .int v2)] := hl
          refine lv_iload_n hx hb dX11_readPerson_89 rfl (lv_at hl 1 rfl) ?_
          refine lv_aload_n hx hb dX11_readPerson_90 rfl (lv_at hl 0 rfl) ?_
          obtain ⟨x91, h91, hf⟩ := bd_of hf
          refine r_callV (k := ((0, 0) : Ky)) C hW hl lk_X11_115 (c_X11_worlds h91) ⟨rfl, rfl⟩ ⟨Nat.le_of_ble_eq_true rfl, Nat.le_of_ble_eq_true rfl⟩ rfl rfl rfl (As := []) (rest := [.int v2]) rfl rfl (Nat.le_of_ble_eq_true rfl) dX11_readPerson_91 ⟨Nat.zero_le _, Nat.zero_le _⟩ (fun H locs hW => ?_)
          show W p l e (rmq 3 65) s m args below meth c H locs 0 0 Q (F0 m 94 ls [.int x91, .int v2])
          refine lv_icmp_ge (tgt := 113) hx hb dX11_readPerson_94 (by decide) (fun c18 => ?_) (fun c18 => ?_)
          · have hf := (if_pos c18).symm.trans hf
            obtain ⟨x9019, hf, hx9019⟩ := map_of hf
            have e9019 := (Kr1 _ hx9019.symm).symm
            subst e9019
            refine lv_iconst (v := 1) hx hb dX11_readPerson_113 (by decide) ?_
            obtain rfl := Option.some.inj hf
            rw [hQ]
            exact r_zret C hr hk hW (Or.inr rfl) rfl rfl dX11_readPerson_114
          · have hf := (if_neg c18).symm.trans hf
            refine lv_aload_n hx hb dX11_readPerson_97 rfl (lv_at hl 0 rfl) ?_
            refine gf_X11_13 C hW dX11_readPerson_98 ?_
            refine lv_bipush (v := 20) hx hb dX11_readPerson_101 (by decide) ?_
            refine lv_iload_n hx hb dX11_readPerson_103 rfl (lv_at hl 1 rfl) ?_
            refine lv_iadd hx hb dX11_readPerson_104 ?_
            refine lv_iconst (v := 1) hx hb dX11_readPerson_105 (by decide) ?_
            obtain ⟨hi20, hf⟩ := ck_of hf
            refine r_iast (k := ((1, 0) : Ky)) (n := 7114) C hW rfl (fun _ => rfl) hi20 dX11_readPerson_106 (fun H locs hW => ?_)
            refine lv_iinc (v := (v2 + (1 : Int32))) (lv' := [(2, .int (v2 + (1 : Int32))), (0, .ref (ad 0))]) hx hb dX11_readPerson_107 hl (k := 1) rfl rfl (by decide) rfl (fun ls hl => ?_)
            refine lv_goto (tgt := 89) hx hb dX11_readPerson_110 (by decide) ?_
            obtain rfl := Option.some.inj hf
            exact Kl1 _ rfl _ _ _ hW (lv_sub hl [1, 0] rfl)
        exact L89 (mst (mst (mst x32.2 (1, 0) (1 : Int32).toNatClampNeg ((x32.2 (1, 0) (1 : Int32).toNatClampNeg) + (1 : Int32))) (1, 0) (10 : Int32).toNatClampNeg (((mst x32.2 (1, 0) (1 : Int32).toNatClampNeg ((x32.2 (1, 0) (1 : Int32).toNatClampNeg) + (1 : Int32))) (1, 0) (10 : Int32).toNatClampNeg) * x61)) (1, 0) (6 : Int32).toNatClampNeg ((((mst (mst x32.2 (1, 0) (1 : Int32).toNatClampNeg ((x32.2 (1, 0) (1 : Int32).toNatClampNeg) + (1 : Int32))) (1, 0) (10 : Int32).toNatClampNeg (((mst x32.2 (1, 0) (1 : Int32).toNatClampNeg ((x32.2 (1, 0) (1 : Int32).toNatClampNeg) + (1 : Int32))) (1, 0) (10 : Int32).toNatClampNeg) * x61)) (1, 0) (6 : Int32).toNatClampNeg) * x80) + x32.1)) (0 : Int32) _ _ _ hf hW (lv_sub hl [2, 0] rfl)
      · have hf := (if_neg c8).symm.trans hf
        refine lv_iconst (v := 0) hx hb dX11_readPerson_40 (by decide) ?_
        obtain rfl := Option.some.inj hf
        rw [hQ]
        exact r_zret C hr hk hW (Or.inl rfl) rfl rfl dX11_readPerson_41
    · have hf := (if_neg c5).symm.trans hf
      refine lv_iconst (v := 0) hx hb dX11_readPerson_22 (by decide) ?_
      obtain rfl := Option.some.inj hf
      rw [hQ]
      exact r_zret C hr hk hW (Or.inl rfl) rfl rfl dX11_readPerson_23
set_option maxHeartbeats 4000000 in
set_option maxRecDepth 100000 in
theorem c_X11_readTwo {l : Launch} {D : va_G} {tc : Nat → ClassId} {ro : Ro} {ad : Nat → Nat} {μ : Mm} {res : Int32 × Mm} (hf : f_X11_readTwo μ = some res) : Ct l D tc ro (faM ad) (feM tc ad) yX11_readTwo cX11_readTwo 1 (some .boolean) (rmq 4 85) [.ref (ad 0)] μ (some (.int res.1)) res.2 := by
  refine Ct.of (by decide) (Nat.le_of_ble_eq_true rfl) (fun p e s m args below meth c A C hr hk hW ls hl => ?_)
  have hx := C.1.1
  have hb := C.1.2.1
  obtain ⟨Q, hQ⟩ : ∃ Q, Q = MQ below (Ctq D (faM ad) (feM tc ad) (some (.int res.1)) res.2 A) args s 0 0 A := ⟨_, rfl⟩
  rw [← hQ]
  have hl : lv_has ls 1 [(0, .ref (ad 0))] := hl
  unfold f_X11_readTwo at hf
  refine lv_aload_n hx hb dX11_readTwo_0 rfl (lv_at hl 0 rfl) ?_
  refine lv_aload_n hx hb dX11_readTwo_1 rfl (lv_at hl 0 rfl) ?_
  obtain ⟨x2, h2, hf⟩ := bd_of hf
  refine r_callV (k := ((0, 0) : Ky)) C hW hl lk_X11_197 (c_X11_personTold h2) ⟨rfl, rfl⟩ ⟨Nat.le_of_ble_eq_true rfl, Nat.le_of_ble_eq_true rfl⟩ rfl rfl rfl (As := []) (rest := [.ref (ad 0)]) rfl rfl (Nat.le_of_ble_eq_true rfl) dX11_readTwo_2 ⟨Nat.zero_le _, Nat.zero_le _⟩ (fun H locs hW => ?_)
  show W p l e (rmq 4 85) s m args below meth c H locs 0 0 Q (F0 m 5 ls [.int x2.1, .ref (ad 0)])
  refine pf_X11_200 C hW dX11_readTwo_5 (fun H locs hW => ?_)
  refine lv_aload_n hx hb dX11_readTwo_8 rfl (lv_at hl 0 rfl) ?_
  refine gf_X11_200 C hW dX11_readTwo_9 ?_
  refine lv_if_ge (tgt := 17) hx hb dX11_readTwo_12 (by decide) (fun c2 => ?_) (fun c2 => ?_)
  · have hf := (if_pos c2).symm.trans hf
    refine lv_aload_n hx hb dX11_readTwo_17 rfl (lv_at hl 0 rfl) ?_
    refine lv_aload_n hx hb dX11_readTwo_18 rfl (lv_at hl 0 rfl) ?_
    obtain ⟨x19, h19, hf⟩ := bd_of hf
    refine r_callV (k := ((0, 0) : Ky)) C hW hl lk_X11_197 (c_X11_personTold h19) ⟨rfl, rfl⟩ ⟨Nat.le_of_ble_eq_true rfl, Nat.le_of_ble_eq_true rfl⟩ rfl rfl rfl (As := []) (rest := [.ref (ad 0)]) rfl rfl (Nat.le_of_ble_eq_true rfl) dX11_readTwo_19 ⟨Nat.zero_le _, Nat.zero_le _⟩ (fun H locs hW => ?_)
    show W p l e (rmq 4 85) s m args below meth c H locs 0 0 Q (F0 m 22 ls [.int x19.1, .ref (ad 0)])
    refine pf_X11_203 C hW dX11_readTwo_22 (fun H locs hW => ?_)
    refine lv_aload_n hx hb dX11_readTwo_25 rfl (lv_at hl 0 rfl) ?_
    refine gf_X11_203 C hW dX11_readTwo_26 ?_
    refine lv_if_lt (tgt := 47) hx hb dX11_readTwo_29 (by decide) (fun c4 => ?_) (fun c4 => ?_)
    · have hf := (if_pos c4).symm.trans hf
      refine lv_iconst (v := 0) hx hb dX11_readTwo_47 (by decide) ?_
      obtain rfl := Option.some.inj hf
      rw [hQ]
      exact r_zret C hr hk hW (Or.inl rfl) rfl rfl dX11_readTwo_48
    · have hf := (if_neg c4).symm.trans hf
      refine lv_aload_n hx hb dX11_readTwo_32 rfl (lv_at hl 0 rfl) ?_
      refine gf_X11_203 C hW dX11_readTwo_33 ?_
      refine lv_aload_n hx hb dX11_readTwo_36 rfl (lv_at hl 0 rfl) ?_
      refine gf_X11_200 C hW dX11_readTwo_37 ?_
      refine lv_icmp_eq (tgt := 47) hx hb dX11_readTwo_40 (by decide) (fun c5 => ?_) (fun c5 => ?_)
      · have hf := (if_pos c5).symm.trans hf
        refine lv_iconst (v := 0) hx hb dX11_readTwo_47 (by decide) ?_
        obtain rfl := Option.some.inj hf
        rw [hQ]
        exact r_zret C hr hk hW (Or.inl rfl) rfl rfl dX11_readTwo_48
      · have hf := (if_neg c5).symm.trans hf
        refine lv_iconst (v := 1) hx hb dX11_readTwo_43 (by decide) ?_
        refine lv_goto (tgt := 48) hx hb dX11_readTwo_44 (by decide) ?_
        obtain rfl := Option.some.inj hf
        rw [hQ]
        exact r_zret C hr hk hW (Or.inr rfl) rfl rfl dX11_readTwo_48
  · have hf := (if_neg c2).symm.trans hf
    refine lv_iconst (v := 0) hx hb dX11_readTwo_15 (by decide) ?_
    obtain rfl := Option.some.inj hf
    rw [hQ]
    exact r_zret C hr hk hW (Or.inl rfl) rfl rfl dX11_readTwo_16
set_option maxHeartbeats 4000000 in
set_option maxRecDepth 100000 in
theorem c_X11_haveIn {l : Launch} {D : va_G} {tc : Nat → ClassId} {ro : Ro} {ad : Nat → Nat} {μ : Mm} {v1 v2 : Int32} {res : Int32} (hf : f_X11_haveIn μ v1 v2 = some res) : Ct l D tc ro (faM ad) (feM tc ad) yX11_haveIn cX11_haveIn 5 (some .int) (rmq 2 44) [.ref (ad 0), .int v1, .int v2] μ (some (.int res)) μ := by
  refine Ct.of (by decide) (Nat.le_of_ble_eq_true rfl) (fun p e s m args below meth c A C hr hk hW ls hl => ?_)
  have hx := C.1.1
  have hb := C.1.2.1
  obtain ⟨Q, hQ⟩ : ∃ Q, Q = MQ below (Ctq D (faM ad) (feM tc ad) (some (.int res)) μ A) args s 0 0 A := ⟨_, rfl⟩
  rw [← hQ]
  have hl : lv_has ls 5 [(0, .ref (ad 0)), (1, .int v1), (2, .int v2)] := hl
  unfold f_X11_haveIn at hf
  refine lv_iconst (v := 0) hx hb dX11_haveIn_0 (by decide) ?_
  refine lv_istore_n (lv' := [(3, .int (0 : Int32)), (0, .ref (ad 0)), (1, .int v1), (2, .int v2)]) hx hb dX11_haveIn_1 rfl hl (by decide) rfl (fun ls hl => ?_)
  refine lv_iconst (v := 0) hx hb dX11_haveIn_2 (by decide) ?_
  refine lv_istore (lv' := [(4, .int (0 : Int32)), (3, .int (0 : Int32)), (0, .ref (ad 0)), (1, .int v1), (2, .int v2)]) hx hb dX11_haveIn_3 hl (by decide) rfl (fun ls hl => ?_)
  have L5 : ∀ (v3 v4 : Int32) (H : Heap) (locs : List Loc) (ls : Array Slot), Wh (fun z : Int32 × Int32 => f_X11_haveIn_L5 v1 v2 μ z.1 z.2) (v3, v4) = some res → Wd D (faM ad) (feM tc ad) A s.heap μ H locs → lv_has ls 5 [(0, .ref (ad 0)), (1, .int v1), (2, .int v2), (3, .int v3), (4, .int v4)] → W p l e (rmq 2 44) s m args below meth c H locs 0 0 Q (F0 m 5 ls []) := by
    intro v3 v4 H locs ls hf hW hl
    refine Wh_rule hf (fun z : Int32 × Int32 => ∀ (H : Heap) (locs : List Loc) (ls : Array Slot), Wd D (faM ad) (feM tc ad) A s.heap μ H locs → lv_has ls 5 [(0, .ref (ad 0)), (1, .int v1), (2, .int v2), (3, .int z.1), (4, .int z.2)] → W p l e (rmq 2 44) s m args below meth c H locs 0 0 Q (F0 m 5 ls [])) (fun z o1 hf Kl1 Kr1 => ?_) _ _ _ hW hl
    obtain ⟨v3, v4⟩ := z
    intro H locs ls hW hl
    have hf : f_X11_haveIn_L5 v1 v2 μ v3 v4 = some o1 := hf
    unfold f_X11_haveIn_L5 at hf
    have hW : Wd D (faM ad) (feM tc ad) A s.heap μ H locs := hW
    have hl : lv_has ls 5 [(0, .ref (ad 0)), (1, .int v1), (2, .int v2), (3, .int v3), (4, .int v4)] := hl
    refine lv_iload hx hb dX11_haveIn_5 (lv_at hl 4 rfl) ?_
    refine lv_aload_n hx hb dX11_haveIn_7 rfl (lv_at hl 0 rfl) ?_
    obtain ⟨x8, h8, hf⟩ := bd_of hf
    refine r_callV (k := ((0, 0) : Ky)) C hW hl lk_X11_107 (c_X11_people h8) ⟨rfl, rfl⟩ ⟨Nat.le_of_ble_eq_true rfl, Nat.le_of_ble_eq_true rfl⟩ rfl rfl rfl (As := []) (rest := [.int v4]) rfl rfl (Nat.le_of_ble_eq_true rfl) dX11_haveIn_8 ⟨Nat.zero_le _, Nat.zero_le _⟩ (fun H locs hW => ?_)
    show W p l e (rmq 2 44) s m args below meth c H locs 0 0 Q (F0 m 11 ls [.int x8, .int v4])
    refine lv_icmp_ge (tgt := 39) hx hb dX11_haveIn_11 (by decide) (fun c2 => ?_) (fun c2 => ?_)
    · have hf := (if_pos c2).symm.trans hf
      obtain ⟨x9003, hf, hx9003⟩ := map_of hf
      have e9003 := (Kr1 _ hx9003.symm).symm
      subst e9003
      refine lv_iload_n hx hb dX11_haveIn_39 rfl (lv_at hl 3 rfl) ?_
      obtain rfl := Option.some.inj hf
      rw [hQ]
      exact r_iret C hr hk hW rfl rfl dX11_haveIn_40
    · have hf := (if_neg c2).symm.trans hf
      refine lv_iload_n hx hb dX11_haveIn_14 rfl (lv_at hl 3 rfl) ?_
      refine lv_aload_n hx hb dX11_haveIn_15 rfl (lv_at hl 0 rfl) ?_
      refine lv_iload hx hb dX11_haveIn_16 (lv_at hl 4 rfl) ?_
      refine lv_iload_n hx hb dX11_haveIn_18 rfl (lv_at hl 1 rfl) ?_
      obtain ⟨x19, h19, hf⟩ := bd_of hf
      refine r_callV (k := ((0, 0) : Ky)) C hW hl lk_X11_124 (c_X11_noticeIn h19) ⟨rfl, rfl⟩ ⟨Nat.le_of_ble_eq_true rfl, Nat.le_of_ble_eq_true rfl⟩ rfl rfl rfl (As := [.int v4, .int v1]) (rest := [.int v3]) rfl rfl (Nat.le_of_ble_eq_true rfl) dX11_haveIn_19 ⟨Nat.zero_le _, Nat.zero_le _⟩ (fun H locs hW => ?_)
      show W p l e (rmq 2 44) s m args below meth c H locs 0 0 Q (F0 m 22 ls [.int x19, .int v3])
      refine lv_iload_n hx hb dX11_haveIn_22 rfl (lv_at hl 2 rfl) ?_
      refine lv_icmp_ne (tgt := 30) hx hb dX11_haveIn_23 (by decide) (fun c5 => ?_) (fun c5 => ?_)
      · have hf := (if_neg c5).symm.trans hf
        refine lv_iconst (v := 0) hx hb dX11_haveIn_30 (by decide) ?_
        refine lv_iadd hx hb dX11_haveIn_31 ?_
        refine lv_istore_n (lv' := [(3, .int (v3 + (0 : Int32))), (0, .ref (ad 0)), (1, .int v1), (2, .int v2), (4, .int v4)]) hx hb dX11_haveIn_32 rfl hl (by decide) rfl (fun ls hl => ?_)
        refine lv_iinc (v := (v4 + (1 : Int32))) (lv' := [(4, .int (v4 + (1 : Int32))), (3, .int (v3 + (0 : Int32))), (0, .ref (ad 0)), (1, .int v1), (2, .int v2)]) hx hb dX11_haveIn_33 hl (k := 4) rfl rfl (by decide) rfl (fun ls hl => ?_)
        refine lv_goto (tgt := 5) hx hb dX11_haveIn_36 (by decide) ?_
        obtain rfl := Option.some.inj hf
        exact Kl1 _ rfl _ _ _ hW (lv_sub hl [2, 3, 4, 1, 0] rfl)
      · have hf := (if_pos c5).symm.trans hf
        refine lv_iconst (v := 1) hx hb dX11_haveIn_26 (by decide) ?_
        refine lv_goto (tgt := 31) hx hb dX11_haveIn_27 (by decide) ?_
        refine lv_iadd hx hb dX11_haveIn_31 ?_
        refine lv_istore_n (lv' := [(3, .int (v3 + (1 : Int32))), (0, .ref (ad 0)), (1, .int v1), (2, .int v2), (4, .int v4)]) hx hb dX11_haveIn_32 rfl hl (by decide) rfl (fun ls hl => ?_)
        refine lv_iinc (v := (v4 + (1 : Int32))) (lv' := [(4, .int (v4 + (1 : Int32))), (3, .int (v3 + (1 : Int32))), (0, .ref (ad 0)), (1, .int v1), (2, .int v2)]) hx hb dX11_haveIn_33 hl (k := 4) rfl rfl (by decide) rfl (fun ls hl => ?_)
        refine lv_goto (tgt := 5) hx hb dX11_haveIn_36 (by decide) ?_
        obtain rfl := Option.some.inj hf
        exact Kl1 _ rfl _ _ _ hW (lv_sub hl [2, 3, 4, 1, 0] rfl)
  exact L5 (0 : Int32) (0 : Int32) _ _ _ hf hW (lv_sub hl [2, 3, 4, 1, 0] rfl)
set_option maxHeartbeats 4000000 in
set_option maxRecDepth 100000 in
theorem c_X11_isSo {l : Launch} {D : va_G} {tc : Nat → ClassId} {ro : Ro} {ad : Nat → Nat} {μ : Mm} {v1 : Int32} {res : Int32 × Mm} (hf : f_X11_isSo μ v1 = some res) : Ct l D tc ro (faM ad) (feM tc ad) yX11_isSo cX11_isSo 2 (some .boolean) (rmq 2 41) [.ref (ad 0), .int v1] μ (some (.int res.1)) res.2 := by
  refine Ct.of (by decide) (Nat.le_of_ble_eq_true rfl) (fun p e s m args below meth c A C hr hk hW ls hl => ?_)
  have hx := C.1.1
  have hb := C.1.2.1
  obtain ⟨Q, hQ⟩ : ∃ Q, Q = MQ below (Ctq D (faM ad) (feM tc ad) (some (.int res.1)) res.2 A) args s 0 0 A := ⟨_, rfl⟩
  rw [← hQ]
  have hl : lv_has ls 2 [(0, .ref (ad 0)), (1, .int v1)] := hl
  unfold f_X11_isSo at hf
  refine lv_aload_n hx hb dX11_isSo_0 rfl (lv_at hl 0 rfl) ?_
  refine gf_X11_33 C hW dX11_isSo_1 ?_
  refine lv_aload_n hx hb dX11_isSo_4 rfl (lv_at hl 0 rfl) ?_
  obtain ⟨x5, h5, hf⟩ := bd_of hf
  refine r_callV (k := ((0, 0) : Ky)) C hW hl lk_X11_121 (c_X11_here h5) ⟨rfl, rfl⟩ ⟨Nat.le_of_ble_eq_true rfl, Nat.le_of_ble_eq_true rfl⟩ rfl rfl rfl (As := []) (rest := [.ref (ad 9)]) rfl rfl (Nat.le_of_ble_eq_true rfl) dX11_isSo_5 ⟨Nat.zero_le _, Nat.zero_le _⟩ (fun H locs hW => ?_)
  show W p l e (rmq 2 41) s m args below meth c H locs 0 0 Q (F0 m 8 ls [.int x5, .ref (ad 9)])
  obtain ⟨hi2, hf⟩ := ck_of hf
  refine r_iald (k := ((9, 0) : Ky)) (n := 512) C hW rfl rfl hi2 dX11_isSo_8 ?_
  refine lv_iconst (v := 1) hx hb dX11_isSo_9 (by decide) ?_
  refine lv_icmp_ne (tgt := 19) hx hb dX11_isSo_10 (by decide) (fun c3 => ?_) (fun c3 => ?_)
  · have hf := (if_neg c3).symm.trans hf
    refine lv_aload_n hx hb dX11_isSo_19 rfl (lv_at hl 0 rfl) ?_
    refine lv_iload_n hx hb dX11_isSo_20 rfl (lv_at hl 1 rfl) ?_
    refine pf_X11_168 C hW dX11_isSo_21 (fun H locs hW => ?_)
    refine lv_iconst (v := 0) hx hb dX11_isSo_24 (by decide) ?_
    obtain rfl := Option.some.inj hf
    rw [hQ]
    exact r_zret C hr hk hW (Or.inl rfl) rfl rfl dX11_isSo_25
  · have hf := (if_pos c3).symm.trans hf
    refine lv_aload_n hx hb dX11_isSo_13 rfl (lv_at hl 0 rfl) ?_
    obtain ⟨x14, h14, hf⟩ := bd_of hf
    refine r_callV (k := ((0, 0) : Ky)) C hW hl lk_X11_206 (c_X11_drops h14) ⟨rfl, rfl⟩ ⟨Nat.le_of_ble_eq_true rfl, Nat.le_of_ble_eq_true rfl⟩ rfl rfl rfl (As := []) (rest := []) rfl rfl (Nat.le_of_ble_eq_true rfl) dX11_isSo_14 ⟨Nat.zero_le _, Nat.zero_le _⟩ (fun H locs hW => ?_)
    show W p l e (rmq 2 41) s m args below meth c H locs 0 0 Q (F0 m 17 ls [])
    refine lv_iconst (v := 1) hx hb dX11_isSo_17 (by decide) ?_
    obtain rfl := Option.some.inj hf
    rw [hQ]
    exact r_zret C hr hk hW (Or.inr rfl) rfl rfl dX11_isSo_18
set_option maxHeartbeats 4000000 in
set_option maxRecDepth 100000 in
theorem c_X11_readMany {l : Launch} {D : va_G} {tc : Nat → ClassId} {ro : Ro} {ad : Nat → Nat} {μ : Mm} {v1 : Int32} {res : Int32 × Mm} (hf : f_X11_readMany μ v1 = some res) : Ct l D tc ro (faM ad) (feM tc ad) yX11_readMany cX11_readMany 6 (some .boolean) (rmq 6 131) [.ref (ad 0), .int v1] μ (some (.int res.1)) res.2 := by
  refine Ct.of (by decide) (Nat.le_of_ble_eq_true rfl) (fun p e s m args below meth c A C hr hk hW ls hl => ?_)
  have hx := C.1.1
  have hb := C.1.2.1
  obtain ⟨Q, hQ⟩ : ∃ Q, Q = MQ below (Ctq D (faM ad) (feM tc ad) (some (.int res.1)) res.2 A) args s 0 0 A := ⟨_, rfl⟩
  rw [← hQ]
  have hl : lv_has ls 6 [(0, .ref (ad 0)), (1, .int v1)] := hl
  unfold f_X11_readMany at hf
  have J34 : ∀ (μ : Mm) (v2 v3 s0 : Int32) (H : Heap) (locs : List Loc) (ls : Array Slot), f_X11_readMany_J34 μ v1 v2 v3 s0 = some res → Wd D (faM ad) (feM tc ad) A s.heap μ H locs → lv_has ls 6 [(0, .ref (ad 0)), (1, .int v1), (2, .int v2), (3, .int v3)] → W p l e (rmq 6 131) s m args below meth c H locs 0 0 Q (F0 m 34 ls [.int s0]) := by
    intro μ v2 v3 s0 H locs ls hf hW hl
    unfold f_X11_readMany_J34 at hf
    refine lv_istore (lv' := [(4, .int s0), (0, .ref (ad 0)), (1, .int v1), (2, .int v2), (3, .int v3)]) hx hb dX11_readMany_34 hl (by decide) rfl (fun ls hl => ?_)
    refine lv_iload hx hb dX11_readMany_36 (lv_at hl 0 rfl) ?_
    refine lv_if_ge (tgt := 43) hx hb dX11_readMany_38 (by decide) (fun c1 => ?_) (fun c1 => ?_)
    · have hf := (if_pos c1).symm.trans hf
      refine lv_iconst (v := 0) hx hb dX11_readMany_43 (by decide) ?_
      refine lv_istore (lv' := [(5, .int (0 : Int32)), (4, .int s0), (0, .ref (ad 0)), (1, .int v1), (2, .int v2), (3, .int v3)]) hx hb dX11_readMany_44 hl (by decide) rfl (fun ls hl => ?_)
      have L46 : ∀ (μ : Mm) (v2 v3 v4 v5 : Int32) (H : Heap) (locs : List Loc) (ls : Array Slot), Wh (fun z : Mm × Int32 => f_X11_readMany_L46 v1 v2 v3 v4 z.1 z.2) (μ, v5) = some res → Wd D (faM ad) (feM tc ad) A s.heap μ H locs → lv_has ls 6 [(0, .ref (ad 0)), (1, .int v1), (2, .int v2), (3, .int v3), (4, .int v4), (5, .int v5)] → W p l e (rmq 6 131) s m args below meth c H locs 0 0 Q (F0 m 46 ls []) := by
        intro μ v2 v3 v4 v5 H locs ls hf hW hl
        refine Wh_rule hf (fun z : Mm × Int32 => ∀ (H : Heap) (locs : List Loc) (ls : Array Slot), Wd D (faM ad) (feM tc ad) A s.heap z.1 H locs → lv_has ls 6 [(0, .ref (ad 0)), (1, .int v1), (2, .int v2), (3, .int v3), (4, .int v4), (5, .int z.2)] → W p l e (rmq 6 131) s m args below meth c H locs 0 0 Q (F0 m 46 ls [])) (fun z o1 hf Kl1 Kr1 => ?_) _ _ _ hW hl
        obtain ⟨μ, v5⟩ := z
        intro H locs ls hW hl
        have hf : f_X11_readMany_L46 v1 v2 v3 v4 μ v5 = some o1 := hf
        unfold f_X11_readMany_L46 at hf
        have hW : Wd D (faM ad) (feM tc ad) A s.heap μ H locs := hW
        have hl : lv_has ls 6 [(0, .ref (ad 0)), (1, .int v1), (2, .int v2), (3, .int v3), (4, .int v4), (5, .int v5)] := hl
        refine lv_iload hx hb dX11_readMany_46 (lv_at hl 5 rfl) ?_
        refine lv_aload_n hx hb dX11_readMany_48 rfl (lv_at hl 0 rfl) ?_
        obtain ⟨x49, h49, hf⟩ := bd_of hf
        refine r_callV (k := ((0, 0) : Ky)) C hW hl lk_X11_115 (c_X11_worlds h49) ⟨rfl, rfl⟩ ⟨Nat.le_of_ble_eq_true rfl, Nat.le_of_ble_eq_true rfl⟩ rfl rfl rfl (As := []) (rest := [.int v5]) rfl rfl (Nat.le_of_ble_eq_true rfl) dX11_readMany_49 ⟨Nat.zero_le _, Nat.zero_le _⟩ (fun H locs hW => ?_)
        show W p l e (rmq 6 131) s m args below meth c H locs 0 0 Q (F0 m 52 ls [.int x49, .int v5])
        refine lv_icmp_ge (tgt := 104) hx hb dX11_readMany_52 (by decide) (fun c3 => ?_) (fun c3 => ?_)
        · have hf := (if_pos c3).symm.trans hf
          obtain ⟨x9006, hf, hx9006⟩ := map_of hf
          have e9006 := (Kr1 _ hx9006.symm).symm
          subst e9006
          refine lv_aload_n hx hb dX11_readMany_104 rfl (lv_at hl 0 rfl) ?_
          refine lv_iload_n hx hb dX11_readMany_105 rfl (lv_at hl 2 rfl) ?_
          obtain ⟨x106, h106, hf⟩ := bd_of hf
          refine r_callV (k := ((0, 0) : Ky)) C hW hl lk_X11_218 (c_X11_isSo h106) ⟨rfl, rfl⟩ ⟨Nat.le_of_ble_eq_true rfl, Nat.le_of_ble_eq_true rfl⟩ rfl rfl rfl (As := [.int v2]) (rest := []) rfl rfl (Nat.le_of_ble_eq_true rfl) dX11_readMany_106 ⟨Nat.zero_le _, Nat.zero_le _⟩ (fun H locs hW => ?_)
          show W p l e (rmq 6 131) s m args below meth c H locs 0 0 Q (F0 m 109 ls [.int x106.1])
          obtain ⟨hz5, hf⟩ := cb_of hf
          obtain rfl := Option.some.inj hf
          rw [hQ]
          exact r_zret C hr hk hW hz5 rfl rfl dX11_readMany_109
        · have hf := (if_neg c3).symm.trans hf
          refine lv_aload_n hx hb dX11_readMany_55 rfl (lv_at hl 0 rfl) ?_
          refine gf_X11_33 C hW dX11_readMany_56 ?_
          refine lv_iload hx hb dX11_readMany_59 (lv_at hl 5 rfl) ?_
          refine lv_iload_n hx hb dX11_readMany_61 rfl (lv_at hl 1 rfl) ?_
          refine lv_if_eq (tgt := 80) hx hb dX11_readMany_62 (by decide) (fun c7 => ?_) (fun c7 => ?_)
          · have hf := (if_pos c7).symm.trans hf
            refine lv_aload_n hx hb dX11_readMany_80 rfl (lv_at hl 0 rfl) ?_
            refine lv_iload hx hb dX11_readMany_81 (lv_at hl 5 rfl) ?_
            refine lv_iload hx hb dX11_readMany_83 (lv_at hl 4 rfl) ?_
            obtain ⟨x85, h85, hf⟩ := bd_of hf
            refine r_callV (k := ((0, 0) : Ky)) C hW hl lk_X11_215 (c_X11_haveIn h85) ⟨rfl, rfl⟩ ⟨Nat.le_of_ble_eq_true rfl, Nat.le_of_ble_eq_true rfl⟩ rfl rfl rfl (As := [.int v5, .int v4]) (rest := [.int v5, .ref (ad 9)]) rfl rfl (Nat.le_of_ble_eq_true rfl) dX11_readMany_85 ⟨Nat.zero_le _, Nat.zero_le _⟩ (fun H locs hW => ?_)
            show W p l e (rmq 6 131) s m args below meth c H locs 0 0 Q (F0 m 88 ls [.int x85, .int v5, .ref (ad 9)])
            refine lv_iload_n hx hb dX11_readMany_88 rfl (lv_at hl 3 rfl) ?_
            refine lv_icmp_gt (tgt := 96) hx hb dX11_readMany_89 (by decide) (fun c9 => ?_) (fun c9 => ?_)
            · have hf := (if_pos c9).symm.trans hf
              refine lv_iconst (v := 0) hx hb dX11_readMany_96 (by decide) ?_
              obtain ⟨hi10, hf⟩ := ck_of hf
              refine r_iast (k := ((9, 0) : Ky)) (n := 512) C hW rfl (fun _ => rfl) hi10 dX11_readMany_97 (fun H locs hW => ?_)
              refine lv_iinc (v := (v5 + (1 : Int32))) (lv' := [(5, .int (v5 + (1 : Int32))), (0, .ref (ad 0)), (1, .int v1), (2, .int v2), (3, .int v3), (4, .int v4)]) hx hb dX11_readMany_98 hl (k := 5) rfl rfl (by decide) rfl (fun ls hl => ?_)
              refine lv_goto (tgt := 46) hx hb dX11_readMany_101 (by decide) ?_
              obtain rfl := Option.some.inj hf
              exact Kl1 _ rfl _ _ _ hW (lv_sub hl [1, 2, 3, 4, 5, 0] rfl)
            · have hf := (if_neg c9).symm.trans hf
              refine lv_iconst (v := 1) hx hb dX11_readMany_92 (by decide) ?_
              refine lv_goto (tgt := 97) hx hb dX11_readMany_93 (by decide) ?_
              obtain ⟨hi11, hf⟩ := ck_of hf
              refine r_iast (k := ((9, 0) : Ky)) (n := 512) C hW rfl (fun _ => rfl) hi11 dX11_readMany_97 (fun H locs hW => ?_)
              refine lv_iinc (v := (v5 + (1 : Int32))) (lv' := [(5, .int (v5 + (1 : Int32))), (0, .ref (ad 0)), (1, .int v1), (2, .int v2), (3, .int v3), (4, .int v4)]) hx hb dX11_readMany_98 hl (k := 5) rfl rfl (by decide) rfl (fun ls hl => ?_)
              refine lv_goto (tgt := 46) hx hb dX11_readMany_101 (by decide) ?_
              obtain rfl := Option.some.inj hf
              exact Kl1 _ rfl _ _ _ hW (lv_sub hl [1, 2, 3, 4, 5, 0] rfl)
          · have hf := (if_neg c7).symm.trans hf
            refine lv_aload_n hx hb dX11_readMany_65 rfl (lv_at hl 0 rfl) ?_
            refine lv_iload hx hb dX11_readMany_66 (lv_at hl 5 rfl) ?_
            refine lv_iload hx hb dX11_readMany_68 (lv_at hl 4 rfl) ?_
            obtain ⟨x70, h70, hf⟩ := bd_of hf
            refine r_callV (k := ((0, 0) : Ky)) C hW hl lk_X11_215 (c_X11_haveIn h70) ⟨rfl, rfl⟩ ⟨Nat.le_of_ble_eq_true rfl, Nat.le_of_ble_eq_true rfl⟩ rfl rfl rfl (As := [.int v5, .int v4]) (rest := [.int v5, .ref (ad 9)]) rfl rfl (Nat.le_of_ble_eq_true rfl) dX11_readMany_70 ⟨Nat.zero_le _, Nat.zero_le _⟩ (fun H locs hW => ?_)
            show W p l e (rmq 6 131) s m args below meth c H locs 0 0 Q (F0 m 73 ls [.int x70, .int v5, .ref (ad 9)])
            refine lv_iload_n hx hb dX11_readMany_73 rfl (lv_at hl 3 rfl) ?_
            refine lv_icmp_lt (tgt := 96) hx hb dX11_readMany_74 (by decide) (fun c13 => ?_) (fun c13 => ?_)
            · have hf := (if_pos c13).symm.trans hf
              refine lv_iconst (v := 0) hx hb dX11_readMany_96 (by decide) ?_
              obtain ⟨hi14, hf⟩ := ck_of hf
              refine r_iast (k := ((9, 0) : Ky)) (n := 512) C hW rfl (fun _ => rfl) hi14 dX11_readMany_97 (fun H locs hW => ?_)
              refine lv_iinc (v := (v5 + (1 : Int32))) (lv' := [(5, .int (v5 + (1 : Int32))), (0, .ref (ad 0)), (1, .int v1), (2, .int v2), (3, .int v3), (4, .int v4)]) hx hb dX11_readMany_98 hl (k := 5) rfl rfl (by decide) rfl (fun ls hl => ?_)
              refine lv_goto (tgt := 46) hx hb dX11_readMany_101 (by decide) ?_
              obtain rfl := Option.some.inj hf
              exact Kl1 _ rfl _ _ _ hW (lv_sub hl [1, 2, 3, 4, 5, 0] rfl)
            · have hf := (if_neg c13).symm.trans hf
              refine lv_goto (tgt := 92) hx hb dX11_readMany_77 (by decide) ?_
              refine lv_iconst (v := 1) hx hb dX11_readMany_92 (by decide) ?_
              refine lv_goto (tgt := 97) hx hb dX11_readMany_93 (by decide) ?_
              obtain ⟨hi15, hf⟩ := ck_of hf
              refine r_iast (k := ((9, 0) : Ky)) (n := 512) C hW rfl (fun _ => rfl) hi15 dX11_readMany_97 (fun H locs hW => ?_)
              refine lv_iinc (v := (v5 + (1 : Int32))) (lv' := [(5, .int (v5 + (1 : Int32))), (0, .ref (ad 0)), (1, .int v1), (2, .int v2), (3, .int v3), (4, .int v4)]) hx hb dX11_readMany_98 hl (k := 5) rfl rfl (by decide) rfl (fun ls hl => ?_)
              refine lv_goto (tgt := 46) hx hb dX11_readMany_101 (by decide) ?_
              obtain rfl := Option.some.inj hf
              exact Kl1 _ rfl _ _ _ hW (lv_sub hl [1, 2, 3, 4, 5, 0] rfl)
      exact L46 μ v2 v3 s0 (0 : Int32) _ _ _ hf hW (lv_sub hl [2, 3, 4, 5, 1, 0] rfl)
    · have hf := (if_neg c1).symm.trans hf
      refine lv_iconst (v := 0) hx hb dX11_readMany_41 (by decide) ?_
      obtain rfl := Option.some.inj hf
      rw [hQ]
      exact r_zret C hr hk hW (Or.inl rfl) rfl rfl dX11_readMany_42
  refine lv_aload_n hx hb dX11_readMany_0 rfl (lv_at hl 0 rfl) ?_
  refine gf_X11_168 C hW dX11_readMany_1 ?_
  refine lv_istore_n (lv' := [(2, .int (μ (0, 0) 15)), (0, .ref (ad 0)), (1, .int v1)]) hx hb dX11_readMany_4 rfl hl (by decide) rfl (fun ls hl => ?_)
  refine lv_aload_n hx hb dX11_readMany_5 rfl (lv_at hl 1 rfl) ?_
  refine lv_iconst (v := 0) hx hb dX11_readMany_6 (by decide) ?_
  refine lv_bipush (v := 9) hx hb dX11_readMany_7 (by decide) ?_
  obtain ⟨x9, h9, hf⟩ := bd_of hf
  refine r_callV (k := ((0, 0) : Ky)) C hW hl lk_X11_190 (c_X11_number h9) ⟨rfl, rfl⟩ ⟨Nat.le_of_ble_eq_true rfl, Nat.le_of_ble_eq_true rfl⟩ rfl rfl rfl (As := [.int (0 : Int32), .int (9 : Int32)]) (rest := []) rfl rfl (Nat.le_of_ble_eq_true rfl) dX11_readMany_9 ⟨Nat.zero_le _, Nat.zero_le _⟩ (fun H locs hW => ?_)
  show W p l e (rmq 6 131) s m args below meth c H locs 0 0 Q (F0 m 12 ls [.int x9.1])
  refine lv_istore_n (lv' := [(3, .int x9.1), (2, .int (μ (0, 0) 15)), (0, .ref (ad 0)), (1, .int v1)]) hx hb dX11_readMany_12 rfl hl (by decide) rfl (fun ls hl => ?_)
  refine lv_iload_n hx hb dX11_readMany_13 rfl (lv_at hl 0 rfl) ?_
  refine lv_if_ge (tgt := 21) hx hb dX11_readMany_14 (by decide) (fun c17 => ?_) (fun c17 => ?_)
  · have hf := (if_pos c17).symm.trans hf
    refine lv_aload_n hx hb dX11_readMany_21 rfl (lv_at hl 2 rfl) ?_
    refine va_ldcS (q := ro.1 10) (tx := "have") hx hb C.1.2.2.2.1 (C.2.2.2.1 ("BackVillageModel", 209, "have", 10) (by decide)) dX11_readMany_22 ?_
    refine lv_iconst (v := 0) hx hb dX11_readMany_24 (by decide) ?_
    refine lv_aload_n hx hb dX11_readMany_25 rfl (lv_at hl 2 rfl) ?_
    obtain ⟨x26, h26, hf⟩ := bd_of hf
    refine r_callV (k := ((0, 0) : Ky)) C hW hl lk_X11_118 (c_X11_values h26) ⟨rfl, rfl⟩ ⟨Nat.le_of_ble_eq_true rfl, Nat.le_of_ble_eq_true rfl⟩ rfl rfl rfl (As := []) (rest := [.int (0 : Int32), .ref (ro.1 10), .ref (ad 0)]) rfl rfl (Nat.le_of_ble_eq_true rfl) dX11_readMany_26 ⟨Nat.zero_le _, Nat.zero_le _⟩ (fun H locs hW => ?_)
    show W p l e (rmq 6 131) s m args below meth c H locs 0 0 Q (F0 m 29 ls [.int x26, .int (0 : Int32), .ref (ro.1 10), .ref (ad 0)])
    refine lv_iconst (v := 1) hx hb dX11_readMany_29 (by decide) ?_
    refine lv_isub hx hb dX11_readMany_30 ?_
    obtain ⟨x31, h31, hf⟩ := bd_of hf
    refine r_callV (k := ((0, 0) : Ky)) C hW hl lk_X11_211 (c_X11_after (by decide) h31) ⟨rfl, rfl⟩ ⟨Nat.le_of_ble_eq_true rfl, Nat.le_of_ble_eq_true rfl⟩ rfl rfl rfl (As := [.ref (ro.1 10), .int (0 : Int32), .int (x26 - (1 : Int32))]) (rest := []) rfl rfl (Nat.le_of_ble_eq_true rfl) dX11_readMany_31 ⟨Nat.zero_le _, Nat.zero_le _⟩ (fun H locs hW => ?_)
    show W p l e (rmq 6 131) s m args below meth c H locs 0 0 Q (F0 m 34 ls [.int x31.1])
    exact J34 x31.2 (μ (0, 0) 15) x9.1 x31.1 _ _ _ hf hW (lv_sub hl [2, 3, 1, 0] rfl)
  · have hf := (if_neg c17).symm.trans hf
    refine lv_iconst (v := -1) hx hb dX11_readMany_17 (by decide) ?_
    refine lv_goto (tgt := 34) hx hb dX11_readMany_18 (by decide) ?_
    exact J34 x9.2 (μ (0, 0) 15) x9.1 (-1 : Int32) _ _ _ hf hW (lv_sub hl [2, 3, 1, 0] rfl)
set_option maxHeartbeats 4000000 in
set_option maxRecDepth 100000 in
theorem c_X11_readAlike {l : Launch} {D : va_G} {tc : Nat → ClassId} {ro : Ro} {ad : Nat → Nat} {μ : Mm} {v1 : Int32} {res : Int32 × Mm} (hf : f_X11_readAlike μ v1 = some res) : Ct l D tc ro (faM ad) (feM tc ad) yX11_readAlike cX11_readAlike 4 (some .boolean) (rmq 5 105) [.ref (ad 0), .int v1] μ (some (.int res.1)) res.2 := by
  refine Ct.of (by decide) (Nat.le_of_ble_eq_true rfl) (fun p e s m args below meth c A C hr hk hW ls hl => ?_)
  have hx := C.1.1
  have hb := C.1.2.1
  obtain ⟨Q, hQ⟩ : ∃ Q, Q = MQ below (Ctq D (faM ad) (feM tc ad) (some (.int res.1)) res.2 A) args s 0 0 A := ⟨_, rfl⟩
  rw [← hQ]
  have hl : lv_has ls 4 [(0, .ref (ad 0)), (1, .int v1)] := hl
  unfold f_X11_readAlike at hf
  refine lv_aload_n hx hb dX11_readAlike_0 rfl (lv_at hl 0 rfl) ?_
  refine gf_X11_168 C hW dX11_readAlike_1 ?_
  refine lv_istore_n (lv' := [(2, .int (μ (0, 0) 15)), (0, .ref (ad 0)), (1, .int v1)]) hx hb dX11_readAlike_4 rfl hl (by decide) rfl (fun ls hl => ?_)
  refine lv_aload_n hx hb dX11_readAlike_5 rfl (lv_at hl 1 rfl) ?_
  obtain ⟨x6, h6, hf⟩ := bd_of hf
  refine r_callV (k := ((0, 0) : Ky)) C hW hl lk_X11_221 (c_X11_readTwo h6) ⟨rfl, rfl⟩ ⟨Nat.le_of_ble_eq_true rfl, Nat.le_of_ble_eq_true rfl⟩ rfl rfl rfl (As := []) (rest := []) rfl rfl (Nat.le_of_ble_eq_true rfl) dX11_readAlike_6 ⟨Nat.zero_le _, Nat.zero_le _⟩ (fun H locs hW => ?_)
  show W p l e (rmq 5 105) s m args below meth c H locs 0 0 Q (F0 m 9 ls [.int x6.1])
  refine lv_if_ne (tgt := 14) hx hb dX11_readAlike_9 (by decide) (fun c2 => ?_) (fun c2 => ?_)
  · have hf := (if_neg c2).symm.trans hf
    refine lv_iconst (v := 0) hx hb dX11_readAlike_14 (by decide) ?_
    refine lv_istore_n (lv' := [(3, .int (0 : Int32)), (2, .int (μ (0, 0) 15)), (0, .ref (ad 0)), (1, .int v1)]) hx hb dX11_readAlike_15 rfl hl (by decide) rfl (fun ls hl => ?_)
    have L16 : ∀ (μ : Mm) (v2 v3 : Int32) (H : Heap) (locs : List Loc) (ls : Array Slot), Wh (fun z : Mm × Int32 => f_X11_readAlike_L16 v1 v2 z.1 z.2) (μ, v3) = some res → Wd D (faM ad) (feM tc ad) A s.heap μ H locs → lv_has ls 4 [(0, .ref (ad 0)), (1, .int v1), (2, .int v2), (3, .int v3)] → W p l e (rmq 5 105) s m args below meth c H locs 0 0 Q (F0 m 16 ls []) := by
      intro μ v2 v3 H locs ls hf hW hl
      refine Wh_rule hf (fun z : Mm × Int32 => ∀ (H : Heap) (locs : List Loc) (ls : Array Slot), Wd D (faM ad) (feM tc ad) A s.heap z.1 H locs → lv_has ls 4 [(0, .ref (ad 0)), (1, .int v1), (2, .int v2), (3, .int z.2)] → W p l e (rmq 5 105) s m args below meth c H locs 0 0 Q (F0 m 16 ls [])) (fun z o1 hf Kl1 Kr1 => ?_) _ _ _ hW hl
      obtain ⟨μ, v3⟩ := z
      intro H locs ls hW hl
      have hf : f_X11_readAlike_L16 v1 v2 μ v3 = some o1 := hf
      unfold f_X11_readAlike_L16 at hf
      have hW : Wd D (faM ad) (feM tc ad) A s.heap μ H locs := hW
      have hl : lv_has ls 4 [(0, .ref (ad 0)), (1, .int v1), (2, .int v2), (3, .int v3)] := hl
      refine lv_iload_n hx hb dX11_readAlike_16 rfl (lv_at hl 3 rfl) ?_
      refine lv_aload_n hx hb dX11_readAlike_17 rfl (lv_at hl 0 rfl) ?_
      obtain ⟨x18, h18, hf⟩ := bd_of hf
      refine r_callV (k := ((0, 0) : Ky)) C hW hl lk_X11_115 (c_X11_worlds h18) ⟨rfl, rfl⟩ ⟨Nat.le_of_ble_eq_true rfl, Nat.le_of_ble_eq_true rfl⟩ rfl rfl rfl (As := []) (rest := [.int v3]) rfl rfl (Nat.le_of_ble_eq_true rfl) dX11_readAlike_18 ⟨Nat.zero_le _, Nat.zero_le _⟩ (fun H locs hW => ?_)
      show W p l e (rmq 5 105) s m args below meth c H locs 0 0 Q (F0 m 21 ls [.int x18, .int v3])
      refine lv_icmp_ge (tgt := 71) hx hb dX11_readAlike_21 (by decide) (fun c4 => ?_) (fun c4 => ?_)
      · have hf := (if_pos c4).symm.trans hf
        obtain ⟨x9007, hf, hx9007⟩ := map_of hf
        have e9007 := (Kr1 _ hx9007.symm).symm
        subst e9007
        refine lv_aload_n hx hb dX11_readAlike_71 rfl (lv_at hl 0 rfl) ?_
        refine lv_iload_n hx hb dX11_readAlike_72 rfl (lv_at hl 2 rfl) ?_
        obtain ⟨x73, h73, hf⟩ := bd_of hf
        refine r_callV (k := ((0, 0) : Ky)) C hW hl lk_X11_218 (c_X11_isSo h73) ⟨rfl, rfl⟩ ⟨Nat.le_of_ble_eq_true rfl, Nat.le_of_ble_eq_true rfl⟩ rfl rfl rfl (As := [.int v2]) (rest := []) rfl rfl (Nat.le_of_ble_eq_true rfl) dX11_readAlike_73 ⟨Nat.zero_le _, Nat.zero_le _⟩ (fun H locs hW => ?_)
        show W p l e (rmq 5 105) s m args below meth c H locs 0 0 Q (F0 m 76 ls [.int x73.1])
        obtain ⟨hz6, hf⟩ := cb_of hf
        obtain rfl := Option.some.inj hf
        rw [hQ]
        exact r_zret C hr hk hW hz6 rfl rfl dX11_readAlike_76
      · have hf := (if_neg c4).symm.trans hf
        refine lv_aload_n hx hb dX11_readAlike_24 rfl (lv_at hl 0 rfl) ?_
        refine gf_X11_33 C hW dX11_readAlike_25 ?_
        refine lv_iload_n hx hb dX11_readAlike_28 rfl (lv_at hl 3 rfl) ?_
        refine lv_iload_n hx hb dX11_readAlike_29 rfl (lv_at hl 1 rfl) ?_
        refine lv_aload_n hx hb dX11_readAlike_30 rfl (lv_at hl 0 rfl) ?_
        refine lv_aload_n hx hb dX11_readAlike_31 rfl (lv_at hl 0 rfl) ?_
        refine gf_X11_200 C hW dX11_readAlike_32 ?_
        refine lv_iload_n hx hb dX11_readAlike_35 rfl (lv_at hl 3 rfl) ?_
        obtain ⟨x36, h36, hf⟩ := bd_of hf
        refine r_callV (k := ((0, 0) : Ky)) C hW hl lk_X11_124 (c_X11_noticeIn h36) ⟨rfl, rfl⟩ ⟨Nat.le_of_ble_eq_true rfl, Nat.le_of_ble_eq_true rfl⟩ rfl rfl rfl (As := [.int (μ (0, 0) 19), .int v3]) (rest := [.int v1, .int v3, .ref (ad 9)]) rfl rfl (Nat.le_of_ble_eq_true rfl) dX11_readAlike_36 ⟨Nat.zero_le _, Nat.zero_le _⟩ (fun H locs hW => ?_)
        show W p l e (rmq 5 105) s m args below meth c H locs 0 0 Q (F0 m 39 ls [.int x36, .int v1, .int v3, .ref (ad 9)])
        refine lv_aload_n hx hb dX11_readAlike_39 rfl (lv_at hl 0 rfl) ?_
        refine lv_aload_n hx hb dX11_readAlike_40 rfl (lv_at hl 0 rfl) ?_
        refine gf_X11_203 C hW dX11_readAlike_41 ?_
        refine lv_iload_n hx hb dX11_readAlike_44 rfl (lv_at hl 3 rfl) ?_
        obtain ⟨x45, h45, hf⟩ := bd_of hf
        refine r_callV (k := ((0, 0) : Ky)) C hW hl lk_X11_124 (c_X11_noticeIn h45) ⟨rfl, rfl⟩ ⟨Nat.le_of_ble_eq_true rfl, Nat.le_of_ble_eq_true rfl⟩ rfl rfl rfl (As := [.int (μ (0, 0) 20), .int v3]) (rest := [.int x36, .int v1, .int v3, .ref (ad 9)]) rfl rfl (Nat.le_of_ble_eq_true rfl) dX11_readAlike_45 ⟨Nat.zero_le _, Nat.zero_le _⟩ (fun H locs hW => ?_)
        show W p l e (rmq 5 105) s m args below meth c H locs 0 0 Q (F0 m 48 ls [.int x45, .int x36, .int v1, .int v3, .ref (ad 9)])
        refine lv_icmp_ne (tgt := 55) hx hb dX11_readAlike_48 (by decide) (fun c10 => ?_) (fun c10 => ?_)
        · have hf := (if_neg c10).symm.trans hf
          refine lv_iconst (v := 0) hx hb dX11_readAlike_55 (by decide) ?_
          refine lv_icmp_ne (tgt := 63) hx hb dX11_readAlike_56 (by decide) (fun c11 => ?_) (fun c11 => ?_)
          · have hf := (if_neg c11).symm.trans hf
            refine lv_iconst (v := 0) hx hb dX11_readAlike_63 (by decide) ?_
            obtain ⟨hi12, hf⟩ := ck_of hf
            refine r_iast (k := ((9, 0) : Ky)) (n := 512) C hW rfl (fun _ => rfl) hi12 dX11_readAlike_64 (fun H locs hW => ?_)
            refine lv_iinc (v := (v3 + (1 : Int32))) (lv' := [(3, .int (v3 + (1 : Int32))), (0, .ref (ad 0)), (1, .int v1), (2, .int v2)]) hx hb dX11_readAlike_65 hl (k := 3) rfl rfl (by decide) rfl (fun ls hl => ?_)
            refine lv_goto (tgt := 16) hx hb dX11_readAlike_68 (by decide) ?_
            obtain rfl := Option.some.inj hf
            exact Kl1 _ rfl _ _ _ hW (lv_sub hl [1, 2, 3, 0] rfl)
          · have hf := (if_pos c11).symm.trans hf
            refine lv_iconst (v := 1) hx hb dX11_readAlike_59 (by decide) ?_
            refine lv_goto (tgt := 64) hx hb dX11_readAlike_60 (by decide) ?_
            obtain ⟨hi13, hf⟩ := ck_of hf
            refine r_iast (k := ((9, 0) : Ky)) (n := 512) C hW rfl (fun _ => rfl) hi13 dX11_readAlike_64 (fun H locs hW => ?_)
            refine lv_iinc (v := (v3 + (1 : Int32))) (lv' := [(3, .int (v3 + (1 : Int32))), (0, .ref (ad 0)), (1, .int v1), (2, .int v2)]) hx hb dX11_readAlike_65 hl (k := 3) rfl rfl (by decide) rfl (fun ls hl => ?_)
            refine lv_goto (tgt := 16) hx hb dX11_readAlike_68 (by decide) ?_
            obtain rfl := Option.some.inj hf
            exact Kl1 _ rfl _ _ _ hW (lv_sub hl [1, 2, 3, 0] rfl)
        · have hf := (if_pos c10).symm.trans hf
          refine lv_iconst (v := 1) hx hb dX11_readAlike_51 (by decide) ?_
          refine lv_goto (tgt := 56) hx hb dX11_readAlike_52 (by decide) ?_
          refine lv_icmp_ne (tgt := 63) hx hb dX11_readAlike_56 (by decide) (fun c14 => ?_) (fun c14 => ?_)
          · have hf := (if_neg c14).symm.trans hf
            refine lv_iconst (v := 0) hx hb dX11_readAlike_63 (by decide) ?_
            obtain ⟨hi15, hf⟩ := ck_of hf
            refine r_iast (k := ((9, 0) : Ky)) (n := 512) C hW rfl (fun _ => rfl) hi15 dX11_readAlike_64 (fun H locs hW => ?_)
            refine lv_iinc (v := (v3 + (1 : Int32))) (lv' := [(3, .int (v3 + (1 : Int32))), (0, .ref (ad 0)), (1, .int v1), (2, .int v2)]) hx hb dX11_readAlike_65 hl (k := 3) rfl rfl (by decide) rfl (fun ls hl => ?_)
            refine lv_goto (tgt := 16) hx hb dX11_readAlike_68 (by decide) ?_
            obtain rfl := Option.some.inj hf
            exact Kl1 _ rfl _ _ _ hW (lv_sub hl [1, 2, 3, 0] rfl)
          · have hf := (if_pos c14).symm.trans hf
            refine lv_iconst (v := 1) hx hb dX11_readAlike_59 (by decide) ?_
            refine lv_goto (tgt := 64) hx hb dX11_readAlike_60 (by decide) ?_
            obtain ⟨hi16, hf⟩ := ck_of hf
            refine r_iast (k := ((9, 0) : Ky)) (n := 512) C hW rfl (fun _ => rfl) hi16 dX11_readAlike_64 (fun H locs hW => ?_)
            refine lv_iinc (v := (v3 + (1 : Int32))) (lv' := [(3, .int (v3 + (1 : Int32))), (0, .ref (ad 0)), (1, .int v1), (2, .int v2)]) hx hb dX11_readAlike_65 hl (k := 3) rfl rfl (by decide) rfl (fun ls hl => ?_)
            refine lv_goto (tgt := 16) hx hb dX11_readAlike_68 (by decide) ?_
            obtain rfl := Option.some.inj hf
            exact Kl1 _ rfl _ _ _ hW (lv_sub hl [1, 2, 3, 0] rfl)
    exact L16 x6.2 (μ (0, 0) 15) (0 : Int32) _ _ _ hf hW (lv_sub hl [2, 3, 1, 0] rfl)
  · have hf := (if_pos c2).symm.trans hf
    refine lv_iconst (v := 0) hx hb dX11_readAlike_12 (by decide) ?_
    obtain rfl := Option.some.inj hf
    rw [hQ]
    exact r_zret C hr hk hW (Or.inl rfl) rfl rfl dX11_readAlike_13
set_option maxHeartbeats 4000000 in
set_option maxRecDepth 100000 in
theorem c_X11_readVillageLine {l : Launch} {D : va_G} {tc : Nat → ClassId} {ro : Ro} {ad : Nat → Nat} {μ : Mm} {res : Int32 × Mm} (hf : f_X11_readVillageLine μ = some res) : Ct l D tc ro (faM ad) (feM tc ad) yX11_readVillageLine cX11_readVillageLine 5 (some .boolean) (rmq 7 156) [.ref (ad 0)] μ (some (.int res.1)) res.2 := by
  refine Ct.of (by decide) (Nat.le_of_ble_eq_true rfl) (fun p e s m args below meth c A C hr hk hW ls hl => ?_)
  have hx := C.1.1
  have hb := C.1.2.1
  obtain ⟨Q, hQ⟩ : ∃ Q, Q = MQ below (Ctq D (faM ad) (feM tc ad) (some (.int res.1)) res.2 A) args s 0 0 A := ⟨_, rfl⟩
  rw [← hQ]
  have hl : lv_has ls 5 [(0, .ref (ad 0))] := hl
  unfold f_X11_readVillageLine at hf
  have J101 : ∀ (μ : Mm) (v1 v2 v3 v4 : Int32) (H : Heap) (locs : List Loc) (ls : Array Slot), f_X11_readVillageLine_J101 μ v1 v2 v3 v4 = some res → Wd D (faM ad) (feM tc ad) A s.heap μ H locs → lv_has ls 5 [(0, .ref (ad 0)), (1, .int v1), (2, .int v2), (3, .int v3), (4, .int v4)] → W p l e (rmq 7 156) s m args below meth c H locs 0 0 Q (F0 m 101 ls []) := by
    intro μ v1 v2 v3 v4 H locs ls hf hW hl
    unfold f_X11_readVillageLine_J101 at hf
    refine lv_aload_n hx hb dX11_readVillageLine_101 rfl (lv_at hl 0 rfl) ?_
    refine gf_X11_13 C hW dX11_readVillageLine_102 ?_
    refine lv_bipush (v := 8) hx hb dX11_readVillageLine_105 (by decide) ?_
    refine lv_iconst (v := 1) hx hb dX11_readVillageLine_107 (by decide) ?_
    obtain ⟨hi1, hf⟩ := ck_of hf
    refine r_iast (k := ((1, 0) : Ky)) (n := 7114) C hW rfl (fun _ => rfl) hi1 dX11_readVillageLine_108 (fun H locs hW => ?_)
    refine lv_iload_n hx hb dX11_readVillageLine_109 rfl (lv_at hl 3 rfl) ?_
    refine lv_if_eq (tgt := 119) hx hb dX11_readVillageLine_110 (by decide) (fun c2 => ?_) (fun c2 => ?_)
    · have hf := (if_pos c2).symm.trans hf
      refine lv_iload hx hb dX11_readVillageLine_119 (lv_at hl 4 rfl) ?_
      refine lv_if_eq (tgt := 130) hx hb dX11_readVillageLine_121 (by decide) (fun c3 => ?_) (fun c3 => ?_)
      · have hf := (if_pos c3).symm.trans hf
        refine lv_aload_n hx hb dX11_readVillageLine_130 rfl (lv_at hl 0 rfl) ?_
        obtain ⟨x131, h131, hf⟩ := bd_of hf
        refine r_callV (k := ((0, 0) : Ky)) C hW hl lk_X11_221 (c_X11_readTwo h131) ⟨rfl, rfl⟩ ⟨Nat.le_of_ble_eq_true rfl, Nat.le_of_ble_eq_true rfl⟩ rfl rfl rfl (As := []) (rest := []) rfl rfl (Nat.le_of_ble_eq_true rfl) dX11_readVillageLine_131 ⟨Nat.zero_le _, Nat.zero_le _⟩ (fun H locs hW => ?_)
        show W p l e (rmq 7 156) s m args below meth c H locs 0 0 Q (F0 m 134 ls [.int x131.1])
        refine lv_if_ne (tgt := 139) hx hb dX11_readVillageLine_134 (by decide) (fun c5 => ?_) (fun c5 => ?_)
        · have hf := (if_neg c5).symm.trans hf
          refine lv_aload_n hx hb dX11_readVillageLine_139 rfl (lv_at hl 0 rfl) ?_
          refine lv_aload_n hx hb dX11_readVillageLine_140 rfl (lv_at hl 0 rfl) ?_
          refine gf_X11_200 C hW dX11_readVillageLine_141 ?_
          refine lv_aload_n hx hb dX11_readVillageLine_144 rfl (lv_at hl 0 rfl) ?_
          refine gf_X11_203 C hW dX11_readVillageLine_145 ?_
          obtain ⟨x148, h148, hf⟩ := bd_of hf
          refine r_callV (k := ((0, 0) : Ky)) C hW hl lk_X11_250 (c_X11_seesFrom h148) ⟨rfl, rfl⟩ ⟨Nat.le_of_ble_eq_true rfl, Nat.le_of_ble_eq_true rfl⟩ rfl rfl rfl (As := [.int (x131.2 (0, 0) 19), .int (x131.2 (0, 0) 20)]) (rest := []) rfl rfl (Nat.le_of_ble_eq_true rfl) dX11_readVillageLine_148 ⟨Nat.zero_le _, Nat.zero_le _⟩ (fun H locs hW => ?_)
          show W p l e (rmq 7 156) s m args below meth c H locs 0 0 Q (F0 m 151 ls [])
          refine lv_iconst (v := 1) hx hb dX11_readVillageLine_151 (by decide) ?_
          obtain rfl := Option.some.inj hf
          rw [hQ]
          exact r_zret C hr hk hW (Or.inr rfl) rfl rfl dX11_readVillageLine_152
        · have hf := (if_pos c5).symm.trans hf
          refine lv_iconst (v := 0) hx hb dX11_readVillageLine_137 (by decide) ?_
          obtain rfl := Option.some.inj hf
          rw [hQ]
          exact r_zret C hr hk hW (Or.inl rfl) rfl rfl dX11_readVillageLine_138
      · have hf := (if_neg c3).symm.trans hf
        refine lv_aload_n hx hb dX11_readVillageLine_124 rfl (lv_at hl 0 rfl) ?_
        refine lv_iload_n hx hb dX11_readVillageLine_125 rfl (lv_at hl 2 rfl) ?_
        obtain ⟨x126, h126, hf⟩ := bd_of hf
        refine r_callV (k := ((0, 0) : Ky)) C hW hl lk_X11_247 (c_X11_readAlike h126) ⟨rfl, rfl⟩ ⟨Nat.le_of_ble_eq_true rfl, Nat.le_of_ble_eq_true rfl⟩ rfl rfl rfl (As := [.int v2]) (rest := []) rfl rfl (Nat.le_of_ble_eq_true rfl) dX11_readVillageLine_126 ⟨Nat.zero_le _, Nat.zero_le _⟩ (fun H locs hW => ?_)
        show W p l e (rmq 7 156) s m args below meth c H locs 0 0 Q (F0 m 129 ls [.int x126.1])
        obtain ⟨hz8, hf⟩ := cb_of hf
        obtain rfl := Option.some.inj hf
        rw [hQ]
        exact r_zret C hr hk hW hz8 rfl rfl dX11_readVillageLine_129
    · have hf := (if_neg c2).symm.trans hf
      refine lv_aload_n hx hb dX11_readVillageLine_113 rfl (lv_at hl 0 rfl) ?_
      refine lv_iload_n hx hb dX11_readVillageLine_114 rfl (lv_at hl 1 rfl) ?_
      obtain ⟨x115, h115, hf⟩ := bd_of hf
      refine r_callV (k := ((0, 0) : Ky)) C hW hl lk_X11_243 (c_X11_readMany h115) ⟨rfl, rfl⟩ ⟨Nat.le_of_ble_eq_true rfl, Nat.le_of_ble_eq_true rfl⟩ rfl rfl rfl (As := [.int v1]) (rest := []) rfl rfl (Nat.le_of_ble_eq_true rfl) dX11_readVillageLine_115 ⟨Nat.zero_le _, Nat.zero_le _⟩ (fun H locs hW => ?_)
      show W p l e (rmq 7 156) s m args below meth c H locs 0 0 Q (F0 m 118 ls [.int x115.1])
      obtain ⟨hz10, hf⟩ := cb_of hf
      obtain rfl := Option.some.inj hf
      rw [hQ]
      exact r_zret C hr hk hW hz10 rfl rfl dX11_readVillageLine_118
  have J79 : ∀ (μ : Mm) (v1 v2 v3 s0 : Int32) (H : Heap) (locs : List Loc) (ls : Array Slot), f_X11_readVillageLine_J79 μ v1 v2 v3 s0 = some res → Wd D (faM ad) (feM tc ad) A s.heap μ H locs → lv_has ls 5 [(0, .ref (ad 0)), (1, .int v1), (2, .int v2), (3, .int v3)] → W p l e (rmq 7 156) s m args below meth c H locs 0 0 Q (F0 m 79 ls [.int s0]) := by
    intro μ v1 v2 v3 s0 H locs ls hf hW hl
    unfold f_X11_readVillageLine_J79 at hf
    refine lv_istore (lv' := [(4, .int s0), (0, .ref (ad 0)), (1, .int v1), (2, .int v2), (3, .int v3)]) hx hb dX11_readVillageLine_79 hl (by decide) rfl (fun ls hl => ?_)
    refine lv_iload_n hx hb dX11_readVillageLine_81 rfl (lv_at hl 4 rfl) ?_
    refine lv_if_ne (tgt := 101) hx hb dX11_readVillageLine_82 (by decide) (fun c11 => ?_) (fun c11 => ?_)
    · have hf := (if_neg c11).symm.trans hf
      exact J101 μ v1 v2 v3 s0 _ _ _ hf hW (lv_sub hl [1, 2, 3, 4, 0] rfl)
    · have hf := (if_pos c11).symm.trans hf
      refine lv_iload hx hb dX11_readVillageLine_85 (lv_at hl 0 rfl) ?_
      refine lv_if_ne (tgt := 101) hx hb dX11_readVillageLine_87 (by decide) (fun c12 => ?_) (fun c12 => ?_)
      · have hf := (if_neg c12).symm.trans hf
        exact J101 μ v1 v2 v3 s0 _ _ _ hf hW (lv_sub hl [1, 2, 3, 4, 0] rfl)
      · have hf := (if_pos c12).symm.trans hf
        refine lv_aload_n hx hb dX11_readVillageLine_90 rfl (lv_at hl 1 rfl) ?_
        refine va_ldcS (q := ro.1 7) (tx := "sees") hx hb C.1.2.2.2.1 (C.2.2.2.1 ("BackVillageModel", 241, "sees", 7) (by decide)) dX11_readVillageLine_91 ?_
        obtain ⟨x93, h93, hf⟩ := bd_of hf
        refine r_callV (k := ((0, 0) : Ky)) C hW hl lk_X11_186 (c_X11_isWord (by decide) h93) ⟨rfl, rfl⟩ ⟨Nat.le_of_ble_eq_true rfl, Nat.le_of_ble_eq_true rfl⟩ rfl rfl rfl (As := [.ref (ro.1 7)]) (rest := []) rfl rfl (Nat.le_of_ble_eq_true rfl) dX11_readVillageLine_93 ⟨Nat.zero_le _, Nat.zero_le _⟩ (fun H locs hW => ?_)
        show W p l e (rmq 7 156) s m args below meth c H locs 0 0 Q (F0 m 96 ls [.int x93])
        refine lv_if_ne (tgt := 101) hx hb dX11_readVillageLine_96 (by decide) (fun c14 => ?_) (fun c14 => ?_)
        · have hf := (if_neg c14).symm.trans hf
          exact J101 μ v1 v2 v3 s0 _ _ _ hf hW (lv_sub hl [1, 2, 3, 4, 0] rfl)
        · have hf := (if_pos c14).symm.trans hf
          refine lv_iconst (v := 0) hx hb dX11_readVillageLine_99 (by decide) ?_
          obtain rfl := Option.some.inj hf
          rw [hQ]
          exact r_zret C hr hk hW (Or.inl rfl) rfl rfl dX11_readVillageLine_100
  have J60 : ∀ (μ : Mm) (v1 v2 s0 : Int32) (H : Heap) (locs : List Loc) (ls : Array Slot), f_X11_readVillageLine_J60 μ v1 v2 s0 = some res → Wd D (faM ad) (feM tc ad) A s.heap μ H locs → lv_has ls 5 [(0, .ref (ad 0)), (1, .int v1), (2, .int v2)] → W p l e (rmq 7 156) s m args below meth c H locs 0 0 Q (F0 m 60 ls [.int s0]) := by
    intro μ v1 v2 s0 H locs ls hf hW hl
    unfold f_X11_readVillageLine_J60 at hf
    refine lv_istore_n (lv' := [(3, .int s0), (0, .ref (ad 0)), (1, .int v1), (2, .int v2)]) hx hb dX11_readVillageLine_60 rfl hl (by decide) rfl (fun ls hl => ?_)
    refine lv_iload_n hx hb dX11_readVillageLine_61 rfl (lv_at hl 3 rfl) ?_
    refine lv_if_ne (tgt := 74) hx hb dX11_readVillageLine_62 (by decide) (fun c15 => ?_) (fun c15 => ?_)
    · have hf := (if_neg c15).symm.trans hf
      refine lv_iconst (v := 1) hx hb dX11_readVillageLine_74 (by decide) ?_
      refine lv_goto (tgt := 79) hx hb dX11_readVillageLine_75 (by decide) ?_
      exact J79 μ v1 v2 s0 (1 : Int32) _ _ _ hf hW (lv_sub hl [1, 2, 3, 0] rfl)
    · have hf := (if_pos c15).symm.trans hf
      refine lv_aload_n hx hb dX11_readVillageLine_65 rfl (lv_at hl 1 rfl) ?_
      refine va_ldcS (q := ro.1 12) (tx := "unlike") hx hb C.1.2.2.2.1 (C.2.2.2.1 ("BackVillageModel", 239, "unlike", 12) (by decide)) dX11_readVillageLine_66 ?_
      obtain ⟨x68, h68, hf⟩ := bd_of hf
      refine r_callV (k := ((0, 0) : Ky)) C hW hl lk_X11_186 (c_X11_isWord (by decide) h68) ⟨rfl, rfl⟩ ⟨Nat.le_of_ble_eq_true rfl, Nat.le_of_ble_eq_true rfl⟩ rfl rfl rfl (As := [.ref (ro.1 12)]) (rest := []) rfl rfl (Nat.le_of_ble_eq_true rfl) dX11_readVillageLine_68 ⟨Nat.zero_le _, Nat.zero_le _⟩ (fun H locs hW => ?_)
      show W p l e (rmq 7 156) s m args below meth c H locs 0 0 Q (F0 m 71 ls [.int x68])
      refine lv_if_eq (tgt := 78) hx hb dX11_readVillageLine_71 (by decide) (fun c17 => ?_) (fun c17 => ?_)
      · have hf := (if_pos c17).symm.trans hf
        refine lv_iconst (v := 0) hx hb dX11_readVillageLine_78 (by decide) ?_
        exact J79 μ v1 v2 s0 (0 : Int32) _ _ _ hf hW (lv_sub hl [1, 2, 3, 0] rfl)
      · have hf := (if_neg c17).symm.trans hf
        refine lv_iconst (v := 1) hx hb dX11_readVillageLine_74 (by decide) ?_
        refine lv_goto (tgt := 79) hx hb dX11_readVillageLine_75 (by decide) ?_
        exact J79 μ v1 v2 s0 (1 : Int32) _ _ _ hf hW (lv_sub hl [1, 2, 3, 0] rfl)
  refine lv_aload_n hx hb dX11_readVillageLine_0 rfl (lv_at hl 0 rfl) ?_
  refine va_ldcS (q := ro.1 5) (tx := "values") hx hb C.1.2.2.2.1 (C.2.2.2.1 ("BackVillageModel", 224, "values", 5) (by decide)) dX11_readVillageLine_1 ?_
  obtain ⟨x3, h3, hf⟩ := bd_of hf
  refine r_callV (k := ((0, 0) : Ky)) C hW hl lk_X11_186 (c_X11_isWord (by decide) h3) ⟨rfl, rfl⟩ ⟨Nat.le_of_ble_eq_true rfl, Nat.le_of_ble_eq_true rfl⟩ rfl rfl rfl (As := [.ref (ro.1 5)]) (rest := []) rfl rfl (Nat.le_of_ble_eq_true rfl) dX11_readVillageLine_3 ⟨Nat.zero_le _, Nat.zero_le _⟩ (fun H locs hW => ?_)
  show W p l e (rmq 7 156) s m args below meth c H locs 0 0 Q (F0 m 6 ls [.int x3])
  refine lv_if_eq (tgt := 14) hx hb dX11_readVillageLine_6 (by decide) (fun c19 => ?_) (fun c19 => ?_)
  · have hf := (if_pos c19).symm.trans hf
    refine lv_aload_n hx hb dX11_readVillageLine_14 rfl (lv_at hl 0 rfl) ?_
    refine va_ldcS (q := ro.1 6) (tx := "person") hx hb C.1.2.2.2.1 (C.2.2.2.1 ("BackVillageModel", 228, "person", 6) (by decide)) dX11_readVillageLine_15 ?_
    obtain ⟨x17, h17, hf⟩ := bd_of hf
    refine r_callV (k := ((0, 0) : Ky)) C hW hl lk_X11_186 (c_X11_isWord (by decide) h17) ⟨rfl, rfl⟩ ⟨Nat.le_of_ble_eq_true rfl, Nat.le_of_ble_eq_true rfl⟩ rfl rfl rfl (As := [.ref (ro.1 6)]) (rest := []) rfl rfl (Nat.le_of_ble_eq_true rfl) dX11_readVillageLine_17 ⟨Nat.zero_le _, Nat.zero_le _⟩ (fun H locs hW => ?_)
    show W p l e (rmq 7 156) s m args below meth c H locs 0 0 Q (F0 m 20 ls [.int x17])
    refine lv_if_eq (tgt := 28) hx hb dX11_readVillageLine_20 (by decide) (fun c21 => ?_) (fun c21 => ?_)
    · have hf := (if_pos c21).symm.trans hf
      refine lv_aload_n hx hb dX11_readVillageLine_28 rfl (lv_at hl 0 rfl) ?_
      refine va_ldcS (q := ro.1 8) (tx := "least") hx hb C.1.2.2.2.1 (C.2.2.2.1 ("BackVillageModel", 233, "least", 8) (by decide)) dX11_readVillageLine_29 ?_
      obtain ⟨x31, h31, hf⟩ := bd_of hf
      refine r_callV (k := ((0, 0) : Ky)) C hW hl lk_X11_186 (c_X11_isWord (by decide) h31) ⟨rfl, rfl⟩ ⟨Nat.le_of_ble_eq_true rfl, Nat.le_of_ble_eq_true rfl⟩ rfl rfl rfl (As := [.ref (ro.1 8)]) (rest := []) rfl rfl (Nat.le_of_ble_eq_true rfl) dX11_readVillageLine_31 ⟨Nat.zero_le _, Nat.zero_le _⟩ (fun H locs hW => ?_)
      show W p l e (rmq 7 156) s m args below meth c H locs 0 0 Q (F0 m 34 ls [.int x31])
      refine lv_istore_n (lv' := [(1, .int x31), (0, .ref (ad 0))]) hx hb dX11_readVillageLine_34 rfl hl (by decide) rfl (fun ls hl => ?_)
      refine lv_aload_n hx hb dX11_readVillageLine_35 rfl (lv_at hl 1 rfl) ?_
      refine va_ldcS (q := ro.1 11) (tx := "alike") hx hb C.1.2.2.2.1 (C.2.2.2.1 ("BackVillageModel", 235, "alike", 11) (by decide)) dX11_readVillageLine_36 ?_
      obtain ⟨x38, h38, hf⟩ := bd_of hf
      refine r_callV (k := ((0, 0) : Ky)) C hW hl lk_X11_186 (c_X11_isWord (by decide) h38) ⟨rfl, rfl⟩ ⟨Nat.le_of_ble_eq_true rfl, Nat.le_of_ble_eq_true rfl⟩ rfl rfl rfl (As := [.ref (ro.1 11)]) (rest := []) rfl rfl (Nat.le_of_ble_eq_true rfl) dX11_readVillageLine_38 ⟨Nat.zero_le _, Nat.zero_le _⟩ (fun H locs hW => ?_)
      show W p l e (rmq 7 156) s m args below meth c H locs 0 0 Q (F0 m 41 ls [.int x38])
      refine lv_istore_n (lv' := [(2, .int x38), (1, .int x31), (0, .ref (ad 0))]) hx hb dX11_readVillageLine_41 rfl hl (by decide) rfl (fun ls hl => ?_)
      refine lv_iload_n hx hb dX11_readVillageLine_42 rfl (lv_at hl 1 rfl) ?_
      refine lv_if_ne (tgt := 55) hx hb dX11_readVillageLine_43 (by decide) (fun c24 => ?_) (fun c24 => ?_)
      · have hf := (if_neg c24).symm.trans hf
        refine lv_iconst (v := 1) hx hb dX11_readVillageLine_55 (by decide) ?_
        refine lv_goto (tgt := 60) hx hb dX11_readVillageLine_56 (by decide) ?_
        exact J60 μ x31 x38 (1 : Int32) _ _ _ hf hW (lv_sub hl [2, 1, 0] rfl)
      · have hf := (if_pos c24).symm.trans hf
        refine lv_aload_n hx hb dX11_readVillageLine_46 rfl (lv_at hl 2 rfl) ?_
        refine va_ldcS (q := ro.1 9) (tx := "most") hx hb C.1.2.2.2.1 (C.2.2.2.1 ("BackVillageModel", 237, "most", 9) (by decide)) dX11_readVillageLine_47 ?_
        obtain ⟨x49, h49, hf⟩ := bd_of hf
        refine r_callV (k := ((0, 0) : Ky)) C hW hl lk_X11_186 (c_X11_isWord (by decide) h49) ⟨rfl, rfl⟩ ⟨Nat.le_of_ble_eq_true rfl, Nat.le_of_ble_eq_true rfl⟩ rfl rfl rfl (As := [.ref (ro.1 9)]) (rest := []) rfl rfl (Nat.le_of_ble_eq_true rfl) dX11_readVillageLine_49 ⟨Nat.zero_le _, Nat.zero_le _⟩ (fun H locs hW => ?_)
        show W p l e (rmq 7 156) s m args below meth c H locs 0 0 Q (F0 m 52 ls [.int x49])
        refine lv_if_eq (tgt := 59) hx hb dX11_readVillageLine_52 (by decide) (fun c26 => ?_) (fun c26 => ?_)
        · have hf := (if_pos c26).symm.trans hf
          refine lv_iconst (v := 0) hx hb dX11_readVillageLine_59 (by decide) ?_
          exact J60 μ x31 x38 (0 : Int32) _ _ _ hf hW (lv_sub hl [2, 1, 0] rfl)
        · have hf := (if_neg c26).symm.trans hf
          refine lv_iconst (v := 1) hx hb dX11_readVillageLine_55 (by decide) ?_
          refine lv_goto (tgt := 60) hx hb dX11_readVillageLine_56 (by decide) ?_
          exact J60 μ x31 x38 (1 : Int32) _ _ _ hf hW (lv_sub hl [2, 1, 0] rfl)
    · have hf := (if_neg c21).symm.trans hf
      refine lv_aload_n hx hb dX11_readVillageLine_23 rfl (lv_at hl 0 rfl) ?_
      obtain ⟨x24, h24, hf⟩ := bd_of hf
      refine r_callV (k := ((0, 0) : Ky)) C hW hl lk_X11_230 (c_X11_readPerson h24) ⟨rfl, rfl⟩ ⟨Nat.le_of_ble_eq_true rfl, Nat.le_of_ble_eq_true rfl⟩ rfl rfl rfl (As := []) (rest := []) rfl rfl (Nat.le_of_ble_eq_true rfl) dX11_readVillageLine_24 ⟨Nat.zero_le _, Nat.zero_le _⟩ (fun H locs hW => ?_)
      show W p l e (rmq 7 156) s m args below meth c H locs 0 0 Q (F0 m 27 ls [.int x24.1])
      obtain ⟨hz28, hf⟩ := cb_of hf
      obtain rfl := Option.some.inj hf
      rw [hQ]
      exact r_zret C hr hk hW hz28 rfl rfl dX11_readVillageLine_27
  · have hf := (if_neg c19).symm.trans hf
    refine lv_aload_n hx hb dX11_readVillageLine_9 rfl (lv_at hl 0 rfl) ?_
    obtain ⟨x10, h10, hf⟩ := bd_of hf
    refine r_callV (k := ((0, 0) : Ky)) C hW hl lk_X11_225 (c_X11_readValues h10) ⟨rfl, rfl⟩ ⟨Nat.le_of_ble_eq_true rfl, Nat.le_of_ble_eq_true rfl⟩ rfl rfl rfl (As := []) (rest := []) rfl rfl (Nat.le_of_ble_eq_true rfl) dX11_readVillageLine_10 ⟨Nat.zero_le _, Nat.zero_le _⟩ (fun H locs hW => ?_)
    show W p l e (rmq 7 156) s m args below meth c H locs 0 0 Q (F0 m 13 ls [.int x10.1])
    obtain ⟨hz30, hf⟩ := cb_of hf
    obtain rfl := Option.some.inj hf
    rw [hQ]
    exact r_zret C hr hk hW hz30 rfl rfl dX11_readVillageLine_13
set_option maxHeartbeats 4000000 in
set_option maxRecDepth 100000 in
theorem c_X11_emits {l : Launch} {D : va_G} {tc : Nat → ClassId} {ro : Ro} {ad : Nat → Nat} {μ : Mm} {v1 v2 : Int32} {res : Mm} (hf : f_X11_emits μ v1 v2 = some res) : Ct l D tc ro (faM ad) (feM tc ad) yX11_emits cX11_emits 3 none (rmq 0 0) [.ref (ad 0), .int v1, .int v2] μ none res := by
  refine Ct.of (by decide) (Nat.le_of_ble_eq_true rfl) (fun p e s m args below meth c A C hr hk hW ls hl => ?_)
  have hx := C.1.1
  have hb := C.1.2.1
  obtain ⟨Q, hQ⟩ : ∃ Q, Q = MQ below (Ctq D (faM ad) (feM tc ad) none res A) args s 0 0 A := ⟨_, rfl⟩
  rw [← hQ]
  have hl : lv_has ls 3 [(0, .ref (ad 0)), (1, .int v1), (2, .int v2)] := hl
  unfold f_X11_emits at hf
  refine lv_aload_n hx hb dX11_emits_0 rfl (lv_at hl 0 rfl) ?_
  refine gf_X11_13 C hW dX11_emits_1 ?_
  refine lv_sipush (v := 6314) hx hb dX11_emits_4 (by decide) ?_
  refine lv_iconst (v := 2) hx hb dX11_emits_7 (by decide) ?_
  refine lv_aload_n hx hb dX11_emits_8 rfl (lv_at hl 0 rfl) ?_
  refine gf_X11_253 C hW dX11_emits_9 ?_
  refine lv_imul hx hb dX11_emits_12 ?_
  refine lv_iadd hx hb dX11_emits_13 ?_
  refine lv_iload_n hx hb dX11_emits_14 rfl (lv_at hl 1 rfl) ?_
  obtain ⟨hi1, hf⟩ := ck_of hf
  refine r_iast (k := ((1, 0) : Ky)) (n := 7114) C hW rfl (fun _ => rfl) hi1 dX11_emits_15 (fun H locs hW => ?_)
  refine lv_aload_n hx hb dX11_emits_16 rfl (lv_at hl 0 rfl) ?_
  refine gf_X11_13 C hW dX11_emits_17 ?_
  refine lv_sipush (v := 6314) hx hb dX11_emits_20 (by decide) ?_
  refine lv_iconst (v := 2) hx hb dX11_emits_23 (by decide) ?_
  refine lv_aload_n hx hb dX11_emits_24 rfl (lv_at hl 0 rfl) ?_
  refine gf_X11_253 C hW dX11_emits_25 ?_
  refine lv_imul hx hb dX11_emits_28 ?_
  refine lv_iadd hx hb dX11_emits_29 ?_
  refine lv_iconst (v := 1) hx hb dX11_emits_30 (by decide) ?_
  refine lv_iadd hx hb dX11_emits_31 ?_
  refine lv_iload_n hx hb dX11_emits_32 rfl (lv_at hl 2 rfl) ?_
  obtain ⟨hi2, hf⟩ := ck_of hf
  refine r_iast (k := ((1, 0) : Ky)) (n := 7114) C hW rfl (fun _ => rfl) hi2 dX11_emits_33 (fun H locs hW => ?_)
  refine lv_aload_n hx hb dX11_emits_34 rfl (lv_at hl 0 rfl) ?_
  refine lv_dup hx hb dX11_emits_35 rfl ?_
  refine gf_X11_253 C hW dX11_emits_36 ?_
  refine lv_iconst (v := 1) hx hb dX11_emits_39 (by decide) ?_
  refine lv_iadd hx hb dX11_emits_40 ?_
  refine pf_X11_253 C hW dX11_emits_41 (fun H locs hW => ?_)
  obtain rfl := Option.some.inj hf
  rw [hQ]
  exact r_vret C hr hk hW rfl rfl dX11_emits_44
set_option maxHeartbeats 4000000 in
set_option maxRecDepth 100000 in
theorem c_X11_readPart {l : Launch} {D : va_G} {tc : Nat → ClassId} {ro : Ro} {ad : Nat → Nat} {μ : Mm} {res : Int32 × Mm} (hf : f_X11_readPart μ = some res) : Ct l D tc ro (faM ad) (feM tc ad) yX11_readPart cX11_readPart 2 (some .boolean) (rmq 5 108) [.ref (ad 0)] μ (some (.int res.1)) res.2 := by
  refine Ct.of (by decide) (Nat.le_of_ble_eq_true rfl) (fun p e s m args below meth c A C hr hk hW ls hl => ?_)
  have hx := C.1.1
  have hb := C.1.2.1
  obtain ⟨Q, hQ⟩ : ∃ Q, Q = MQ below (Ctq D (faM ad) (feM tc ad) (some (.int res.1)) res.2 A) args s 0 0 A := ⟨_, rfl⟩
  rw [← hQ]
  have hl : lv_has ls 2 [(0, .ref (ad 0))] := hl
  unfold f_X11_readPart at hf
  refine lv_aload_n hx hb dX11_readPart_0 rfl (lv_at hl 0 rfl) ?_
  obtain ⟨x1, h1, hf⟩ := bd_of hf
  refine r_callV (k := ((0, 0) : Ky)) C hW hl lk_X11_183 (c_X11_letters h1) ⟨rfl, rfl⟩ ⟨Nat.le_of_ble_eq_true rfl, Nat.le_of_ble_eq_true rfl⟩ rfl rfl rfl (As := []) (rest := []) rfl rfl (Nat.le_of_ble_eq_true rfl) dX11_readPart_1 ⟨Nat.zero_le _, Nat.zero_le _⟩ (fun H locs hW => ?_)
  show W p l e (rmq 5 108) s m args below meth c H locs 0 0 Q (F0 m 4 ls [])
  refine lv_aload_n hx hb dX11_readPart_4 rfl (lv_at hl 0 rfl) ?_
  refine gf_X11_159 C hW dX11_readPart_5 ?_
  refine lv_aload_n hx hb dX11_readPart_8 rfl (lv_at hl 0 rfl) ?_
  refine gf_X11_168 C hW dX11_readPart_9 ?_
  refine lv_icmp_ne (tgt := 34) hx hb dX11_readPart_12 (by decide) (fun c2 => ?_) (fun c2 => ?_)
  · have hf := (if_neg c2).symm.trans hf
    refine lv_aload_n hx hb dX11_readPart_34 rfl (lv_at hl 0 rfl) ?_
    refine va_ldcSw (q := ro.1 20) (tx := "theirs") hx hb C.1.2.2.2.1 (C.2.2.2.1 ("BackVillageModel", 259, "theirs", 20) (by decide)) dX11_readPart_35 ?_
    obtain ⟨x38, h38, hf⟩ := bd_of hf
    refine r_callV (k := ((0, 0) : Ky)) C hW hl lk_X11_186 (c_X11_isWord (by decide) h38) ⟨rfl, rfl⟩ ⟨Nat.le_of_ble_eq_true rfl, Nat.le_of_ble_eq_true rfl⟩ rfl rfl rfl (As := [.ref (ro.1 20)]) (rest := []) rfl rfl (Nat.le_of_ble_eq_true rfl) dX11_readPart_38 ⟨Nat.zero_le _, Nat.zero_le _⟩ (fun H locs hW => ?_)
    show W p l e (rmq 5 108) s m args below meth c H locs 0 0 Q (F0 m 41 ls [.int x38])
    refine lv_if_eq (tgt := 48) hx hb dX11_readPart_41 (by decide) (fun c4 => ?_) (fun c4 => ?_)
    · have hf := (if_pos c4).symm.trans hf
      refine lv_aload_n hx hb dX11_readPart_48 rfl (lv_at hl 0 rfl) ?_
      refine va_ldcSw (q := ro.1 21) (tx := "who") hx hb C.1.2.2.2.1 (C.2.2.2.1 ("BackVillageModel", 261, "who", 21) (by decide)) dX11_readPart_49 ?_
      obtain ⟨x52, h52, hf⟩ := bd_of hf
      refine r_callV (k := ((0, 0) : Ky)) C hW hl lk_X11_186 (c_X11_isWord (by decide) h52) ⟨rfl, rfl⟩ ⟨Nat.le_of_ble_eq_true rfl, Nat.le_of_ble_eq_true rfl⟩ rfl rfl rfl (As := [.ref (ro.1 21)]) (rest := []) rfl rfl (Nat.le_of_ble_eq_true rfl) dX11_readPart_52 ⟨Nat.zero_le _, Nat.zero_le _⟩ (fun H locs hW => ?_)
      show W p l e (rmq 5 108) s m args below meth c H locs 0 0 Q (F0 m 55 ls [.int x52])
      refine lv_if_eq (tgt := 62) hx hb dX11_readPart_55 (by decide) (fun c6 => ?_) (fun c6 => ?_)
      · have hf := (if_pos c6).symm.trans hf
        refine lv_aload_n hx hb dX11_readPart_62 rfl (lv_at hl 0 rfl) ?_
        refine va_ldcSw (q := ro.1 22) (tx := "whom") hx hb C.1.2.2.2.1 (C.2.2.2.1 ("BackVillageModel", 263, "whom", 22) (by decide)) dX11_readPart_63 ?_
        obtain ⟨x66, h66, hf⟩ := bd_of hf
        refine r_callV (k := ((0, 0) : Ky)) C hW hl lk_X11_186 (c_X11_isWord (by decide) h66) ⟨rfl, rfl⟩ ⟨Nat.le_of_ble_eq_true rfl, Nat.le_of_ble_eq_true rfl⟩ rfl rfl rfl (As := [.ref (ro.1 22)]) (rest := []) rfl rfl (Nat.le_of_ble_eq_true rfl) dX11_readPart_66 ⟨Nat.zero_le _, Nat.zero_le _⟩ (fun H locs hW => ?_)
        show W p l e (rmq 5 108) s m args below meth c H locs 0 0 Q (F0 m 69 ls [.int x66])
        refine lv_if_eq (tgt := 76) hx hb dX11_readPart_69 (by decide) (fun c8 => ?_) (fun c8 => ?_)
        · have hf := (if_pos c8).symm.trans hf
          refine lv_aload_n hx hb dX11_readPart_76 rfl (lv_at hl 0 rfl) ?_
          refine va_ldcSw (q := ro.1 23) (tx := "day") hx hb C.1.2.2.2.1 (C.2.2.2.1 ("BackVillageModel", 265, "day", 23) (by decide)) dX11_readPart_77 ?_
          obtain ⟨x80, h80, hf⟩ := bd_of hf
          refine r_callV (k := ((0, 0) : Ky)) C hW hl lk_X11_186 (c_X11_isWord (by decide) h80) ⟨rfl, rfl⟩ ⟨Nat.le_of_ble_eq_true rfl, Nat.le_of_ble_eq_true rfl⟩ rfl rfl rfl (As := [.ref (ro.1 23)]) (rest := []) rfl rfl (Nat.le_of_ble_eq_true rfl) dX11_readPart_80 ⟨Nat.zero_le _, Nat.zero_le _⟩ (fun H locs hW => ?_)
          show W p l e (rmq 5 108) s m args below meth c H locs 0 0 Q (F0 m 83 ls [.int x80])
          refine lv_if_eq (tgt := 90) hx hb dX11_readPart_83 (by decide) (fun c10 => ?_) (fun c10 => ?_)
          · have hf := (if_pos c10).symm.trans hf
            refine lv_iconst (v := -1) hx hb dX11_readPart_90 (by decide) ?_
            refine lv_istore_n (lv' := [(1, .int (-1 : Int32)), (0, .ref (ad 0))]) hx hb dX11_readPart_91 rfl hl (by decide) rfl (fun ls hl => ?_)
            refine lv_aload_n hx hb dX11_readPart_92 rfl (lv_at hl 1 rfl) ?_
            refine lv_iload_n hx hb dX11_readPart_93 rfl (lv_at hl 0 rfl) ?_
            refine lv_iconst (v := 0) hx hb dX11_readPart_94 (by decide) ?_
            obtain ⟨x95, h95, hf⟩ := bd_of hf
            refine r_callV (k := ((0, 0) : Ky)) C hW hl lk_X11_256 (c_X11_emits h95) ⟨rfl, rfl⟩ ⟨Nat.le_of_ble_eq_true rfl, Nat.le_of_ble_eq_true rfl⟩ rfl rfl rfl (As := [.int (-1 : Int32), .int (0 : Int32)]) (rest := []) rfl rfl (Nat.le_of_ble_eq_true rfl) dX11_readPart_95 ⟨Nat.zero_le _, Nat.zero_le _⟩ (fun H locs hW => ?_)
            show W p l e (rmq 5 108) s m args below meth c H locs 0 0 Q (F0 m 98 ls [])
            refine lv_iload_n hx hb dX11_readPart_98 rfl (lv_at hl 0 rfl) ?_
            refine lv_if_lt (tgt := 106) hx hb dX11_readPart_99 (by decide) (fun c12 => ?_) (fun c12 => ?_)
            · have hf := (if_pos c12).symm.trans hf
              refine lv_iconst (v := 0) hx hb dX11_readPart_106 (by decide) ?_
              obtain rfl := Option.some.inj hf
              rw [hQ]
              exact r_zret C hr hk hW (Or.inl rfl) rfl rfl dX11_readPart_107
            · have hf := (if_neg c12).symm.trans hf
              refine lv_iconst (v := 1) hx hb dX11_readPart_102 (by decide) ?_
              refine lv_goto (tgt := 107) hx hb dX11_readPart_103 (by decide) ?_
              obtain rfl := Option.some.inj hf
              rw [hQ]
              exact r_zret C hr hk hW (Or.inr rfl) rfl rfl dX11_readPart_107
          · have hf := (if_neg c10).symm.trans hf
            refine lv_iconst (v := 3) hx hb dX11_readPart_86 (by decide) ?_
            refine lv_goto (tgt := 91) hx hb dX11_readPart_87 (by decide) ?_
            refine lv_istore_n (lv' := [(1, .int (3 : Int32)), (0, .ref (ad 0))]) hx hb dX11_readPart_91 rfl hl (by decide) rfl (fun ls hl => ?_)
            refine lv_aload_n hx hb dX11_readPart_92 rfl (lv_at hl 1 rfl) ?_
            refine lv_iload_n hx hb dX11_readPart_93 rfl (lv_at hl 0 rfl) ?_
            refine lv_iconst (v := 0) hx hb dX11_readPart_94 (by decide) ?_
            obtain ⟨x95, h95, hf⟩ := bd_of hf
            refine r_callV (k := ((0, 0) : Ky)) C hW hl lk_X11_256 (c_X11_emits h95) ⟨rfl, rfl⟩ ⟨Nat.le_of_ble_eq_true rfl, Nat.le_of_ble_eq_true rfl⟩ rfl rfl rfl (As := [.int (3 : Int32), .int (0 : Int32)]) (rest := []) rfl rfl (Nat.le_of_ble_eq_true rfl) dX11_readPart_95 ⟨Nat.zero_le _, Nat.zero_le _⟩ (fun H locs hW => ?_)
            show W p l e (rmq 5 108) s m args below meth c H locs 0 0 Q (F0 m 98 ls [])
            refine lv_iload_n hx hb dX11_readPart_98 rfl (lv_at hl 0 rfl) ?_
            refine lv_if_lt (tgt := 106) hx hb dX11_readPart_99 (by decide) (fun c14 => ?_) (fun c14 => ?_)
            · have hf := (if_pos c14).symm.trans hf
              refine lv_iconst (v := 0) hx hb dX11_readPart_106 (by decide) ?_
              obtain rfl := Option.some.inj hf
              rw [hQ]
              exact r_zret C hr hk hW (Or.inl rfl) rfl rfl dX11_readPart_107
            · have hf := (if_neg c14).symm.trans hf
              refine lv_iconst (v := 1) hx hb dX11_readPart_102 (by decide) ?_
              refine lv_goto (tgt := 107) hx hb dX11_readPart_103 (by decide) ?_
              obtain rfl := Option.some.inj hf
              rw [hQ]
              exact r_zret C hr hk hW (Or.inr rfl) rfl rfl dX11_readPart_107
        · have hf := (if_neg c8).symm.trans hf
          refine lv_iconst (v := 2) hx hb dX11_readPart_72 (by decide) ?_
          refine lv_goto (tgt := 91) hx hb dX11_readPart_73 (by decide) ?_
          refine lv_istore_n (lv' := [(1, .int (2 : Int32)), (0, .ref (ad 0))]) hx hb dX11_readPart_91 rfl hl (by decide) rfl (fun ls hl => ?_)
          refine lv_aload_n hx hb dX11_readPart_92 rfl (lv_at hl 1 rfl) ?_
          refine lv_iload_n hx hb dX11_readPart_93 rfl (lv_at hl 0 rfl) ?_
          refine lv_iconst (v := 0) hx hb dX11_readPart_94 (by decide) ?_
          obtain ⟨x95, h95, hf⟩ := bd_of hf
          refine r_callV (k := ((0, 0) : Ky)) C hW hl lk_X11_256 (c_X11_emits h95) ⟨rfl, rfl⟩ ⟨Nat.le_of_ble_eq_true rfl, Nat.le_of_ble_eq_true rfl⟩ rfl rfl rfl (As := [.int (2 : Int32), .int (0 : Int32)]) (rest := []) rfl rfl (Nat.le_of_ble_eq_true rfl) dX11_readPart_95 ⟨Nat.zero_le _, Nat.zero_le _⟩ (fun H locs hW => ?_)
          show W p l e (rmq 5 108) s m args below meth c H locs 0 0 Q (F0 m 98 ls [])
          refine lv_iload_n hx hb dX11_readPart_98 rfl (lv_at hl 0 rfl) ?_
          refine lv_if_lt (tgt := 106) hx hb dX11_readPart_99 (by decide) (fun c16 => ?_) (fun c16 => ?_)
          · have hf := (if_pos c16).symm.trans hf
            refine lv_iconst (v := 0) hx hb dX11_readPart_106 (by decide) ?_
            obtain rfl := Option.some.inj hf
            rw [hQ]
            exact r_zret C hr hk hW (Or.inl rfl) rfl rfl dX11_readPart_107
          · have hf := (if_neg c16).symm.trans hf
            refine lv_iconst (v := 1) hx hb dX11_readPart_102 (by decide) ?_
            refine lv_goto (tgt := 107) hx hb dX11_readPart_103 (by decide) ?_
            obtain rfl := Option.some.inj hf
            rw [hQ]
            exact r_zret C hr hk hW (Or.inr rfl) rfl rfl dX11_readPart_107
      · have hf := (if_neg c6).symm.trans hf
        refine lv_iconst (v := 1) hx hb dX11_readPart_58 (by decide) ?_
        refine lv_goto (tgt := 91) hx hb dX11_readPart_59 (by decide) ?_
        refine lv_istore_n (lv' := [(1, .int (1 : Int32)), (0, .ref (ad 0))]) hx hb dX11_readPart_91 rfl hl (by decide) rfl (fun ls hl => ?_)
        refine lv_aload_n hx hb dX11_readPart_92 rfl (lv_at hl 1 rfl) ?_
        refine lv_iload_n hx hb dX11_readPart_93 rfl (lv_at hl 0 rfl) ?_
        refine lv_iconst (v := 0) hx hb dX11_readPart_94 (by decide) ?_
        obtain ⟨x95, h95, hf⟩ := bd_of hf
        refine r_callV (k := ((0, 0) : Ky)) C hW hl lk_X11_256 (c_X11_emits h95) ⟨rfl, rfl⟩ ⟨Nat.le_of_ble_eq_true rfl, Nat.le_of_ble_eq_true rfl⟩ rfl rfl rfl (As := [.int (1 : Int32), .int (0 : Int32)]) (rest := []) rfl rfl (Nat.le_of_ble_eq_true rfl) dX11_readPart_95 ⟨Nat.zero_le _, Nat.zero_le _⟩ (fun H locs hW => ?_)
        show W p l e (rmq 5 108) s m args below meth c H locs 0 0 Q (F0 m 98 ls [])
        refine lv_iload_n hx hb dX11_readPart_98 rfl (lv_at hl 0 rfl) ?_
        refine lv_if_lt (tgt := 106) hx hb dX11_readPart_99 (by decide) (fun c18 => ?_) (fun c18 => ?_)
        · have hf := (if_pos c18).symm.trans hf
          refine lv_iconst (v := 0) hx hb dX11_readPart_106 (by decide) ?_
          obtain rfl := Option.some.inj hf
          rw [hQ]
          exact r_zret C hr hk hW (Or.inl rfl) rfl rfl dX11_readPart_107
        · have hf := (if_neg c18).symm.trans hf
          refine lv_iconst (v := 1) hx hb dX11_readPart_102 (by decide) ?_
          refine lv_goto (tgt := 107) hx hb dX11_readPart_103 (by decide) ?_
          obtain rfl := Option.some.inj hf
          rw [hQ]
          exact r_zret C hr hk hW (Or.inr rfl) rfl rfl dX11_readPart_107
    · have hf := (if_neg c4).symm.trans hf
      refine lv_iconst (v := 0) hx hb dX11_readPart_44 (by decide) ?_
      refine lv_goto (tgt := 91) hx hb dX11_readPart_45 (by decide) ?_
      refine lv_istore_n (lv' := [(1, .int (0 : Int32)), (0, .ref (ad 0))]) hx hb dX11_readPart_91 rfl hl (by decide) rfl (fun ls hl => ?_)
      refine lv_aload_n hx hb dX11_readPart_92 rfl (lv_at hl 1 rfl) ?_
      refine lv_iload_n hx hb dX11_readPart_93 rfl (lv_at hl 0 rfl) ?_
      refine lv_iconst (v := 0) hx hb dX11_readPart_94 (by decide) ?_
      obtain ⟨x95, h95, hf⟩ := bd_of hf
      refine r_callV (k := ((0, 0) : Ky)) C hW hl lk_X11_256 (c_X11_emits h95) ⟨rfl, rfl⟩ ⟨Nat.le_of_ble_eq_true rfl, Nat.le_of_ble_eq_true rfl⟩ rfl rfl rfl (As := [.int (0 : Int32), .int (0 : Int32)]) (rest := []) rfl rfl (Nat.le_of_ble_eq_true rfl) dX11_readPart_95 ⟨Nat.zero_le _, Nat.zero_le _⟩ (fun H locs hW => ?_)
      show W p l e (rmq 5 108) s m args below meth c H locs 0 0 Q (F0 m 98 ls [])
      refine lv_iload_n hx hb dX11_readPart_98 rfl (lv_at hl 0 rfl) ?_
      refine lv_if_lt (tgt := 106) hx hb dX11_readPart_99 (by decide) (fun c20 => ?_) (fun c20 => ?_)
      · have hf := (if_pos c20).symm.trans hf
        refine lv_iconst (v := 0) hx hb dX11_readPart_106 (by decide) ?_
        obtain rfl := Option.some.inj hf
        rw [hQ]
        exact r_zret C hr hk hW (Or.inl rfl) rfl rfl dX11_readPart_107
      · have hf := (if_neg c20).symm.trans hf
        refine lv_iconst (v := 1) hx hb dX11_readPart_102 (by decide) ?_
        refine lv_goto (tgt := 107) hx hb dX11_readPart_103 (by decide) ?_
        obtain rfl := Option.some.inj hf
        rw [hQ]
        exact r_zret C hr hk hW (Or.inr rfl) rfl rfl dX11_readPart_107
  · have hf := (if_pos c2).symm.trans hf
    refine lv_aload_n hx hb dX11_readPart_15 rfl (lv_at hl 0 rfl) ?_
    refine lv_iconst (v := 0) hx hb dX11_readPart_16 (by decide) ?_
    refine lv_sipush (v := 999) hx hb dX11_readPart_17 (by decide) ?_
    obtain ⟨x20, h20, hf⟩ := bd_of hf
    refine r_callV (k := ((0, 0) : Ky)) C hW hl lk_X11_190 (c_X11_number h20) ⟨rfl, rfl⟩ ⟨Nat.le_of_ble_eq_true rfl, Nat.le_of_ble_eq_true rfl⟩ rfl rfl rfl (As := [.int (0 : Int32), .int (999 : Int32)]) (rest := []) rfl rfl (Nat.le_of_ble_eq_true rfl) dX11_readPart_20 ⟨Nat.zero_le _, Nat.zero_le _⟩ (fun H locs hW => ?_)
    show W p l e (rmq 5 108) s m args below meth c H locs 0 0 Q (F0 m 23 ls [.int x20.1])
    refine lv_istore_n (lv' := [(1, .int x20.1), (0, .ref (ad 0))]) hx hb dX11_readPart_23 rfl hl (by decide) rfl (fun ls hl => ?_)
    refine lv_aload_n hx hb dX11_readPart_24 rfl (lv_at hl 1 rfl) ?_
    refine lv_bipush (v := 6) hx hb dX11_readPart_25 (by decide) ?_
    refine lv_iload_n hx hb dX11_readPart_27 rfl (lv_at hl 0 rfl) ?_
    obtain ⟨x28, h28, hf⟩ := bd_of hf
    refine r_callV (k := ((0, 0) : Ky)) C hW hl lk_X11_256 (c_X11_emits h28) ⟨rfl, rfl⟩ ⟨Nat.le_of_ble_eq_true rfl, Nat.le_of_ble_eq_true rfl⟩ rfl rfl rfl (As := [.int (6 : Int32), .int x20.1]) (rest := []) rfl rfl (Nat.le_of_ble_eq_true rfl) dX11_readPart_28 ⟨Nat.zero_le _, Nat.zero_le _⟩ (fun H locs hW => ?_)
    show W p l e (rmq 5 108) s m args below meth c H locs 0 0 Q (F0 m 31 ls [])
    refine lv_goto (tgt := 98) hx hb dX11_readPart_31 (by decide) ?_
    refine lv_iload_n hx hb dX11_readPart_98 rfl (lv_at hl 0 rfl) ?_
    refine lv_if_lt (tgt := 106) hx hb dX11_readPart_99 (by decide) (fun c23 => ?_) (fun c23 => ?_)
    · have hf := (if_pos c23).symm.trans hf
      refine lv_iconst (v := 0) hx hb dX11_readPart_106 (by decide) ?_
      obtain rfl := Option.some.inj hf
      rw [hQ]
      exact r_zret C hr hk hW (Or.inl rfl) rfl rfl dX11_readPart_107
    · have hf := (if_neg c23).symm.trans hf
      refine lv_iconst (v := 1) hx hb dX11_readPart_102 (by decide) ?_
      refine lv_goto (tgt := 107) hx hb dX11_readPart_103 (by decide) ?_
      obtain rfl := Option.some.inj hf
      rw [hQ]
      exact r_zret C hr hk hW (Or.inr rfl) rfl rfl dX11_readPart_107
set_option maxHeartbeats 4000000 in
set_option maxRecDepth 100000 in
theorem c_X11_readSum {l : Launch} {D : va_G} {tc : Nat → ClassId} {ro : Ro} {ad : Nat → Nat} {μ : Mm} {res : Int32 × Mm} (hf : f_X11_readSum μ = some res) : Ct l D tc ro (faM ad) (feM tc ad) yX11_readSum cX11_readSum 1 (some .boolean) (rmq 6 129) [.ref (ad 0)] μ (some (.int res.1)) res.2 := by
  refine Ct.of (by decide) (Nat.le_of_ble_eq_true rfl) (fun p e s m args below meth c A C hr hk hW ls hl => ?_)
  have hx := C.1.1
  have hb := C.1.2.1
  obtain ⟨Q, hQ⟩ : ∃ Q, Q = MQ below (Ctq D (faM ad) (feM tc ad) (some (.int res.1)) res.2 A) args s 0 0 A := ⟨_, rfl⟩
  rw [← hQ]
  have hl : lv_has ls 1 [(0, .ref (ad 0))] := hl
  unfold f_X11_readSum at hf
  refine lv_aload_n hx hb dX11_readSum_0 rfl (lv_at hl 0 rfl) ?_
  obtain ⟨x1, h1, hf⟩ := bd_of hf
  refine r_callV (k := ((0, 0) : Ky)) C hW hl lk_X11_267 (c_X11_readPart h1) ⟨rfl, rfl⟩ ⟨Nat.le_of_ble_eq_true rfl, Nat.le_of_ble_eq_true rfl⟩ rfl rfl rfl (As := []) (rest := []) rfl rfl (Nat.le_of_ble_eq_true rfl) dX11_readSum_1 ⟨Nat.zero_le _, Nat.zero_le _⟩ (fun H locs hW => ?_)
  show W p l e (rmq 6 129) s m args below meth c H locs 0 0 Q (F0 m 4 ls [.int x1.1])
  refine lv_if_ne (tgt := 9) hx hb dX11_readSum_4 (by decide) (fun c2 => ?_) (fun c2 => ?_)
  · have hf := (if_neg c2).symm.trans hf
    have L9 : ∀ (μ : Mm) (H : Heap) (locs : List Loc) (ls : Array Slot), Wh (fun z : Mm => f_X11_readSum_L9 z) (μ) = some res → Wd D (faM ad) (feM tc ad) A s.heap μ H locs → lv_has ls 1 [(0, .ref (ad 0))] → W p l e (rmq 6 129) s m args below meth c H locs 0 0 Q (F0 m 9 ls []) := by
      intro μ  H locs ls hf hW hl
      refine Wh_rule hf (fun z : Mm => ∀ (H : Heap) (locs : List Loc) (ls : Array Slot), Wd D (faM ad) (feM tc ad) A s.heap z H locs → lv_has ls 1 [(0, .ref (ad 0))] → W p l e (rmq 6 129) s m args below meth c H locs 0 0 Q (F0 m 9 ls [])) (fun z o1 hf Kl1 Kr1 => ?_) _ _ _ hW hl
      obtain ⟨μ, ez⟩ : ∃ q, q = z := ⟨_, rfl⟩
      subst ez
      intro H locs ls hW hl
      have hf : f_X11_readSum_L9 μ = some o1 := hf
      unfold f_X11_readSum_L9 at hf
      have hW : Wd D (faM ad) (feM tc ad) A s.heap μ H locs := hW
      have hl : lv_has ls 1 [(0, .ref (ad 0))] := hl
      refine lv_aload_n hx hb dX11_readSum_9 rfl (lv_at hl 0 rfl) ?_
      refine lv_bipush (v := 43) hx hb dX11_readSum_10 (by decide) ?_
      obtain ⟨x12, h12, hf⟩ := bd_of hf
      refine r_callV (k := ((0, 0) : Ky)) C hW hl lk_X11_270 (c_X11_sign h12) ⟨rfl, rfl⟩ ⟨Nat.le_of_ble_eq_true rfl, Nat.le_of_ble_eq_true rfl⟩ rfl rfl rfl (As := [.int (43 : Int32)]) (rest := []) rfl rfl (Nat.le_of_ble_eq_true rfl) dX11_readSum_12 ⟨Nat.zero_le _, Nat.zero_le _⟩ (fun H locs hW => ?_)
      show W p l e (rmq 6 129) s m args below meth c H locs 0 0 Q (F0 m 15 ls [.int x12.1])
      refine lv_if_eq (tgt := 37) hx hb dX11_readSum_15 (by decide) (fun c4 => ?_) (fun c4 => ?_)
      · have hf := (if_pos c4).symm.trans hf
        obtain ⟨x9005, hf, hx9005⟩ := map_of hf
        have e9005 := (Kr1 _ hx9005.symm).symm
        subst e9005
        refine lv_iconst (v := 1) hx hb dX11_readSum_37 (by decide) ?_
        obtain rfl := Option.some.inj hf
        rw [hQ]
        exact r_zret C hr hk hW (Or.inr rfl) rfl rfl dX11_readSum_38
      · have hf := (if_neg c4).symm.trans hf
        refine lv_aload_n hx hb dX11_readSum_18 rfl (lv_at hl 0 rfl) ?_
        obtain ⟨x19, h19, hf⟩ := bd_of hf
        refine r_callV (k := ((0, 0) : Ky)) C hW hl lk_X11_267 (c_X11_readPart h19) ⟨rfl, rfl⟩ ⟨Nat.le_of_ble_eq_true rfl, Nat.le_of_ble_eq_true rfl⟩ rfl rfl rfl (As := []) (rest := []) rfl rfl (Nat.le_of_ble_eq_true rfl) dX11_readSum_19 ⟨Nat.zero_le _, Nat.zero_le _⟩ (fun H locs hW => ?_)
        show W p l e (rmq 6 129) s m args below meth c H locs 0 0 Q (F0 m 22 ls [.int x19.1])
        refine lv_if_ne (tgt := 27) hx hb dX11_readSum_22 (by decide) (fun c7 => ?_) (fun c7 => ?_)
        · have hf := (if_neg c7).symm.trans hf
          refine lv_aload_n hx hb dX11_readSum_27 rfl (lv_at hl 0 rfl) ?_
          refine lv_bipush (v := 7) hx hb dX11_readSum_28 (by decide) ?_
          refine lv_iconst (v := 0) hx hb dX11_readSum_30 (by decide) ?_
          obtain ⟨x31, h31, hf⟩ := bd_of hf
          refine r_callV (k := ((0, 0) : Ky)) C hW hl lk_X11_256 (c_X11_emits h31) ⟨rfl, rfl⟩ ⟨Nat.le_of_ble_eq_true rfl, Nat.le_of_ble_eq_true rfl⟩ rfl rfl rfl (As := [.int (7 : Int32), .int (0 : Int32)]) (rest := []) rfl rfl (Nat.le_of_ble_eq_true rfl) dX11_readSum_31 ⟨Nat.zero_le _, Nat.zero_le _⟩ (fun H locs hW => ?_)
          show W p l e (rmq 6 129) s m args below meth c H locs 0 0 Q (F0 m 34 ls [])
          refine lv_goto (tgt := 9) hx hb dX11_readSum_34 (by decide) ?_
          obtain rfl := Option.some.inj hf
          exact Kl1 _ rfl _ _ _ hW (lv_sub hl [0] rfl)
        · have hf := (if_pos c7).symm.trans hf
          obtain ⟨x9009, hf, hx9009⟩ := map_of hf
          have e9009 := (Kr1 _ hx9009.symm).symm
          subst e9009
          refine lv_iconst (v := 0) hx hb dX11_readSum_25 (by decide) ?_
          obtain rfl := Option.some.inj hf
          rw [hQ]
          exact r_zret C hr hk hW (Or.inl rfl) rfl rfl dX11_readSum_26
    exact L9 x1.2 _ _ _ hf hW (lv_sub hl [0] rfl)
  · have hf := (if_pos c2).symm.trans hf
    refine lv_iconst (v := 0) hx hb dX11_readSum_7 (by decide) ?_
    obtain rfl := Option.some.inj hf
    rw [hQ]
    exact r_zret C hr hk hW (Or.inl rfl) rfl rfl dX11_readSum_8
