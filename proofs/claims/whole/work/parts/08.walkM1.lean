set_option maxHeartbeats 4000000 in
set_option maxRecDepth 100000 in
theorem c_X11_sign {l : Launch} {D : va_G} {tc : Nat → ClassId} {ro : Ro} {ad : Nat → Nat} {μ : Mm} {v1 : Int32} {res : Int32 × Mm} (hf : f_X11_sign μ v1 = some res) : Ct l D tc ro (faM ad) (feM tc ad) yX11_sign cX11_sign 2 (some .boolean) (rmq 2 42) [.ref (ad 0), .int v1] μ (some (.int res.1)) res.2 := by
  refine Ct.of (by decide) (Nat.le_of_ble_eq_true rfl) (fun p e s m args below meth c C hr hk hW ls hl => ?_)
  have hx := C.1.1
  have hb := C.1.2.1
  obtain ⟨Q, hQ⟩ : ∃ Q, Q = MQ below (Ctq D (faM ad) (feM tc ad) (some (.int res.1)) res.2 s.heap.size) args s 0 0 (AF (faM ad) s.heap.size) := ⟨_, rfl⟩
  rw [← hQ]
  have hl : lv_has ls 2 [(0, .ref (ad 0)), (1, .int v1)] := hl
  unfold f_X11_sign at hf
  refine lv_aload_n hx hb dX11_sign_0 rfl (lv_at hl 0 rfl) ?_
  obtain ⟨x1, h1, hf⟩ := bd_of hf
  refine r_callV (k := ((0, 0) : Ky)) C hW hl lk_X11_171 (c_X11_blanks h1) ⟨rfl, rfl⟩ ⟨Nat.le_of_ble_eq_true rfl, Nat.le_of_ble_eq_true rfl⟩ rfl rfl rfl (As := []) (rest := []) rfl rfl (Nat.le_of_ble_eq_true rfl) dX11_sign_1 ⟨Nat.zero_le _, Nat.zero_le _⟩ (fun H locs hW => ?_)
  show W p l e (rmq 2 42) s m args below meth c H locs 0 0 Q (F0 m 4 ls [])
  refine lv_aload_n hx hb dX11_sign_4 rfl (lv_at hl 0 rfl) ?_
  refine lv_iload_n hx hb dX11_sign_5 rfl (lv_at hl 1 rfl) ?_
  refine lv_iload_n hx hb dX11_sign_6 rfl (lv_at hl 1 rfl) ?_
  obtain ⟨x7, h7, hf⟩ := bd_of hf
  refine r_callV (k := ((0, 0) : Ky)) C hW hl lk_X11_165 (c_X11_isAt h7) ⟨rfl, rfl⟩ ⟨Nat.le_of_ble_eq_true rfl, Nat.le_of_ble_eq_true rfl⟩ rfl rfl rfl (As := [.int v1, .int v1]) (rest := []) rfl rfl (Nat.le_of_ble_eq_true rfl) dX11_sign_7 ⟨Nat.zero_le _, Nat.zero_le _⟩ (fun H locs hW => ?_)
  show W p l e (rmq 2 42) s m args below meth c H locs 0 0 Q (F0 m 10 ls [.int x7])
  refine lv_if_ne (tgt := 15) hx hb dX11_sign_10 (by decide) (fun c3 => ?_) (fun c3 => ?_)
  · have hf := (if_neg c3).symm.trans hf
    refine lv_aload_n hx hb dX11_sign_15 rfl (lv_at hl 0 rfl) ?_
    refine lv_dup hx hb dX11_sign_16 rfl ?_
    refine gf_X11_159 C hW dX11_sign_17 ?_
    refine lv_iconst (v := 1) hx hb dX11_sign_20 (by decide) ?_
    refine lv_iadd hx hb dX11_sign_21 ?_
    refine pf_X11_159 C hW dX11_sign_22 (fun H locs hW => ?_)
    refine lv_iconst (v := 1) hx hb dX11_sign_25 (by decide) ?_
    obtain rfl := Option.some.inj hf
    rw [hQ]
    exact r_zret C hr hk hW (Or.inr rfl) rfl rfl dX11_sign_26
  · have hf := (if_pos c3).symm.trans hf
    refine lv_iconst (v := 0) hx hb dX11_sign_13 (by decide) ?_
    obtain rfl := Option.some.inj hf
    rw [hQ]
    exact r_zret C hr hk hW (Or.inl rfl) rfl rfl dX11_sign_14
set_option maxHeartbeats 4000000 in
set_option maxRecDepth 100000 in
theorem c_X11_number {l : Launch} {D : va_G} {tc : Nat → ClassId} {ro : Ro} {ad : Nat → Nat} {μ : Mm} {v1 v2 : Int32} {res : Int32 × Mm} (hf : f_X11_number μ v1 v2 = some res) : Ct l D tc ro (faM ad) (feM tc ad) yX11_number cX11_number 4 (some .int) (rmq 2 42) [.ref (ad 0), .int v1, .int v2] μ (some (.int res.1)) res.2 := by
  refine Ct.of (by decide) (Nat.le_of_ble_eq_true rfl) (fun p e s m args below meth c C hr hk hW ls hl => ?_)
  have hx := C.1.1
  have hb := C.1.2.1
  obtain ⟨Q, hQ⟩ : ∃ Q, Q = MQ below (Ctq D (faM ad) (feM tc ad) (some (.int res.1)) res.2 s.heap.size) args s 0 0 (AF (faM ad) s.heap.size) := ⟨_, rfl⟩
  rw [← hQ]
  have hl : lv_has ls 4 [(0, .ref (ad 0)), (1, .int v1), (2, .int v2)] := hl
  unfold f_X11_number at hf
  refine lv_aload_n hx hb dX11_number_0 rfl (lv_at hl 0 rfl) ?_
  obtain ⟨x1, h1, hf⟩ := bd_of hf
  refine r_callV (k := ((0, 0) : Ky)) C hW hl lk_X11_171 (c_X11_blanks h1) ⟨rfl, rfl⟩ ⟨Nat.le_of_ble_eq_true rfl, Nat.le_of_ble_eq_true rfl⟩ rfl rfl rfl (As := []) (rest := []) rfl rfl (Nat.le_of_ble_eq_true rfl) dX11_number_1 ⟨Nat.zero_le _, Nat.zero_le _⟩ (fun H locs hW => ?_)
  show W p l e (rmq 2 42) s m args below meth c H locs 0 0 Q (F0 m 4 ls [])
  refine lv_iconst (v := 0) hx hb dX11_number_4 (by decide) ?_
  refine lv_istore_n (lv' := [(3, .int (0 : Int32)), (0, .ref (ad 0)), (1, .int v1), (2, .int v2)]) hx hb dX11_number_5 rfl hl (by decide) rfl (fun ls hl => ?_)
  have L6 : ∀ (μ : Mm) (v3 : Int32) (H : Heap) (locs : List Loc) (ls : Array Slot), Wh (fun z : Mm × Int32 => f_X11_number_L6 v1 v2 z.1 z.2) (μ, v3) = some res → Wd D (faM ad) (feM tc ad) s.heap μ H locs → lv_has ls 4 [(0, .ref (ad 0)), (1, .int v1), (2, .int v2), (3, .int v3)] → W p l e (rmq 2 42) s m args below meth c H locs 0 0 Q (F0 m 6 ls []) := by
    intro μ v3 H locs ls hf hW hl
    refine Wh_rule hf (fun z : Mm × Int32 => ∀ (H : Heap) (locs : List Loc) (ls : Array Slot), Wd D (faM ad) (feM tc ad) s.heap z.1 H locs → lv_has ls 4 [(0, .ref (ad 0)), (1, .int v1), (2, .int v2), (3, .int z.2)] → W p l e (rmq 2 42) s m args below meth c H locs 0 0 Q (F0 m 6 ls [])) (fun z o1 hf Kl1 Kr1 => ?_) _ _ _ hW hl
    obtain ⟨μ, v3⟩ := z
    intro H locs ls hW hl
    have hf : f_X11_number_L6 v1 v2 μ v3 = some o1 := hf
    unfold f_X11_number_L6 at hf
    have hW : Wd D (faM ad) (feM tc ad) s.heap μ H locs := hW
    have hl : lv_has ls 4 [(0, .ref (ad 0)), (1, .int v1), (2, .int v2), (3, .int v3)] := hl
    refine lv_aload_n hx hb dX11_number_6 rfl (lv_at hl 0 rfl) ?_
    refine lv_bipush (v := 48) hx hb dX11_number_7 (by decide) ?_
    refine lv_bipush (v := 57) hx hb dX11_number_9 (by decide) ?_
    obtain ⟨x11, h11, hf⟩ := bd_of hf
    refine r_callV (k := ((0, 0) : Ky)) C hW hl lk_X11_165 (c_X11_isAt h11) ⟨rfl, rfl⟩ ⟨Nat.le_of_ble_eq_true rfl, Nat.le_of_ble_eq_true rfl⟩ rfl rfl rfl (As := [.int (48 : Int32), .int (57 : Int32)]) (rest := []) rfl rfl (Nat.le_of_ble_eq_true rfl) dX11_number_11 ⟨Nat.zero_le _, Nat.zero_le _⟩ (fun H locs hW => ?_)
    show W p l e (rmq 2 42) s m args below meth c H locs 0 0 Q (F0 m 14 ls [.int x11])
    refine lv_if_eq (tgt := 65) hx hb dX11_number_14 (by decide) (fun c3 => ?_) (fun c3 => ?_)
    · have hf := (if_pos c3).symm.trans hf
      obtain ⟨x9008, hf, hx9008⟩ := map_of hf
      have e9008 := (Kr1 _ hx9008.symm).symm
      subst e9008
      refine lv_aload_n hx hb dX11_number_65 rfl (lv_at hl 0 rfl) ?_
      refine gf_X11_159 C hW dX11_number_66 ?_
      refine lv_aload_n hx hb dX11_number_69 rfl (lv_at hl 0 rfl) ?_
      refine gf_X11_168 C hW dX11_number_70 ?_
      refine lv_icmp_eq (tgt := 99) hx hb dX11_number_73 (by decide) (fun c4 => ?_) (fun c4 => ?_)
      · have hf := (if_pos c4).symm.trans hf
        refine lv_iconst (v := -1) hx hb dX11_number_99 (by decide) ?_
        refine lv_goto (tgt := 104) hx hb dX11_number_100 (by decide) ?_
        obtain rfl := Option.some.inj hf
        rw [hQ]
        exact r_iret C hr hk hW rfl rfl dX11_number_104
      · have hf := (if_neg c4).symm.trans hf
        refine lv_aload_n hx hb dX11_number_76 rfl (lv_at hl 0 rfl) ?_
        refine gf_X11_159 C hW dX11_number_77 ?_
        refine lv_aload_n hx hb dX11_number_80 rfl (lv_at hl 0 rfl) ?_
        refine gf_X11_168 C hW dX11_number_81 ?_
        refine lv_isub hx hb dX11_number_84 ?_
        refine lv_iconst (v := 3) hx hb dX11_number_85 (by decide) ?_
        refine lv_icmp_gt (tgt := 99) hx hb dX11_number_86 (by decide) (fun c5 => ?_) (fun c5 => ?_)
        · have hf := (if_pos c5).symm.trans hf
          refine lv_iconst (v := -1) hx hb dX11_number_99 (by decide) ?_
          refine lv_goto (tgt := 104) hx hb dX11_number_100 (by decide) ?_
          obtain rfl := Option.some.inj hf
          rw [hQ]
          exact r_iret C hr hk hW rfl rfl dX11_number_104
        · have hf := (if_neg c5).symm.trans hf
          refine lv_iload_n hx hb dX11_number_89 rfl (lv_at hl 3 rfl) ?_
          refine lv_iload_n hx hb dX11_number_90 rfl (lv_at hl 1 rfl) ?_
          refine lv_icmp_lt (tgt := 99) hx hb dX11_number_91 (by decide) (fun c6 => ?_) (fun c6 => ?_)
          · have hf := (if_pos c6).symm.trans hf
            refine lv_iconst (v := -1) hx hb dX11_number_99 (by decide) ?_
            refine lv_goto (tgt := 104) hx hb dX11_number_100 (by decide) ?_
            obtain rfl := Option.some.inj hf
            rw [hQ]
            exact r_iret C hr hk hW rfl rfl dX11_number_104
          · have hf := (if_neg c6).symm.trans hf
            refine lv_iload_n hx hb dX11_number_94 rfl (lv_at hl 3 rfl) ?_
            refine lv_iload_n hx hb dX11_number_95 rfl (lv_at hl 2 rfl) ?_
            refine lv_icmp_le (tgt := 103) hx hb dX11_number_96 (by decide) (fun c7 => ?_) (fun c7 => ?_)
            · have hf := (if_pos c7).symm.trans hf
              refine lv_iload_n hx hb dX11_number_103 rfl (lv_at hl 3 rfl) ?_
              obtain rfl := Option.some.inj hf
              rw [hQ]
              exact r_iret C hr hk hW rfl rfl dX11_number_104
            · have hf := (if_neg c7).symm.trans hf
              refine lv_iconst (v := -1) hx hb dX11_number_99 (by decide) ?_
              refine lv_goto (tgt := 104) hx hb dX11_number_100 (by decide) ?_
              obtain rfl := Option.some.inj hf
              rw [hQ]
              exact r_iret C hr hk hW rfl rfl dX11_number_104
    · have hf := (if_neg c3).symm.trans hf
      refine lv_aload_n hx hb dX11_number_17 rfl (lv_at hl 0 rfl) ?_
      refine gf_X11_159 C hW dX11_number_18 ?_
      refine lv_aload_n hx hb dX11_number_21 rfl (lv_at hl 0 rfl) ?_
      refine gf_X11_168 C hW dX11_number_22 ?_
      refine lv_isub hx hb dX11_number_25 ?_
      refine lv_iconst (v := 3) hx hb dX11_number_26 (by decide) ?_
      refine lv_icmp_ge (tgt := 50) hx hb dX11_number_27 (by decide) (fun c9 => ?_) (fun c9 => ?_)
      · have hf := (if_pos c9).symm.trans hf
        refine lv_iload_n hx hb dX11_number_50 rfl (lv_at hl 3 rfl) ?_
        refine lv_istore_n (lv' := [(3, .int v3), (0, .ref (ad 0)), (1, .int v1), (2, .int v2)]) hx hb dX11_number_51 rfl hl (by decide) rfl (fun ls hl => ?_)
        refine lv_aload_n hx hb dX11_number_52 rfl (lv_at hl 1 rfl) ?_
        refine lv_dup hx hb dX11_number_53 rfl ?_
        refine gf_X11_159 C hW dX11_number_54 ?_
        refine lv_iconst (v := 1) hx hb dX11_number_57 (by decide) ?_
        refine lv_iadd hx hb dX11_number_58 ?_
        refine pf_X11_159 C hW dX11_number_59 (fun H locs hW => ?_)
        refine lv_goto (tgt := 6) hx hb dX11_number_62 (by decide) ?_
        obtain rfl := Option.some.inj hf
        exact Kl1 _ rfl _ _ _ hW (lv_sub hl [1, 2, 3, 0] rfl)
      · have hf := (if_neg c9).symm.trans hf
        refine lv_bipush (v := 10) hx hb dX11_number_30 (by decide) ?_
        refine lv_iload_n hx hb dX11_number_32 rfl (lv_at hl 3 rfl) ?_
        refine lv_imul hx hb dX11_number_33 ?_
        refine lv_aload_n hx hb dX11_number_34 rfl (lv_at hl 0 rfl) ?_
        refine gf_X11_39 C hW dX11_number_35 ?_
        refine lv_aload_n hx hb dX11_number_38 rfl (lv_at hl 0 rfl) ?_
        refine gf_X11_159 C hW dX11_number_39 ?_
        obtain ⟨hi10, hf⟩ := ck_of hf
        refine r_bald (k := ((11, 0) : Ky)) (n := 400) C hW rfl rfl hi10 dX11_number_42 ?_
        refine lv_iadd hx hb dX11_number_43 ?_
        refine lv_bipush (v := 48) hx hb dX11_number_44 (by decide) ?_
        refine lv_isub hx hb dX11_number_46 ?_
        refine lv_goto (tgt := 51) hx hb dX11_number_47 (by decide) ?_
        refine lv_istore_n (lv' := [(3, .int ((((10 : Int32) * v3) + (μ (11, 0) (μ (0, 0) 13).toNatClampNeg)) - (48 : Int32))), (0, .ref (ad 0)), (1, .int v1), (2, .int v2)]) hx hb dX11_number_51 rfl hl (by decide) rfl (fun ls hl => ?_)
        refine lv_aload_n hx hb dX11_number_52 rfl (lv_at hl 1 rfl) ?_
        refine lv_dup hx hb dX11_number_53 rfl ?_
        refine gf_X11_159 C hW dX11_number_54 ?_
        refine lv_iconst (v := 1) hx hb dX11_number_57 (by decide) ?_
        refine lv_iadd hx hb dX11_number_58 ?_
        refine pf_X11_159 C hW dX11_number_59 (fun H locs hW => ?_)
        refine lv_goto (tgt := 6) hx hb dX11_number_62 (by decide) ?_
        obtain rfl := Option.some.inj hf
        exact Kl1 _ rfl _ _ _ hW (lv_sub hl [1, 2, 3, 0] rfl)
  exact L6 x1 (0 : Int32) _ _ _ hf hW (lv_sub hl [1, 2, 3, 0] rfl)
set_option maxHeartbeats 4000000 in
set_option maxRecDepth 100000 in
theorem c_X11_fault {l : Launch} {D : va_G} {tc : Nat → ClassId} {ro : Ro} {ad : Nat → Nat} {μ : Mm} {res : Int32 × Mm} (hf : f_X11_fault μ = some res) : Ct l D tc ro (faM ad) (feM tc ad) yX11_fault cX11_fault 1 (some .int) (rmq 0 0) [.ref (ad 0)] μ (some (.int res.1)) res.2 := by
  refine Ct.of (by decide) (Nat.le_of_ble_eq_true rfl) (fun p e s m args below meth c C hr hk hW ls hl => ?_)
  have hx := C.1.1
  have hb := C.1.2.1
  obtain ⟨Q, hQ⟩ : ∃ Q, Q = MQ below (Ctq D (faM ad) (feM tc ad) (some (.int res.1)) res.2 s.heap.size) args s 0 0 (AF (faM ad) s.heap.size) := ⟨_, rfl⟩
  rw [← hQ]
  have hl : lv_has ls 1 [(0, .ref (ad 0))] := hl
  unfold f_X11_fault at hf
  refine lv_aload_n hx hb dX11_fault_0 rfl (lv_at hl 0 rfl) ?_
  refine lv_iconst (v := 0) hx hb dX11_fault_1 (by decide) ?_
  refine pf_X11_3 C hW dX11_fault_2 (fun H locs hW => ?_)
  refine lv_aload_n hx hb dX11_fault_5 rfl (lv_at hl 0 rfl) ?_
  refine gf_X11_43 C hW dX11_fault_6 ?_
  obtain rfl := Option.some.inj hf
  rw [hQ]
  exact r_iret C hr hk hW rfl rfl dX11_fault_9
set_option maxHeartbeats 4000000 in
set_option maxRecDepth 100000 in
theorem c_X11_uses {l : Launch} {D : va_G} {tc : Nat → ClassId} {ro : Ro} {ad : Nat → Nat} {μ : Mm} {res : Mm} (hf : f_X11_uses μ = some res) : Ct l D tc ro (faM ad) (feM tc ad) yX11_uses cX11_uses 1 none (rmq 0 0) [.ref (ad 0)] μ none res := by
  refine Ct.of (by decide) (Nat.le_of_ble_eq_true rfl) (fun p e s m args below meth c C hr hk hW ls hl => ?_)
  have hx := C.1.1
  have hb := C.1.2.1
  obtain ⟨Q, hQ⟩ : ∃ Q, Q = MQ below (Ctq D (faM ad) (feM tc ad) none res s.heap.size) args s 0 0 (AF (faM ad) s.heap.size) := ⟨_, rfl⟩
  rw [← hQ]
  have hl : lv_has ls 1 [(0, .ref (ad 0))] := hl
  unfold f_X11_uses at hf
  refine lv_aload_n hx hb dX11_uses_0 rfl (lv_at hl 0 rfl) ?_
  refine lv_iconst (v := 0) hx hb dX11_uses_1 (by decide) ?_
  refine pf_X11_3 C hW dX11_uses_2 (fun H locs hW => ?_)
  refine lv_aload_n hx hb dX11_uses_5 rfl (lv_at hl 0 rfl) ?_
  refine lv_aload_n hx hb dX11_uses_6 rfl (lv_at hl 0 rfl) ?_
  refine gf_X11_156 C hW dX11_uses_7 ?_
  refine pf_X11_162 C hW dX11_uses_10 (fun H locs hW => ?_)
  refine lv_aload_n hx hb dX11_uses_13 rfl (lv_at hl 0 rfl) ?_
  refine lv_iconst (v := 0) hx hb dX11_uses_14 (by decide) ?_
  refine pf_X11_156 C hW dX11_uses_15 (fun H locs hW => ?_)
  refine lv_aload_n hx hb dX11_uses_18 rfl (lv_at hl 0 rfl) ?_
  refine lv_iconst (v := 0) hx hb dX11_uses_19 (by decide) ?_
  refine pf_X11_159 C hW dX11_uses_20 (fun H locs hW => ?_)
  obtain rfl := Option.some.inj hf
  rw [hQ]
  exact r_vret C hr hk hW rfl rfl dX11_uses_23
set_option maxHeartbeats 4000000 in
set_option maxRecDepth 100000 in
theorem c_X11_personTold {l : Launch} {D : va_G} {tc : Nat → ClassId} {ro : Ro} {ad : Nat → Nat} {μ : Mm} {res : Int32 × Mm} (hf : f_X11_personTold μ = some res) : Ct l D tc ro (faM ad) (feM tc ad) yX11_personTold cX11_personTold 1 (some .int) (rmq 3 65) [.ref (ad 0)] μ (some (.int res.1)) res.2 := by
  refine Ct.of (by decide) (Nat.le_of_ble_eq_true rfl) (fun p e s m args below meth c C hr hk hW ls hl => ?_)
  have hx := C.1.1
  have hb := C.1.2.1
  obtain ⟨Q, hQ⟩ : ∃ Q, Q = MQ below (Ctq D (faM ad) (feM tc ad) (some (.int res.1)) res.2 s.heap.size) args s 0 0 (AF (faM ad) s.heap.size) := ⟨_, rfl⟩
  rw [← hQ]
  have hl : lv_has ls 1 [(0, .ref (ad 0))] := hl
  unfold f_X11_personTold at hf
  refine lv_aload_n hx hb dX11_personTold_0 rfl (lv_at hl 0 rfl) ?_
  refine lv_iconst (v := 0) hx hb dX11_personTold_1 (by decide) ?_
  refine lv_aload_n hx hb dX11_personTold_2 rfl (lv_at hl 0 rfl) ?_
  obtain ⟨x3, h3, hf⟩ := bd_of hf
  refine r_callV (k := ((0, 0) : Ky)) C hW hl lk_X11_107 (c_X11_people h3) ⟨rfl, rfl⟩ ⟨Nat.le_of_ble_eq_true rfl, Nat.le_of_ble_eq_true rfl⟩ rfl rfl rfl (As := []) (rest := [.int (0 : Int32), .ref (ad 0)]) rfl rfl (Nat.le_of_ble_eq_true rfl) dX11_personTold_3 ⟨Nat.zero_le _, Nat.zero_le _⟩ (fun H locs hW => ?_)
  show W p l e (rmq 3 65) s m args below meth c H locs 0 0 Q (F0 m 6 ls [.int x3, .int (0 : Int32), .ref (ad 0)])
  refine lv_iconst (v := 1) hx hb dX11_personTold_6 (by decide) ?_
  refine lv_isub hx hb dX11_personTold_7 ?_
  obtain ⟨x8, h8, hf⟩ := bd_of hf
  refine r_callV (k := ((0, 0) : Ky)) C hW hl lk_X11_190 (c_X11_number h8) ⟨rfl, rfl⟩ ⟨Nat.le_of_ble_eq_true rfl, Nat.le_of_ble_eq_true rfl⟩ rfl rfl rfl (As := [.int (0 : Int32), .int (x3 - (1 : Int32))]) (rest := []) rfl rfl (Nat.le_of_ble_eq_true rfl) dX11_personTold_8 ⟨Nat.zero_le _, Nat.zero_le _⟩ (fun H locs hW => ?_)
  show W p l e (rmq 3 65) s m args below meth c H locs 0 0 Q (F0 m 11 ls [.int x8.1])
  obtain rfl := Option.some.inj hf
  rw [hQ]
  exact r_iret C hr hk hW rfl rfl dX11_personTold_11
set_option maxHeartbeats 4000000 in
set_option maxRecDepth 100000 in
theorem c_X11_isEarly {l : Launch} {D : va_G} {tc : Nat → ClassId} {ro : Ro} {ad : Nat → Nat} {μ : Mm} {res : Int32} (hf : f_X11_isEarly μ = some res) : Ct l D tc ro (faM ad) (feM tc ad) yX11_isEarly cX11_isEarly 1 (some .boolean) (rmq 0 0) [.ref (ad 0)] μ (some (.int res)) μ := by
  refine Ct.of (by decide) (Nat.le_of_ble_eq_true rfl) (fun p e s m args below meth c C hr hk hW ls hl => ?_)
  have hx := C.1.1
  have hb := C.1.2.1
  obtain ⟨Q, hQ⟩ : ∃ Q, Q = MQ below (Ctq D (faM ad) (feM tc ad) (some (.int res)) μ s.heap.size) args s 0 0 (AF (faM ad) s.heap.size) := ⟨_, rfl⟩
  rw [← hQ]
  have hl : lv_has ls 1 [(0, .ref (ad 0))] := hl
  unfold f_X11_isEarly at hf
  refine lv_aload_n hx hb dX11_isEarly_0 rfl (lv_at hl 0 rfl) ?_
  refine gf_X11_13 C hW dX11_isEarly_1 ?_
  refine lv_bipush (v := 7) hx hb dX11_isEarly_4 (by decide) ?_
  obtain ⟨hi1, hf⟩ := ck_of hf
  refine r_iald (k := ((1, 0) : Ky)) (n := 7114) C hW rfl rfl hi1 dX11_isEarly_6 ?_
  refine lv_aload_n hx hb dX11_isEarly_7 rfl (lv_at hl 0 rfl) ?_
  refine gf_X11_13 C hW dX11_isEarly_8 ?_
  refine lv_bipush (v := 8) hx hb dX11_isEarly_11 (by decide) ?_
  obtain ⟨hi2, hf⟩ := ck_of hf
  refine r_iald (k := ((1, 0) : Ky)) (n := 7114) C hW rfl rfl hi2 dX11_isEarly_13 ?_
  refine lv_iadd hx hb dX11_isEarly_14 ?_
  refine lv_if_ne (tgt := 22) hx hb dX11_isEarly_15 (by decide) (fun c3 => ?_) (fun c3 => ?_)
  · have hf := (if_neg c3).symm.trans hf
    refine lv_iconst (v := 0) hx hb dX11_isEarly_22 (by decide) ?_
    obtain rfl := Option.some.inj hf
    rw [hQ]
    exact r_zret C hr hk hW (Or.inl rfl) rfl rfl dX11_isEarly_23
  · have hf := (if_pos c3).symm.trans hf
    refine lv_iconst (v := 1) hx hb dX11_isEarly_18 (by decide) ?_
    refine lv_goto (tgt := 23) hx hb dX11_isEarly_19 (by decide) ?_
    obtain rfl := Option.some.inj hf
    rw [hQ]
    exact r_zret C hr hk hW (Or.inr rfl) rfl rfl dX11_isEarly_23
set_option maxHeartbeats 4000000 in
set_option maxRecDepth 100000 in
theorem c_X11_readValues {l : Launch} {D : va_G} {tc : Nat → ClassId} {ro : Ro} {ad : Nat → Nat} {μ : Mm} {res : Int32 × Mm} (hf : f_X11_readValues μ = some res) : Ct l D tc ro (faM ad) (feM tc ad) yX11_readValues cX11_readValues 2 (some .boolean) (rmq 3 65) [.ref (ad 0)] μ (some (.int res.1)) res.2 := by
  refine Ct.of (by decide) (Nat.le_of_ble_eq_true rfl) (fun p e s m args below meth c C hr hk hW ls hl => ?_)
  have hx := C.1.1
  have hb := C.1.2.1
  obtain ⟨Q, hQ⟩ : ∃ Q, Q = MQ below (Ctq D (faM ad) (feM tc ad) (some (.int res.1)) res.2 s.heap.size) args s 0 0 (AF (faM ad) s.heap.size) := ⟨_, rfl⟩
  rw [← hQ]
  have hl : lv_has ls 2 [(0, .ref (ad 0))] := hl
  unfold f_X11_readValues at hf
  refine lv_aload_n hx hb dX11_readValues_0 rfl (lv_at hl 0 rfl) ?_
  obtain ⟨x1, h1, hf⟩ := bd_of hf
  refine r_callV (k := ((0, 0) : Ky)) C hW hl lk_X11_193 (c_X11_isEarly h1) ⟨rfl, rfl⟩ ⟨Nat.le_of_ble_eq_true rfl, Nat.le_of_ble_eq_true rfl⟩ rfl rfl rfl (As := []) (rest := []) rfl rfl (Nat.le_of_ble_eq_true rfl) dX11_readValues_1 ⟨Nat.zero_le _, Nat.zero_le _⟩ (fun H locs hW => ?_)
  show W p l e (rmq 3 65) s m args below meth c H locs 0 0 Q (F0 m 4 ls [.int x1])
  refine lv_if_eq (tgt := 14) hx hb dX11_readValues_4 (by decide) (fun c2 => ?_) (fun c2 => ?_)
  · have hf := (if_pos c2).symm.trans hf
    refine lv_iconst (v := 0) hx hb dX11_readValues_14 (by decide) ?_
    obtain rfl := Option.some.inj hf
    rw [hQ]
    exact r_zret C hr hk hW (Or.inl rfl) rfl rfl dX11_readValues_15
  · have hf := (if_neg c2).symm.trans hf
    refine lv_aload_n hx hb dX11_readValues_7 rfl (lv_at hl 0 rfl) ?_
    obtain ⟨x8, h8, hf⟩ := bd_of hf
    refine r_callV (k := ((0, 0) : Ky)) C hW hl lk_X11_107 (c_X11_people h8) ⟨rfl, rfl⟩ ⟨Nat.le_of_ble_eq_true rfl, Nat.le_of_ble_eq_true rfl⟩ rfl rfl rfl (As := []) (rest := []) rfl rfl (Nat.le_of_ble_eq_true rfl) dX11_readValues_8 ⟨Nat.zero_le _, Nat.zero_le _⟩ (fun H locs hW => ?_)
    show W p l e (rmq 3 65) s m args below meth c H locs 0 0 Q (F0 m 11 ls [.int x8])
    refine lv_if_le (tgt := 16) hx hb dX11_readValues_11 (by decide) (fun c4 => ?_) (fun c4 => ?_)
    · have hf := (if_pos c4).symm.trans hf
      refine lv_aload_n hx hb dX11_readValues_16 rfl (lv_at hl 0 rfl) ?_
      refine lv_iconst (v := 2) hx hb dX11_readValues_17 (by decide) ?_
      refine lv_iconst (v := 4) hx hb dX11_readValues_18 (by decide) ?_
      obtain ⟨x19, h19, hf⟩ := bd_of hf
      refine r_callV (k := ((0, 0) : Ky)) C hW hl lk_X11_190 (c_X11_number h19) ⟨rfl, rfl⟩ ⟨Nat.le_of_ble_eq_true rfl, Nat.le_of_ble_eq_true rfl⟩ rfl rfl rfl (As := [.int (2 : Int32), .int (4 : Int32)]) (rest := []) rfl rfl (Nat.le_of_ble_eq_true rfl) dX11_readValues_19 ⟨Nat.zero_le _, Nat.zero_le _⟩ (fun H locs hW => ?_)
      show W p l e (rmq 3 65) s m args below meth c H locs 0 0 Q (F0 m 22 ls [.int x19.1])
      refine lv_istore_n (lv' := [(1, .int x19.1), (0, .ref (ad 0))]) hx hb dX11_readValues_22 rfl hl (by decide) rfl (fun ls hl => ?_)
      refine lv_iload_n hx hb dX11_readValues_23 rfl (lv_at hl 0 rfl) ?_
      refine lv_if_lt (tgt := 34) hx hb dX11_readValues_24 (by decide) (fun c6 => ?_) (fun c6 => ?_)
      · have hf := (if_pos c6).symm.trans hf
        refine lv_iload_n hx hb dX11_readValues_34 rfl (lv_at hl 0 rfl) ?_
        refine lv_if_lt (tgt := 42) hx hb dX11_readValues_35 (by decide) (fun c7 => ?_) (fun c7 => ?_)
        · have hf := (if_pos c7).symm.trans hf
          refine lv_iconst (v := 0) hx hb dX11_readValues_42 (by decide) ?_
          obtain rfl := Option.some.inj hf
          rw [hQ]
          exact r_zret C hr hk hW (Or.inl rfl) rfl rfl dX11_readValues_43
        · have hf := (if_neg c7).symm.trans hf
          refine lv_iconst (v := 1) hx hb dX11_readValues_38 (by decide) ?_
          refine lv_goto (tgt := 43) hx hb dX11_readValues_39 (by decide) ?_
          obtain rfl := Option.some.inj hf
          rw [hQ]
          exact r_zret C hr hk hW (Or.inr rfl) rfl rfl dX11_readValues_43
      · have hf := (if_neg c6).symm.trans hf
        refine lv_aload_n hx hb dX11_readValues_27 rfl (lv_at hl 1 rfl) ?_
        refine gf_X11_13 C hW dX11_readValues_28 ?_
        refine lv_iconst (v := 0) hx hb dX11_readValues_31 (by decide) ?_
        refine lv_iload_n hx hb dX11_readValues_32 rfl (lv_at hl 0 rfl) ?_
        obtain ⟨hi8, hf⟩ := ck_of hf
        refine r_iast (k := ((1, 0) : Ky)) (n := 7114) C hW rfl (fun _ => rfl) hi8 dX11_readValues_33 (fun H locs hW => ?_)
        refine lv_iload_n hx hb dX11_readValues_34 rfl (lv_at hl 0 rfl) ?_
        refine lv_if_lt (tgt := 42) hx hb dX11_readValues_35 (by decide) (fun c9 => ?_) (fun c9 => ?_)
        · have hf := (if_pos c9).symm.trans hf
          refine lv_iconst (v := 0) hx hb dX11_readValues_42 (by decide) ?_
          obtain rfl := Option.some.inj hf
          rw [hQ]
          exact r_zret C hr hk hW (Or.inl rfl) rfl rfl dX11_readValues_43
        · have hf := (if_neg c9).symm.trans hf
          refine lv_iconst (v := 1) hx hb dX11_readValues_38 (by decide) ?_
          refine lv_goto (tgt := 43) hx hb dX11_readValues_39 (by decide) ?_
          obtain rfl := Option.some.inj hf
          rw [hQ]
          exact r_zret C hr hk hW (Or.inr rfl) rfl rfl dX11_readValues_43
    · have hf := (if_neg c4).symm.trans hf
      refine lv_iconst (v := 0) hx hb dX11_readValues_14 (by decide) ?_
      obtain rfl := Option.some.inj hf
      rw [hQ]
      exact r_zret C hr hk hW (Or.inl rfl) rfl rfl dX11_readValues_15
set_option maxHeartbeats 4000000 in
set_option maxRecDepth 100000 in
theorem c_X11_readPerson {l : Launch} {D : va_G} {tc : Nat → ClassId} {ro : Ro} {ad : Nat → Nat} {μ : Mm} {res : Int32 × Mm} (hf : f_X11_readPerson μ = some res) : Ct l D tc ro (faM ad) (feM tc ad) yX11_readPerson cX11_readPerson 3 (some .boolean) (rmq 3 65) [.ref (ad 0)] μ (some (.int res.1)) res.2 := by
  refine Ct.of (by decide) (Nat.le_of_ble_eq_true rfl) (fun p e s m args below meth c C hr hk hW ls hl => ?_)
  have hx := C.1.1
  have hb := C.1.2.1
  obtain ⟨Q, hQ⟩ : ∃ Q, Q = MQ below (Ctq D (faM ad) (feM tc ad) (some (.int res.1)) res.2 s.heap.size) args s 0 0 (AF (faM ad) s.heap.size) := ⟨_, rfl⟩
  rw [← hQ]
  have hl : lv_has ls 3 [(0, .ref (ad 0))] := hl
  unfold f_X11_readPerson at hf
  refine lv_aload_n hx hb dX11_readPerson_0 rfl (lv_at hl 0 rfl) ?_
  obtain ⟨x1, h1, hf⟩ := bd_of hf
  refine r_callV (k := ((0, 0) : Ky)) C hW hl lk_X11_193 (c_X11_isEarly h1) ⟨rfl, rfl⟩ ⟨Nat.le_of_ble_eq_true rfl, Nat.le_of_ble_eq_true rfl⟩ rfl rfl rfl (As := []) (rest := []) rfl rfl (Nat.le_of_ble_eq_true rfl) dX11_readPerson_1 ⟨Nat.zero_le _, Nat.zero_le _⟩ (fun H locs hW => ?_)
  show W p l e (rmq 3 65) s m args below meth c H locs 0 0 Q (F0 m 4 ls [.int x1])
  refine lv_if_eq (tgt := 22) hx hb dX11_readPerson_4 (by decide) (fun c2 => ?_) (fun c2 => ?_)
  · have hf := (if_pos c2).symm.trans hf
    refine lv_iconst (v := 0) hx hb dX11_readPerson_22 (by decide) ?_
    obtain rfl := Option.some.inj hf
    rw [hQ]
    exact r_zret C hr hk hW (Or.inl rfl) rfl rfl dX11_readPerson_23
  · have hf := (if_neg c2).symm.trans hf
    refine lv_aload_n hx hb dX11_readPerson_7 rfl (lv_at hl 0 rfl) ?_
    obtain ⟨x8, h8, hf⟩ := bd_of hf
    refine r_callV (k := ((0, 0) : Ky)) C hW hl lk_X11_115 (c_X11_worlds h8) ⟨rfl, rfl⟩ ⟨Nat.le_of_ble_eq_true rfl, Nat.le_of_ble_eq_true rfl⟩ rfl rfl rfl (As := []) (rest := []) rfl rfl (Nat.le_of_ble_eq_true rfl) dX11_readPerson_8 ⟨Nat.zero_le _, Nat.zero_le _⟩ (fun H locs hW => ?_)
    show W p l e (rmq 3 65) s m args below meth c H locs 0 0 Q (F0 m 11 ls [.int x8])
    refine lv_aload_n hx hb dX11_readPerson_11 rfl (lv_at hl 0 rfl) ?_
    obtain ⟨x12, h12, hf⟩ := bd_of hf
    refine r_callV (k := ((0, 0) : Ky)) C hW hl lk_X11_118 (c_X11_values h12) ⟨rfl, rfl⟩ ⟨Nat.le_of_ble_eq_true rfl, Nat.le_of_ble_eq_true rfl⟩ rfl rfl rfl (As := []) (rest := [.int x8]) rfl rfl (Nat.le_of_ble_eq_true rfl) dX11_readPerson_12 ⟨Nat.zero_le _, Nat.zero_le _⟩ (fun H locs hW => ?_)
    show W p l e (rmq 3 65) s m args below meth c H locs 0 0 Q (F0 m 15 ls [.int x12, .int x8])
    refine lv_imul hx hb dX11_readPerson_15 ?_
    refine lv_sipush (v := 512) hx hb dX11_readPerson_16 (by decide) ?_
    refine lv_icmp_le (tgt := 24) hx hb dX11_readPerson_19 (by decide) (fun c5 => ?_) (fun c5 => ?_)
    · have hf := (if_pos c5).symm.trans hf
      refine lv_aload_n hx hb dX11_readPerson_24 rfl (lv_at hl 0 rfl) ?_
      refine lv_iconst (v := 0) hx hb dX11_readPerson_25 (by decide) ?_
      refine lv_aload_n hx hb dX11_readPerson_26 rfl (lv_at hl 0 rfl) ?_
      obtain ⟨x27, h27, hf⟩ := bd_of hf
      refine r_callV (k := ((0, 0) : Ky)) C hW hl lk_X11_118 (c_X11_values h27) ⟨rfl, rfl⟩ ⟨Nat.le_of_ble_eq_true rfl, Nat.le_of_ble_eq_true rfl⟩ rfl rfl rfl (As := []) (rest := [.int (0 : Int32), .ref (ad 0)]) rfl rfl (Nat.le_of_ble_eq_true rfl) dX11_readPerson_27 ⟨Nat.zero_le _, Nat.zero_le _⟩ (fun H locs hW => ?_)
      show W p l e (rmq 3 65) s m args below meth c H locs 0 0 Q (F0 m 30 ls [.int x27, .int (0 : Int32), .ref (ad 0)])
      refine lv_iconst (v := 1) hx hb dX11_readPerson_30 (by decide) ?_
      refine lv_isub hx hb dX11_readPerson_31 ?_
      obtain ⟨x32, h32, hf⟩ := bd_of hf
      refine r_callV (k := ((0, 0) : Ky)) C hW hl lk_X11_190 (c_X11_number h32) ⟨rfl, rfl⟩ ⟨Nat.le_of_ble_eq_true rfl, Nat.le_of_ble_eq_true rfl⟩ rfl rfl rfl (As := [.int (0 : Int32), .int (x27 - (1 : Int32))]) (rest := []) rfl rfl (Nat.le_of_ble_eq_true rfl) dX11_readPerson_32 ⟨Nat.zero_le _, Nat.zero_le _⟩ (fun H locs hW => ?_)
      show W p l e (rmq 3 65) s m args below meth c H locs 0 0 Q (F0 m 35 ls [.int x32.1])
      refine lv_istore_n (lv' := [(1, .int x32.1), (0, .ref (ad 0))]) hx hb dX11_readPerson_35 rfl hl (by decide) rfl (fun ls hl => ?_)
      refine lv_iload_n hx hb dX11_readPerson_36 rfl (lv_at hl 0 rfl) ?_
      refine lv_if_ge (tgt := 42) hx hb dX11_readPerson_37 (by decide) (fun c8 => ?_) (fun c8 => ?_)
      · have hf := (if_pos c8).symm.trans hf
        refine lv_aload_n hx hb dX11_readPerson_42 rfl (lv_at hl 1 rfl) ?_
        refine gf_X11_13 C hW dX11_readPerson_43 ?_
        refine lv_iconst (v := 1) hx hb dX11_readPerson_46 (by decide) ?_
        refine lv_dup2_11 hx hb dX11_readPerson_47 rfl rfl ?_
        obtain ⟨hi9, hf⟩ := ck_of hf
        refine r_iald (k := ((1, 0) : Ky)) (n := 7114) C hW rfl rfl hi9 dX11_readPerson_48 ?_
        refine lv_iconst (v := 1) hx hb dX11_readPerson_49 (by decide) ?_
        refine lv_iadd hx hb dX11_readPerson_50 ?_
        obtain ⟨hi10, hf⟩ := ck_of hf
        refine r_iast (k := ((1, 0) : Ky)) (n := 7114) C hW rfl (fun _ => rfl) hi10 dX11_readPerson_51 (fun H locs hW => ?_)
        refine lv_aload_n hx hb dX11_readPerson_52 rfl (lv_at hl 1 rfl) ?_
        refine gf_X11_13 C hW dX11_readPerson_53 ?_
        refine lv_bipush (v := 10) hx hb dX11_readPerson_56 (by decide) ?_
        refine lv_dup2_11 hx hb dX11_readPerson_58 rfl rfl ?_
        obtain ⟨hi11, hf⟩ := ck_of hf
        refine r_iald (k := ((1, 0) : Ky)) (n := 7114) C hW rfl rfl hi11 dX11_readPerson_59 ?_
        refine lv_aload_n hx hb dX11_readPerson_60 rfl (lv_at hl 1 rfl) ?_
        obtain ⟨x61, h61, hf⟩ := bd_of hf
        refine r_callV (k := ((0, 0) : Ky)) C hW hl lk_X11_118 (c_X11_values h61) ⟨rfl, rfl⟩ ⟨Nat.le_of_ble_eq_true rfl, Nat.le_of_ble_eq_true rfl⟩ rfl rfl rfl (As := []) (rest := [.int ((mst x32.2 (1, 0) (1 : Int32).toNatClampNeg ((x32.2 (1, 0) (1 : Int32).toNatClampNeg) + (1 : Int32))) (1, 0) (10 : Int32).toNatClampNeg), .int (10 : Int32), .ref (ad 1)]) rfl rfl (Nat.le_of_ble_eq_true rfl) dX11_readPerson_61 ⟨Nat.zero_le _, Nat.zero_le _⟩ (fun H locs hW => ?_)
        show W p l e (rmq 3 65) s m args below meth c H locs 0 0 Q (F0 m 64 ls [.int x61, .int ((mst x32.2 (1, 0) (1 : Int32).toNatClampNeg ((x32.2 (1, 0) (1 : Int32).toNatClampNeg) + (1 : Int32))) (1, 0) (10 : Int32).toNatClampNeg), .int (10 : Int32), .ref (ad 1)])
        refine lv_imul hx hb dX11_readPerson_64 ?_
        obtain ⟨hi13, hf⟩ := ck_of hf
        refine r_iast (k := ((1, 0) : Ky)) (n := 7114) C hW rfl (fun _ => rfl) hi13 dX11_readPerson_65 (fun H locs hW => ?_)
        refine lv_aload_n hx hb dX11_readPerson_66 rfl (lv_at hl 1 rfl) ?_
        refine gf_X11_13 C hW dX11_readPerson_67 ?_
        refine lv_bipush (v := 6) hx hb dX11_readPerson_70 (by decide) ?_
        refine lv_aload_n hx hb dX11_readPerson_72 rfl (lv_at hl 1 rfl) ?_
        refine gf_X11_13 C hW dX11_readPerson_73 ?_
        refine lv_bipush (v := 6) hx hb dX11_readPerson_76 (by decide) ?_
        obtain ⟨hi14, hf⟩ := ck_of hf
        refine r_iald (k := ((1, 0) : Ky)) (n := 7114) C hW rfl rfl hi14 dX11_readPerson_78 ?_
        refine lv_aload_n hx hb dX11_readPerson_79 rfl (lv_at hl 1 rfl) ?_
        obtain ⟨x80, h80, hf⟩ := bd_of hf
        refine r_callV (k := ((0, 0) : Ky)) C hW hl lk_X11_118 (c_X11_values h80) ⟨rfl, rfl⟩ ⟨Nat.le_of_ble_eq_true rfl, Nat.le_of_ble_eq_true rfl⟩ rfl rfl rfl (As := []) (rest := [.int ((mst (mst x32.2 (1, 0) (1 : Int32).toNatClampNeg ((x32.2 (1, 0) (1 : Int32).toNatClampNeg) + (1 : Int32))) (1, 0) (10 : Int32).toNatClampNeg (((mst x32.2 (1, 0) (1 : Int32).toNatClampNeg ((x32.2 (1, 0) (1 : Int32).toNatClampNeg) + (1 : Int32))) (1, 0) (10 : Int32).toNatClampNeg) * x61)) (1, 0) (6 : Int32).toNatClampNeg), .int (6 : Int32), .ref (ad 1)]) rfl rfl (Nat.le_of_ble_eq_true rfl) dX11_readPerson_80 ⟨Nat.zero_le _, Nat.zero_le _⟩ (fun H locs hW => ?_)
        show W p l e (rmq 3 65) s m args below meth c H locs 0 0 Q (F0 m 83 ls [.int x80, .int ((mst (mst x32.2 (1, 0) (1 : Int32).toNatClampNeg ((x32.2 (1, 0) (1 : Int32).toNatClampNeg) + (1 : Int32))) (1, 0) (10 : Int32).toNatClampNeg (((mst x32.2 (1, 0) (1 : Int32).toNatClampNeg ((x32.2 (1, 0) (1 : Int32).toNatClampNeg) + (1 : Int32))) (1, 0) (10 : Int32).toNatClampNeg) * x61)) (1, 0) (6 : Int32).toNatClampNeg), .int (6 : Int32), .ref (ad 1)])
        refine lv_imul hx hb dX11_readPerson_83 ?_
        refine lv_iload_n hx hb dX11_readPerson_84 rfl (lv_at hl 0 rfl) ?_
        refine lv_iadd hx hb dX11_readPerson_85 ?_
        obtain ⟨hi16, hf⟩ := ck_of hf
        refine r_iast (k := ((1, 0) : Ky)) (n := 7114) C hW rfl (fun _ => rfl) hi16 dX11_readPerson_86 (fun H locs hW => ?_)
        refine lv_iconst (v := 0) hx hb dX11_readPerson_87 (by decide) ?_
        refine lv_istore_n (lv' := [(2, .int (0 : Int32)), (1, .int x32.1), (0, .ref (ad 0))]) hx hb dX11_readPerson_88 rfl hl (by decide) rfl (fun ls hl => ?_)
        have L89 : ∀ (μ : Mm) (v2 : Int32) (H : Heap) (locs : List Loc) (ls : Array Slot), Wh (fun z : Mm × Int32 => f_X11_readPerson_L89 z.1 z.2) (μ, v2) = some res → Wd D (faM ad) (feM tc ad) s.heap μ H locs → lv_has ls 3 [(0, .ref (ad 0)), (2, .int v2)] → W p l e (rmq 3 65) s m args below meth c H locs 0 0 Q (F0 m 89 ls []) := by
          intro μ v2 H locs ls hf hW hl
          refine Wh_rule hf (fun z : Mm × Int32 => ∀ (H : Heap) (locs : List Loc) (ls : Array Slot), Wd D (faM ad) (feM tc ad) s.heap z.1 H locs → lv_has ls 3 [(0, .ref (ad 0)), (2, .int z.2)] → W p l e (rmq 3 65) s m args below meth c H locs 0 0 Q (F0 m 89 ls [])) (fun z o1 hf Kl1 Kr1 => ?_) _ _ _ hW hl
          obtain ⟨μ, v2⟩ := z
          intro H locs ls hW hl
          have hf : f_X11_readPerson_L89 μ v2 = some o1 := hf
          unfold f_X11_readPerson_L89 at hf
          have hW : Wd D (faM ad) (feM tc ad) s.heap μ H locs := hW
          have hl : lv_has ls 3 [(0, .ref (ad 0)), (2, .int v2)] := hl
          refine lv_iload_n hx hb dX11_readPerson_89 rfl (lv_at hl 1 rfl) ?_
          refine lv_aload_n hx hb dX11_readPerson_90 rfl (lv_at hl 0 rfl) ?_
          obtain ⟨x91, h91, hf⟩ := bd_of hf
          refine r_callV (k := ((0, 0) : Ky)) C hW hl lk_X11_115 (c_X11_worlds h91) ⟨rfl, rfl⟩ ⟨Nat.le_of_ble_eq_true rfl, Nat.le_of_ble_eq_true rfl⟩ rfl rfl rfl (As := []) (rest := [.int v2]) rfl rfl (Nat.le_of_ble_eq_true rfl) dX11_readPerson_91 ⟨Nat.zero_le _, Nat.zero_le _⟩ (fun H locs hW => ?_)
          show W p l e (rmq 3 65) s m args below meth c H locs 0 0 Q (F0 m 94 ls [.int x91, .int v2])
          refine lv_icmp_ge (tgt := 113) hx hb dX11_readPerson_94 (by decide) (fun c18 => ?_) (fun c18 => ?_)
          · have hf := (if_pos c18).symm.trans hf
            obtain ⟨x9019, hf, hx9019⟩ := map_of hf
            have e9019 := (Kr1 _ hx9019.symm).symm
            subst e9019
            refine lv_iconst (v := 1) hx hb dX11_readPerson_113 (by decide) ?_
            obtain rfl := Option.some.inj hf
            rw [hQ]
            exact r_zret C hr hk hW (Or.inr rfl) rfl rfl dX11_readPerson_114
          · have hf := (if_neg c18).symm.trans hf
            refine lv_aload_n hx hb dX11_readPerson_97 rfl (lv_at hl 0 rfl) ?_
            refine gf_X11_13 C hW dX11_readPerson_98 ?_
            refine lv_bipush (v := 20) hx hb dX11_readPerson_101 (by decide) ?_
            refine lv_iload_n hx hb dX11_readPerson_103 rfl (lv_at hl 1 rfl) ?_
            refine lv_iadd hx hb dX11_readPerson_104 ?_
            refine lv_iconst (v := 1) hx hb dX11_readPerson_105 (by decide) ?_
            obtain ⟨hi20, hf⟩ := ck_of hf
            refine r_iast (k := ((1, 0) : Ky)) (n := 7114) C hW rfl (fun _ => rfl) hi20 dX11_readPerson_106 (fun H locs hW => ?_)
            refine lv_iinc (v := (v2 + (1 : Int32))) (lv' := [(2, .int (v2 + (1 : Int32))), (0, .ref (ad 0))]) hx hb dX11_readPerson_107 hl (k := 1) rfl rfl (by decide) rfl (fun ls hl => ?_)
            refine lv_goto (tgt := 89) hx hb dX11_readPerson_110 (by decide) ?_
            obtain rfl := Option.some.inj hf
            exact Kl1 _ rfl _ _ _ hW (lv_sub hl [1, 0] rfl)
        exact L89 (mst (mst (mst x32.2 (1, 0) (1 : Int32).toNatClampNeg ((x32.2 (1, 0) (1 : Int32).toNatClampNeg) + (1 : Int32))) (1, 0) (10 : Int32).toNatClampNeg (((mst x32.2 (1, 0) (1 : Int32).toNatClampNeg ((x32.2 (1, 0) (1 : Int32).toNatClampNeg) + (1 : Int32))) (1, 0) (10 : Int32).toNatClampNeg) * x61)) (1, 0) (6 : Int32).toNatClampNeg ((((mst (mst x32.2 (1, 0) (1 : Int32).toNatClampNeg ((x32.2 (1, 0) (1 : Int32).toNatClampNeg) + (1 : Int32))) (1, 0) (10 : Int32).toNatClampNeg (((mst x32.2 (1, 0) (1 : Int32).toNatClampNeg ((x32.2 (1, 0) (1 : Int32).toNatClampNeg) + (1 : Int32))) (1, 0) (10 : Int32).toNatClampNeg) * x61)) (1, 0) (6 : Int32).toNatClampNeg) * x80) + x32.1)) (0 : Int32) _ _ _ hf hW (lv_sub hl [2, 0] rfl)
      · have hf := (if_neg c8).symm.trans hf
        refine lv_iconst (v := 0) hx hb dX11_readPerson_40 (by decide) ?_
        obtain rfl := Option.some.inj hf
        rw [hQ]
        exact r_zret C hr hk hW (Or.inl rfl) rfl rfl dX11_readPerson_41
    · have hf := (if_neg c5).symm.trans hf
      refine lv_iconst (v := 0) hx hb dX11_readPerson_22 (by decide) ?_
      obtain rfl := Option.some.inj hf
      rw [hQ]
      exact r_zret C hr hk hW (Or.inl rfl) rfl rfl dX11_readPerson_23
set_option maxHeartbeats 4000000 in
set_option maxRecDepth 100000 in
theorem c_X11_readTwo {l : Launch} {D : va_G} {tc : Nat → ClassId} {ro : Ro} {ad : Nat → Nat} {μ : Mm} {res : Int32 × Mm} (hf : f_X11_readTwo μ = some res) : Ct l D tc ro (faM ad) (feM tc ad) yX11_readTwo cX11_readTwo 1 (some .boolean) (rmq 4 85) [.ref (ad 0)] μ (some (.int res.1)) res.2 := by
  refine Ct.of (by decide) (Nat.le_of_ble_eq_true rfl) (fun p e s m args below meth c C hr hk hW ls hl => ?_)
  have hx := C.1.1
  have hb := C.1.2.1
  obtain ⟨Q, hQ⟩ : ∃ Q, Q = MQ below (Ctq D (faM ad) (feM tc ad) (some (.int res.1)) res.2 s.heap.size) args s 0 0 (AF (faM ad) s.heap.size) := ⟨_, rfl⟩
  rw [← hQ]
  have hl : lv_has ls 1 [(0, .ref (ad 0))] := hl
  unfold f_X11_readTwo at hf
  refine lv_aload_n hx hb dX11_readTwo_0 rfl (lv_at hl 0 rfl) ?_
  refine lv_aload_n hx hb dX11_readTwo_1 rfl (lv_at hl 0 rfl) ?_
  obtain ⟨x2, h2, hf⟩ := bd_of hf
  refine r_callV (k := ((0, 0) : Ky)) C hW hl lk_X11_197 (c_X11_personTold h2) ⟨rfl, rfl⟩ ⟨Nat.le_of_ble_eq_true rfl, Nat.le_of_ble_eq_true rfl⟩ rfl rfl rfl (As := []) (rest := [.ref (ad 0)]) rfl rfl (Nat.le_of_ble_eq_true rfl) dX11_readTwo_2 ⟨Nat.zero_le _, Nat.zero_le _⟩ (fun H locs hW => ?_)
  show W p l e (rmq 4 85) s m args below meth c H locs 0 0 Q (F0 m 5 ls [.int x2.1, .ref (ad 0)])
  refine pf_X11_200 C hW dX11_readTwo_5 (fun H locs hW => ?_)
  refine lv_aload_n hx hb dX11_readTwo_8 rfl (lv_at hl 0 rfl) ?_
  refine gf_X11_200 C hW dX11_readTwo_9 ?_
  refine lv_if_ge (tgt := 17) hx hb dX11_readTwo_12 (by decide) (fun c2 => ?_) (fun c2 => ?_)
  · have hf := (if_pos c2).symm.trans hf
    refine lv_aload_n hx hb dX11_readTwo_17 rfl (lv_at hl 0 rfl) ?_
    refine lv_aload_n hx hb dX11_readTwo_18 rfl (lv_at hl 0 rfl) ?_
    obtain ⟨x19, h19, hf⟩ := bd_of hf
    refine r_callV (k := ((0, 0) : Ky)) C hW hl lk_X11_197 (c_X11_personTold h19) ⟨rfl, rfl⟩ ⟨Nat.le_of_ble_eq_true rfl, Nat.le_of_ble_eq_true rfl⟩ rfl rfl rfl (As := []) (rest := [.ref (ad 0)]) rfl rfl (Nat.le_of_ble_eq_true rfl) dX11_readTwo_19 ⟨Nat.zero_le _, Nat.zero_le _⟩ (fun H locs hW => ?_)
    show W p l e (rmq 4 85) s m args below meth c H locs 0 0 Q (F0 m 22 ls [.int x19.1, .ref (ad 0)])
    refine pf_X11_203 C hW dX11_readTwo_22 (fun H locs hW => ?_)
    refine lv_aload_n hx hb dX11_readTwo_25 rfl (lv_at hl 0 rfl) ?_
    refine gf_X11_203 C hW dX11_readTwo_26 ?_
    refine lv_if_lt (tgt := 47) hx hb dX11_readTwo_29 (by decide) (fun c4 => ?_) (fun c4 => ?_)
    · have hf := (if_pos c4).symm.trans hf
      refine lv_iconst (v := 0) hx hb dX11_readTwo_47 (by decide) ?_
      obtain rfl := Option.some.inj hf
      rw [hQ]
      exact r_zret C hr hk hW (Or.inl rfl) rfl rfl dX11_readTwo_48
    · have hf := (if_neg c4).symm.trans hf
      refine lv_aload_n hx hb dX11_readTwo_32 rfl (lv_at hl 0 rfl) ?_
      refine gf_X11_203 C hW dX11_readTwo_33 ?_
      refine lv_aload_n hx hb dX11_readTwo_36 rfl (lv_at hl 0 rfl) ?_
      refine gf_X11_200 C hW dX11_readTwo_37 ?_
      refine lv_icmp_eq (tgt := 47) hx hb dX11_readTwo_40 (by decide) (fun c5 => ?_) (fun c5 => ?_)
      · have hf := (if_pos c5).symm.trans hf
        refine lv_iconst (v := 0) hx hb dX11_readTwo_47 (by decide) ?_
        obtain rfl := Option.some.inj hf
        rw [hQ]
        exact r_zret C hr hk hW (Or.inl rfl) rfl rfl dX11_readTwo_48
      · have hf := (if_neg c5).symm.trans hf
        refine lv_iconst (v := 1) hx hb dX11_readTwo_43 (by decide) ?_
        refine lv_goto (tgt := 48) hx hb dX11_readTwo_44 (by decide) ?_
        obtain rfl := Option.some.inj hf
        rw [hQ]
        exact r_zret C hr hk hW (Or.inr rfl) rfl rfl dX11_readTwo_48
  · have hf := (if_neg c2).symm.trans hf
    refine lv_iconst (v := 0) hx hb dX11_readTwo_15 (by decide) ?_
    obtain rfl := Option.some.inj hf
    rw [hQ]
    exact r_zret C hr hk hW (Or.inl rfl) rfl rfl dX11_readTwo_16
set_option maxHeartbeats 4000000 in
set_option maxRecDepth 100000 in
theorem c_X11_haveIn {l : Launch} {D : va_G} {tc : Nat → ClassId} {ro : Ro} {ad : Nat → Nat} {μ : Mm} {v1 v2 : Int32} {res : Int32} (hf : f_X11_haveIn μ v1 v2 = some res) : Ct l D tc ro (faM ad) (feM tc ad) yX11_haveIn cX11_haveIn 5 (some .int) (rmq 2 44) [.ref (ad 0), .int v1, .int v2] μ (some (.int res)) μ := by
  refine Ct.of (by decide) (Nat.le_of_ble_eq_true rfl) (fun p e s m args below meth c C hr hk hW ls hl => ?_)
  have hx := C.1.1
  have hb := C.1.2.1
  obtain ⟨Q, hQ⟩ : ∃ Q, Q = MQ below (Ctq D (faM ad) (feM tc ad) (some (.int res)) μ s.heap.size) args s 0 0 (AF (faM ad) s.heap.size) := ⟨_, rfl⟩
  rw [← hQ]
  have hl : lv_has ls 5 [(0, .ref (ad 0)), (1, .int v1), (2, .int v2)] := hl
  unfold f_X11_haveIn at hf
  refine lv_iconst (v := 0) hx hb dX11_haveIn_0 (by decide) ?_
  refine lv_istore_n (lv' := [(3, .int (0 : Int32)), (0, .ref (ad 0)), (1, .int v1), (2, .int v2)]) hx hb dX11_haveIn_1 rfl hl (by decide) rfl (fun ls hl => ?_)
  refine lv_iconst (v := 0) hx hb dX11_haveIn_2 (by decide) ?_
  refine lv_istore (lv' := [(4, .int (0 : Int32)), (3, .int (0 : Int32)), (0, .ref (ad 0)), (1, .int v1), (2, .int v2)]) hx hb dX11_haveIn_3 hl (by decide) rfl (fun ls hl => ?_)
  have L5 : ∀ (v3 v4 : Int32) (H : Heap) (locs : List Loc) (ls : Array Slot), Wh (fun z : Int32 × Int32 => f_X11_haveIn_L5 v1 v2 μ z.1 z.2) (v3, v4) = some res → Wd D (faM ad) (feM tc ad) s.heap μ H locs → lv_has ls 5 [(0, .ref (ad 0)), (1, .int v1), (2, .int v2), (3, .int v3), (4, .int v4)] → W p l e (rmq 2 44) s m args below meth c H locs 0 0 Q (F0 m 5 ls []) := by
    intro v3 v4 H locs ls hf hW hl
    refine Wh_rule hf (fun z : Int32 × Int32 => ∀ (H : Heap) (locs : List Loc) (ls : Array Slot), Wd D (faM ad) (feM tc ad) s.heap μ H locs → lv_has ls 5 [(0, .ref (ad 0)), (1, .int v1), (2, .int v2), (3, .int z.1), (4, .int z.2)] → W p l e (rmq 2 44) s m args below meth c H locs 0 0 Q (F0 m 5 ls [])) (fun z o1 hf Kl1 Kr1 => ?_) _ _ _ hW hl
    obtain ⟨v3, v4⟩ := z
    intro H locs ls hW hl
    have hf : f_X11_haveIn_L5 v1 v2 μ v3 v4 = some o1 := hf
    unfold f_X11_haveIn_L5 at hf
    have hW : Wd D (faM ad) (feM tc ad) s.heap μ H locs := hW
    have hl : lv_has ls 5 [(0, .ref (ad 0)), (1, .int v1), (2, .int v2), (3, .int v3), (4, .int v4)] := hl
    refine lv_iload hx hb dX11_haveIn_5 (lv_at hl 4 rfl) ?_
    refine lv_aload_n hx hb dX11_haveIn_7 rfl (lv_at hl 0 rfl) ?_
    obtain ⟨x8, h8, hf⟩ := bd_of hf
    refine r_callV (k := ((0, 0) : Ky)) C hW hl lk_X11_107 (c_X11_people h8) ⟨rfl, rfl⟩ ⟨Nat.le_of_ble_eq_true rfl, Nat.le_of_ble_eq_true rfl⟩ rfl rfl rfl (As := []) (rest := [.int v4]) rfl rfl (Nat.le_of_ble_eq_true rfl) dX11_haveIn_8 ⟨Nat.zero_le _, Nat.zero_le _⟩ (fun H locs hW => ?_)
    show W p l e (rmq 2 44) s m args below meth c H locs 0 0 Q (F0 m 11 ls [.int x8, .int v4])
    refine lv_icmp_ge (tgt := 39) hx hb dX11_haveIn_11 (by decide) (fun c2 => ?_) (fun c2 => ?_)
    · have hf := (if_pos c2).symm.trans hf
      obtain ⟨x9003, hf, hx9003⟩ := map_of hf
      have e9003 := (Kr1 _ hx9003.symm).symm
      subst e9003
      refine lv_iload_n hx hb dX11_haveIn_39 rfl (lv_at hl 3 rfl) ?_
      obtain rfl := Option.some.inj hf
      rw [hQ]
      exact r_iret C hr hk hW rfl rfl dX11_haveIn_40
    · have hf := (if_neg c2).symm.trans hf
      refine lv_iload_n hx hb dX11_haveIn_14 rfl (lv_at hl 3 rfl) ?_
      refine lv_aload_n hx hb dX11_haveIn_15 rfl (lv_at hl 0 rfl) ?_
      refine lv_iload hx hb dX11_haveIn_16 (lv_at hl 4 rfl) ?_
      refine lv_iload_n hx hb dX11_haveIn_18 rfl (lv_at hl 1 rfl) ?_
      obtain ⟨x19, h19, hf⟩ := bd_of hf
      refine r_callV (k := ((0, 0) : Ky)) C hW hl lk_X11_124 (c_X11_noticeIn h19) ⟨rfl, rfl⟩ ⟨Nat.le_of_ble_eq_true rfl, Nat.le_of_ble_eq_true rfl⟩ rfl rfl rfl (As := [.int v4, .int v1]) (rest := [.int v3]) rfl rfl (Nat.le_of_ble_eq_true rfl) dX11_haveIn_19 ⟨Nat.zero_le _, Nat.zero_le _⟩ (fun H locs hW => ?_)
      show W p l e (rmq 2 44) s m args below meth c H locs 0 0 Q (F0 m 22 ls [.int x19, .int v3])
      refine lv_iload_n hx hb dX11_haveIn_22 rfl (lv_at hl 2 rfl) ?_
      refine lv_icmp_ne (tgt := 30) hx hb dX11_haveIn_23 (by decide) (fun c5 => ?_) (fun c5 => ?_)
      · have hf := (if_neg c5).symm.trans hf
        refine lv_iconst (v := 0) hx hb dX11_haveIn_30 (by decide) ?_
        refine lv_iadd hx hb dX11_haveIn_31 ?_
        refine lv_istore_n (lv' := [(3, .int (v3 + (0 : Int32))), (0, .ref (ad 0)), (1, .int v1), (2, .int v2), (4, .int v4)]) hx hb dX11_haveIn_32 rfl hl (by decide) rfl (fun ls hl => ?_)
        refine lv_iinc (v := (v4 + (1 : Int32))) (lv' := [(4, .int (v4 + (1 : Int32))), (3, .int (v3 + (0 : Int32))), (0, .ref (ad 0)), (1, .int v1), (2, .int v2)]) hx hb dX11_haveIn_33 hl (k := 4) rfl rfl (by decide) rfl (fun ls hl => ?_)
        refine lv_goto (tgt := 5) hx hb dX11_haveIn_36 (by decide) ?_
        obtain rfl := Option.some.inj hf
        exact Kl1 _ rfl _ _ _ hW (lv_sub hl [2, 3, 4, 1, 0] rfl)
      · have hf := (if_pos c5).symm.trans hf
        refine lv_iconst (v := 1) hx hb dX11_haveIn_26 (by decide) ?_
        refine lv_goto (tgt := 31) hx hb dX11_haveIn_27 (by decide) ?_
        refine lv_iadd hx hb dX11_haveIn_31 ?_
        refine lv_istore_n (lv' := [(3, .int (v3 + (1 : Int32))), (0, .ref (ad 0)), (1, .int v1), (2, .int v2), (4, .int v4)]) hx hb dX11_haveIn_32 rfl hl (by decide) rfl (fun ls hl => ?_)
        refine lv_iinc (v := (v4 + (1 : Int32))) (lv' := [(4, .int (v4 + (1 : Int32))), (3, .int (v3 + (1 : Int32))), (0, .ref (ad 0)), (1, .int v1), (2, .int v2)]) hx hb dX11_haveIn_33 hl (k := 4) rfl rfl (by decide) rfl (fun ls hl => ?_)
        refine lv_goto (tgt := 5) hx hb dX11_haveIn_36 (by decide) ?_
        obtain rfl := Option.some.inj hf
        exact Kl1 _ rfl _ _ _ hW (lv_sub hl [2, 3, 4, 1, 0] rfl)
  exact L5 (0 : Int32) (0 : Int32) _ _ _ hf hW (lv_sub hl [2, 3, 4, 1, 0] rfl)
set_option maxHeartbeats 4000000 in
set_option maxRecDepth 100000 in
theorem c_X11_isSo {l : Launch} {D : va_G} {tc : Nat → ClassId} {ro : Ro} {ad : Nat → Nat} {μ : Mm} {v1 : Int32} {res : Int32 × Mm} (hf : f_X11_isSo μ v1 = some res) : Ct l D tc ro (faM ad) (feM tc ad) yX11_isSo cX11_isSo 2 (some .boolean) (rmq 2 41) [.ref (ad 0), .int v1] μ (some (.int res.1)) res.2 := by
  refine Ct.of (by decide) (Nat.le_of_ble_eq_true rfl) (fun p e s m args below meth c C hr hk hW ls hl => ?_)
  have hx := C.1.1
  have hb := C.1.2.1
  obtain ⟨Q, hQ⟩ : ∃ Q, Q = MQ below (Ctq D (faM ad) (feM tc ad) (some (.int res.1)) res.2 s.heap.size) args s 0 0 (AF (faM ad) s.heap.size) := ⟨_, rfl⟩
  rw [← hQ]
  have hl : lv_has ls 2 [(0, .ref (ad 0)), (1, .int v1)] := hl
  unfold f_X11_isSo at hf
  refine lv_aload_n hx hb dX11_isSo_0 rfl (lv_at hl 0 rfl) ?_
  refine gf_X11_33 C hW dX11_isSo_1 ?_
  refine lv_aload_n hx hb dX11_isSo_4 rfl (lv_at hl 0 rfl) ?_
  obtain ⟨x5, h5, hf⟩ := bd_of hf
  refine r_callV (k := ((0, 0) : Ky)) C hW hl lk_X11_121 (c_X11_here h5) ⟨rfl, rfl⟩ ⟨Nat.le_of_ble_eq_true rfl, Nat.le_of_ble_eq_true rfl⟩ rfl rfl rfl (As := []) (rest := [.ref (ad 9)]) rfl rfl (Nat.le_of_ble_eq_true rfl) dX11_isSo_5 ⟨Nat.zero_le _, Nat.zero_le _⟩ (fun H locs hW => ?_)
  show W p l e (rmq 2 41) s m args below meth c H locs 0 0 Q (F0 m 8 ls [.int x5, .ref (ad 9)])
  obtain ⟨hi2, hf⟩ := ck_of hf
  refine r_iald (k := ((9, 0) : Ky)) (n := 512) C hW rfl rfl hi2 dX11_isSo_8 ?_
  refine lv_iconst (v := 1) hx hb dX11_isSo_9 (by decide) ?_
  refine lv_icmp_ne (tgt := 19) hx hb dX11_isSo_10 (by decide) (fun c3 => ?_) (fun c3 => ?_)
  · have hf := (if_neg c3).symm.trans hf
    refine lv_aload_n hx hb dX11_isSo_19 rfl (lv_at hl 0 rfl) ?_
    refine lv_iload_n hx hb dX11_isSo_20 rfl (lv_at hl 1 rfl) ?_
    refine pf_X11_168 C hW dX11_isSo_21 (fun H locs hW => ?_)
    refine lv_iconst (v := 0) hx hb dX11_isSo_24 (by decide) ?_
    obtain rfl := Option.some.inj hf
    rw [hQ]
    exact r_zret C hr hk hW (Or.inl rfl) rfl rfl dX11_isSo_25
  · have hf := (if_pos c3).symm.trans hf
    refine lv_aload_n hx hb dX11_isSo_13 rfl (lv_at hl 0 rfl) ?_
    obtain ⟨x14, h14, hf⟩ := bd_of hf
    refine r_callV (k := ((0, 0) : Ky)) C hW hl lk_X11_206 (c_X11_drops h14) ⟨rfl, rfl⟩ ⟨Nat.le_of_ble_eq_true rfl, Nat.le_of_ble_eq_true rfl⟩ rfl rfl rfl (As := []) (rest := []) rfl rfl (Nat.le_of_ble_eq_true rfl) dX11_isSo_14 ⟨Nat.zero_le _, Nat.zero_le _⟩ (fun H locs hW => ?_)
    show W p l e (rmq 2 41) s m args below meth c H locs 0 0 Q (F0 m 17 ls [])
    refine lv_iconst (v := 1) hx hb dX11_isSo_17 (by decide) ?_
    obtain rfl := Option.some.inj hf
    rw [hQ]
    exact r_zret C hr hk hW (Or.inr rfl) rfl rfl dX11_isSo_18
set_option maxHeartbeats 4000000 in
set_option maxRecDepth 100000 in
theorem c_X11_readAlike {l : Launch} {D : va_G} {tc : Nat → ClassId} {ro : Ro} {ad : Nat → Nat} {μ : Mm} {v1 : Int32} {res : Int32 × Mm} (hf : f_X11_readAlike μ v1 = some res) : Ct l D tc ro (faM ad) (feM tc ad) yX11_readAlike cX11_readAlike 4 (some .boolean) (rmq 5 105) [.ref (ad 0), .int v1] μ (some (.int res.1)) res.2 := by
  refine Ct.of (by decide) (Nat.le_of_ble_eq_true rfl) (fun p e s m args below meth c C hr hk hW ls hl => ?_)
  have hx := C.1.1
  have hb := C.1.2.1
  obtain ⟨Q, hQ⟩ : ∃ Q, Q = MQ below (Ctq D (faM ad) (feM tc ad) (some (.int res.1)) res.2 s.heap.size) args s 0 0 (AF (faM ad) s.heap.size) := ⟨_, rfl⟩
  rw [← hQ]
  have hl : lv_has ls 4 [(0, .ref (ad 0)), (1, .int v1)] := hl
  unfold f_X11_readAlike at hf
  refine lv_aload_n hx hb dX11_readAlike_0 rfl (lv_at hl 0 rfl) ?_
  refine gf_X11_168 C hW dX11_readAlike_1 ?_
  refine lv_istore_n (lv' := [(2, .int (μ (0, 0) 15)), (0, .ref (ad 0)), (1, .int v1)]) hx hb dX11_readAlike_4 rfl hl (by decide) rfl (fun ls hl => ?_)
  refine lv_aload_n hx hb dX11_readAlike_5 rfl (lv_at hl 1 rfl) ?_
  obtain ⟨x6, h6, hf⟩ := bd_of hf
  refine r_callV (k := ((0, 0) : Ky)) C hW hl lk_X11_221 (c_X11_readTwo h6) ⟨rfl, rfl⟩ ⟨Nat.le_of_ble_eq_true rfl, Nat.le_of_ble_eq_true rfl⟩ rfl rfl rfl (As := []) (rest := []) rfl rfl (Nat.le_of_ble_eq_true rfl) dX11_readAlike_6 ⟨Nat.zero_le _, Nat.zero_le _⟩ (fun H locs hW => ?_)
  show W p l e (rmq 5 105) s m args below meth c H locs 0 0 Q (F0 m 9 ls [.int x6.1])
  refine lv_if_ne (tgt := 14) hx hb dX11_readAlike_9 (by decide) (fun c2 => ?_) (fun c2 => ?_)
  · have hf := (if_neg c2).symm.trans hf
    refine lv_iconst (v := 0) hx hb dX11_readAlike_14 (by decide) ?_
    refine lv_istore_n (lv' := [(3, .int (0 : Int32)), (2, .int (μ (0, 0) 15)), (0, .ref (ad 0)), (1, .int v1)]) hx hb dX11_readAlike_15 rfl hl (by decide) rfl (fun ls hl => ?_)
    have L16 : ∀ (μ : Mm) (v2 v3 : Int32) (H : Heap) (locs : List Loc) (ls : Array Slot), Wh (fun z : Mm × Int32 => f_X11_readAlike_L16 v1 v2 z.1 z.2) (μ, v3) = some res → Wd D (faM ad) (feM tc ad) s.heap μ H locs → lv_has ls 4 [(0, .ref (ad 0)), (1, .int v1), (2, .int v2), (3, .int v3)] → W p l e (rmq 5 105) s m args below meth c H locs 0 0 Q (F0 m 16 ls []) := by
      intro μ v2 v3 H locs ls hf hW hl
      refine Wh_rule hf (fun z : Mm × Int32 => ∀ (H : Heap) (locs : List Loc) (ls : Array Slot), Wd D (faM ad) (feM tc ad) s.heap z.1 H locs → lv_has ls 4 [(0, .ref (ad 0)), (1, .int v1), (2, .int v2), (3, .int z.2)] → W p l e (rmq 5 105) s m args below meth c H locs 0 0 Q (F0 m 16 ls [])) (fun z o1 hf Kl1 Kr1 => ?_) _ _ _ hW hl
      obtain ⟨μ, v3⟩ := z
      intro H locs ls hW hl
      have hf : f_X11_readAlike_L16 v1 v2 μ v3 = some o1 := hf
      unfold f_X11_readAlike_L16 at hf
      have hW : Wd D (faM ad) (feM tc ad) s.heap μ H locs := hW
      have hl : lv_has ls 4 [(0, .ref (ad 0)), (1, .int v1), (2, .int v2), (3, .int v3)] := hl
      refine lv_iload_n hx hb dX11_readAlike_16 rfl (lv_at hl 3 rfl) ?_
      refine lv_aload_n hx hb dX11_readAlike_17 rfl (lv_at hl 0 rfl) ?_
      obtain ⟨x18, h18, hf⟩ := bd_of hf
      refine r_callV (k := ((0, 0) : Ky)) C hW hl lk_X11_115 (c_X11_worlds h18) ⟨rfl, rfl⟩ ⟨Nat.le_of_ble_eq_true rfl, Nat.le_of_ble_eq_true rfl⟩ rfl rfl rfl (As := []) (rest := [.int v3]) rfl rfl (Nat.le_of_ble_eq_true rfl) dX11_readAlike_18 ⟨Nat.zero_le _, Nat.zero_le _⟩ (fun H locs hW => ?_)
      show W p l e (rmq 5 105) s m args below meth c H locs 0 0 Q (F0 m 21 ls [.int x18, .int v3])
      refine lv_icmp_ge (tgt := 71) hx hb dX11_readAlike_21 (by decide) (fun c4 => ?_) (fun c4 => ?_)
      · have hf := (if_pos c4).symm.trans hf
        obtain ⟨x9007, hf, hx9007⟩ := map_of hf
        have e9007 := (Kr1 _ hx9007.symm).symm
        subst e9007
        refine lv_aload_n hx hb dX11_readAlike_71 rfl (lv_at hl 0 rfl) ?_
        refine lv_iload_n hx hb dX11_readAlike_72 rfl (lv_at hl 2 rfl) ?_
        obtain ⟨x73, h73, hf⟩ := bd_of hf
        refine r_callV (k := ((0, 0) : Ky)) C hW hl lk_X11_218 (c_X11_isSo h73) ⟨rfl, rfl⟩ ⟨Nat.le_of_ble_eq_true rfl, Nat.le_of_ble_eq_true rfl⟩ rfl rfl rfl (As := [.int v2]) (rest := []) rfl rfl (Nat.le_of_ble_eq_true rfl) dX11_readAlike_73 ⟨Nat.zero_le _, Nat.zero_le _⟩ (fun H locs hW => ?_)
        show W p l e (rmq 5 105) s m args below meth c H locs 0 0 Q (F0 m 76 ls [.int x73.1])
        obtain ⟨hz6, hf⟩ := cb_of hf
        obtain rfl := Option.some.inj hf
        rw [hQ]
        exact r_zret C hr hk hW hz6 rfl rfl dX11_readAlike_76
      · have hf := (if_neg c4).symm.trans hf
        refine lv_aload_n hx hb dX11_readAlike_24 rfl (lv_at hl 0 rfl) ?_
        refine gf_X11_33 C hW dX11_readAlike_25 ?_
        refine lv_iload_n hx hb dX11_readAlike_28 rfl (lv_at hl 3 rfl) ?_
        refine lv_iload_n hx hb dX11_readAlike_29 rfl (lv_at hl 1 rfl) ?_
        refine lv_aload_n hx hb dX11_readAlike_30 rfl (lv_at hl 0 rfl) ?_
        refine lv_aload_n hx hb dX11_readAlike_31 rfl (lv_at hl 0 rfl) ?_
        refine gf_X11_200 C hW dX11_readAlike_32 ?_
        refine lv_iload_n hx hb dX11_readAlike_35 rfl (lv_at hl 3 rfl) ?_
        obtain ⟨x36, h36, hf⟩ := bd_of hf
        refine r_callV (k := ((0, 0) : Ky)) C hW hl lk_X11_124 (c_X11_noticeIn h36) ⟨rfl, rfl⟩ ⟨Nat.le_of_ble_eq_true rfl, Nat.le_of_ble_eq_true rfl⟩ rfl rfl rfl (As := [.int (μ (0, 0) 19), .int v3]) (rest := [.int v1, .int v3, .ref (ad 9)]) rfl rfl (Nat.le_of_ble_eq_true rfl) dX11_readAlike_36 ⟨Nat.zero_le _, Nat.zero_le _⟩ (fun H locs hW => ?_)
        show W p l e (rmq 5 105) s m args below meth c H locs 0 0 Q (F0 m 39 ls [.int x36, .int v1, .int v3, .ref (ad 9)])
        refine lv_aload_n hx hb dX11_readAlike_39 rfl (lv_at hl 0 rfl) ?_
        refine lv_aload_n hx hb dX11_readAlike_40 rfl (lv_at hl 0 rfl) ?_
        refine gf_X11_203 C hW dX11_readAlike_41 ?_
        refine lv_iload_n hx hb dX11_readAlike_44 rfl (lv_at hl 3 rfl) ?_
        obtain ⟨x45, h45, hf⟩ := bd_of hf
        refine r_callV (k := ((0, 0) : Ky)) C hW hl lk_X11_124 (c_X11_noticeIn h45) ⟨rfl, rfl⟩ ⟨Nat.le_of_ble_eq_true rfl, Nat.le_of_ble_eq_true rfl⟩ rfl rfl rfl (As := [.int (μ (0, 0) 20), .int v3]) (rest := [.int x36, .int v1, .int v3, .ref (ad 9)]) rfl rfl (Nat.le_of_ble_eq_true rfl) dX11_readAlike_45 ⟨Nat.zero_le _, Nat.zero_le _⟩ (fun H locs hW => ?_)
        show W p l e (rmq 5 105) s m args below meth c H locs 0 0 Q (F0 m 48 ls [.int x45, .int x36, .int v1, .int v3, .ref (ad 9)])
        refine lv_icmp_ne (tgt := 55) hx hb dX11_readAlike_48 (by decide) (fun c10 => ?_) (fun c10 => ?_)
        · have hf := (if_neg c10).symm.trans hf
          refine lv_iconst (v := 0) hx hb dX11_readAlike_55 (by decide) ?_
          refine lv_icmp_ne (tgt := 63) hx hb dX11_readAlike_56 (by decide) (fun c11 => ?_) (fun c11 => ?_)
          · have hf := (if_neg c11).symm.trans hf
            refine lv_iconst (v := 0) hx hb dX11_readAlike_63 (by decide) ?_
            obtain ⟨hi12, hf⟩ := ck_of hf
            refine r_iast (k := ((9, 0) : Ky)) (n := 512) C hW rfl (fun _ => rfl) hi12 dX11_readAlike_64 (fun H locs hW => ?_)
            refine lv_iinc (v := (v3 + (1 : Int32))) (lv' := [(3, .int (v3 + (1 : Int32))), (0, .ref (ad 0)), (1, .int v1), (2, .int v2)]) hx hb dX11_readAlike_65 hl (k := 3) rfl rfl (by decide) rfl (fun ls hl => ?_)
            refine lv_goto (tgt := 16) hx hb dX11_readAlike_68 (by decide) ?_
            obtain rfl := Option.some.inj hf
            exact Kl1 _ rfl _ _ _ hW (lv_sub hl [1, 2, 3, 0] rfl)
          · have hf := (if_pos c11).symm.trans hf
            refine lv_iconst (v := 1) hx hb dX11_readAlike_59 (by decide) ?_
            refine lv_goto (tgt := 64) hx hb dX11_readAlike_60 (by decide) ?_
            obtain ⟨hi13, hf⟩ := ck_of hf
            refine r_iast (k := ((9, 0) : Ky)) (n := 512) C hW rfl (fun _ => rfl) hi13 dX11_readAlike_64 (fun H locs hW => ?_)
            refine lv_iinc (v := (v3 + (1 : Int32))) (lv' := [(3, .int (v3 + (1 : Int32))), (0, .ref (ad 0)), (1, .int v1), (2, .int v2)]) hx hb dX11_readAlike_65 hl (k := 3) rfl rfl (by decide) rfl (fun ls hl => ?_)
            refine lv_goto (tgt := 16) hx hb dX11_readAlike_68 (by decide) ?_
            obtain rfl := Option.some.inj hf
            exact Kl1 _ rfl _ _ _ hW (lv_sub hl [1, 2, 3, 0] rfl)
        · have hf := (if_pos c10).symm.trans hf
          refine lv_iconst (v := 1) hx hb dX11_readAlike_51 (by decide) ?_
          refine lv_goto (tgt := 56) hx hb dX11_readAlike_52 (by decide) ?_
          refine lv_icmp_ne (tgt := 63) hx hb dX11_readAlike_56 (by decide) (fun c14 => ?_) (fun c14 => ?_)
          · have hf := (if_neg c14).symm.trans hf
            refine lv_iconst (v := 0) hx hb dX11_readAlike_63 (by decide) ?_
            obtain ⟨hi15, hf⟩ := ck_of hf
            refine r_iast (k := ((9, 0) : Ky)) (n := 512) C hW rfl (fun _ => rfl) hi15 dX11_readAlike_64 (fun H locs hW => ?_)
            refine lv_iinc (v := (v3 + (1 : Int32))) (lv' := [(3, .int (v3 + (1 : Int32))), (0, .ref (ad 0)), (1, .int v1), (2, .int v2)]) hx hb dX11_readAlike_65 hl (k := 3) rfl rfl (by decide) rfl (fun ls hl => ?_)
            refine lv_goto (tgt := 16) hx hb dX11_readAlike_68 (by decide) ?_
            obtain rfl := Option.some.inj hf
            exact Kl1 _ rfl _ _ _ hW (lv_sub hl [1, 2, 3, 0] rfl)
          · have hf := (if_pos c14).symm.trans hf
            refine lv_iconst (v := 1) hx hb dX11_readAlike_59 (by decide) ?_
            refine lv_goto (tgt := 64) hx hb dX11_readAlike_60 (by decide) ?_
            obtain ⟨hi16, hf⟩ := ck_of hf
            refine r_iast (k := ((9, 0) : Ky)) (n := 512) C hW rfl (fun _ => rfl) hi16 dX11_readAlike_64 (fun H locs hW => ?_)
            refine lv_iinc (v := (v3 + (1 : Int32))) (lv' := [(3, .int (v3 + (1 : Int32))), (0, .ref (ad 0)), (1, .int v1), (2, .int v2)]) hx hb dX11_readAlike_65 hl (k := 3) rfl rfl (by decide) rfl (fun ls hl => ?_)
            refine lv_goto (tgt := 16) hx hb dX11_readAlike_68 (by decide) ?_
            obtain rfl := Option.some.inj hf
            exact Kl1 _ rfl _ _ _ hW (lv_sub hl [1, 2, 3, 0] rfl)
    exact L16 x6.2 (μ (0, 0) 15) (0 : Int32) _ _ _ hf hW (lv_sub hl [2, 3, 1, 0] rfl)
  · have hf := (if_pos c2).symm.trans hf
    refine lv_iconst (v := 0) hx hb dX11_readAlike_12 (by decide) ?_
    obtain rfl := Option.some.inj hf
    rw [hQ]
    exact r_zret C hr hk hW (Or.inl rfl) rfl rfl dX11_readAlike_13
set_option maxHeartbeats 4000000 in
set_option maxRecDepth 100000 in
theorem c_X11_emits {l : Launch} {D : va_G} {tc : Nat → ClassId} {ro : Ro} {ad : Nat → Nat} {μ : Mm} {v1 v2 : Int32} {res : Mm} (hf : f_X11_emits μ v1 v2 = some res) : Ct l D tc ro (faM ad) (feM tc ad) yX11_emits cX11_emits 3 none (rmq 0 0) [.ref (ad 0), .int v1, .int v2] μ none res := by
  refine Ct.of (by decide) (Nat.le_of_ble_eq_true rfl) (fun p e s m args below meth c C hr hk hW ls hl => ?_)
  have hx := C.1.1
  have hb := C.1.2.1
  obtain ⟨Q, hQ⟩ : ∃ Q, Q = MQ below (Ctq D (faM ad) (feM tc ad) none res s.heap.size) args s 0 0 (AF (faM ad) s.heap.size) := ⟨_, rfl⟩
  rw [← hQ]
  have hl : lv_has ls 3 [(0, .ref (ad 0)), (1, .int v1), (2, .int v2)] := hl
  unfold f_X11_emits at hf
  refine lv_aload_n hx hb dX11_emits_0 rfl (lv_at hl 0 rfl) ?_
  refine gf_X11_13 C hW dX11_emits_1 ?_
  refine lv_sipush (v := 6314) hx hb dX11_emits_4 (by decide) ?_
  refine lv_iconst (v := 2) hx hb dX11_emits_7 (by decide) ?_
  refine lv_aload_n hx hb dX11_emits_8 rfl (lv_at hl 0 rfl) ?_
  refine gf_X11_253 C hW dX11_emits_9 ?_
  refine lv_imul hx hb dX11_emits_12 ?_
  refine lv_iadd hx hb dX11_emits_13 ?_
  refine lv_iload_n hx hb dX11_emits_14 rfl (lv_at hl 1 rfl) ?_
  obtain ⟨hi1, hf⟩ := ck_of hf
  refine r_iast (k := ((1, 0) : Ky)) (n := 7114) C hW rfl (fun _ => rfl) hi1 dX11_emits_15 (fun H locs hW => ?_)
  refine lv_aload_n hx hb dX11_emits_16 rfl (lv_at hl 0 rfl) ?_
  refine gf_X11_13 C hW dX11_emits_17 ?_
  refine lv_sipush (v := 6314) hx hb dX11_emits_20 (by decide) ?_
  refine lv_iconst (v := 2) hx hb dX11_emits_23 (by decide) ?_
  refine lv_aload_n hx hb dX11_emits_24 rfl (lv_at hl 0 rfl) ?_
  refine gf_X11_253 C hW dX11_emits_25 ?_
  refine lv_imul hx hb dX11_emits_28 ?_
  refine lv_iadd hx hb dX11_emits_29 ?_
  refine lv_iconst (v := 1) hx hb dX11_emits_30 (by decide) ?_
  refine lv_iadd hx hb dX11_emits_31 ?_
  refine lv_iload_n hx hb dX11_emits_32 rfl (lv_at hl 2 rfl) ?_
  obtain ⟨hi2, hf⟩ := ck_of hf
  refine r_iast (k := ((1, 0) : Ky)) (n := 7114) C hW rfl (fun _ => rfl) hi2 dX11_emits_33 (fun H locs hW => ?_)
  refine lv_aload_n hx hb dX11_emits_34 rfl (lv_at hl 0 rfl) ?_
  refine lv_dup hx hb dX11_emits_35 rfl ?_
  refine gf_X11_253 C hW dX11_emits_36 ?_
  refine lv_iconst (v := 1) hx hb dX11_emits_39 (by decide) ?_
  refine lv_iadd hx hb dX11_emits_40 ?_
  refine pf_X11_253 C hW dX11_emits_41 (fun H locs hW => ?_)
  obtain rfl := Option.some.inj hf
  rw [hQ]
  exact r_vret C hr hk hW rfl rfl dX11_emits_44
set_option maxHeartbeats 4000000 in
set_option maxRecDepth 100000 in
theorem c_X11_factOf {l : Launch} {D : va_G} {tc : Nat → ClassId} {ro : Ro} {ad : Nat → Nat} {μ : Mm} {v1 v2 v3 v4 v5 v6 : Int32} {res : Int32} (hf : f_X11_factOf μ v1 v2 v3 v4 v5 v6 = some res) : Ct l D tc ro (faM ad) (feM tc ad) yX11_factOf cX11_factOf 7 (some .int) (rmq 2 43) [.ref (ad 0), .int v1, .int v2, .int v3, .int v4, .int v5, .int v6] μ (some (.int res)) μ := by
  refine Ct.of (by decide) (Nat.le_of_ble_eq_true rfl) (fun p e s m args below meth c C hr hk hW ls hl => ?_)
  have hx := C.1.1
  have hb := C.1.2.1
  obtain ⟨Q, hQ⟩ : ∃ Q, Q = MQ below (Ctq D (faM ad) (feM tc ad) (some (.int res)) μ s.heap.size) args s 0 0 (AF (faM ad) s.heap.size) := ⟨_, rfl⟩
  rw [← hQ]
  have hl : lv_has ls 7 [(0, .ref (ad 0)), (1, .int v1), (2, .int v2), (3, .int v3), (4, .int v4), (5, .int v5), (6, .int v6)] := hl
  unfold f_X11_factOf at hf
  refine lv_iload_n hx hb dX11_factOf_0 rfl (lv_at hl 1 rfl) ?_
  by_cases c2 : v1 = (0 : Int32)
  · have hf := (if_pos c2).symm.trans hf
    refine lv_tableIn (off := 39) (tgt := 40) hx hb dX11_factOf_1 (by rw [c2]; decide) (by rw [c2]; decide) (by rw [c2]; rfl) (by decide) ?_
    refine lv_iload hx hb dX11_factOf_40 (lv_at hl 5 rfl) ?_
    obtain rfl := Option.some.inj hf
    rw [hQ]
    exact r_iret C hr hk hW rfl rfl dX11_factOf_42
  · have hf := (if_neg c2).symm.trans hf
    have n2 := lv_neT c2 (a := 0) (by decide)
    by_cases c3 : v1 = (1 : Int32)
    · have hf := (if_pos c3).symm.trans hf
      refine lv_tableIn (off := 42) (tgt := 43) hx hb dX11_factOf_1 (by rw [c3]; decide) (by rw [c3]; decide) (by rw [c3]; rfl) (by decide) ?_
      refine lv_iload_n hx hb dX11_factOf_43 rfl (lv_at hl 3 rfl) ?_
      obtain rfl := Option.some.inj hf
      rw [hQ]
      exact r_iret C hr hk hW rfl rfl dX11_factOf_44
    · have hf := (if_neg c3).symm.trans hf
      have n3 := lv_neT c3 (a := 1) (by decide)
      by_cases c4 : v1 = (2 : Int32)
      · have hf := (if_pos c4).symm.trans hf
        refine lv_tableIn (off := 44) (tgt := 45) hx hb dX11_factOf_1 (by rw [c4]; decide) (by rw [c4]; decide) (by rw [c4]; rfl) (by decide) ?_
        refine lv_iload hx hb dX11_factOf_45 (lv_at hl 4 rfl) ?_
        obtain rfl := Option.some.inj hf
        rw [hQ]
        exact r_iret C hr hk hW rfl rfl dX11_factOf_47
      · have hf := (if_neg c4).symm.trans hf
        have n4 := lv_neT c4 (a := 2) (by decide)
        by_cases c5 : v1 = (3 : Int32)
        · have hf := (if_pos c5).symm.trans hf
          refine lv_tableIn (off := 47) (tgt := 48) hx hb dX11_factOf_1 (by rw [c5]; decide) (by rw [c5]; decide) (by rw [c5]; rfl) (by decide) ?_
          refine lv_aload_n hx hb dX11_factOf_48 rfl (lv_at hl 0 rfl) ?_
          refine gf_X11_13 C hW dX11_factOf_49 ?_
          refine lv_iconst (v := 4) hx hb dX11_factOf_52 (by decide) ?_
          obtain ⟨hi6, hf⟩ := ck_of hf
          refine r_iald (k := ((1, 0) : Ky)) (n := 7114) C hW rfl rfl hi6 dX11_factOf_53 ?_
          obtain rfl := Option.some.inj hf
          rw [hQ]
          exact r_iret C hr hk hW rfl rfl dX11_factOf_54
        · have hf := (if_neg c5).symm.trans hf
          have n5 := lv_neT c5 (a := 3) (by decide)
          by_cases c7 : v1 = (4 : Int32)
          · have hf := (if_pos c7).symm.trans hf
            refine lv_tableIn (off := 54) (tgt := 55) hx hb dX11_factOf_1 (by rw [c7]; decide) (by rw [c7]; decide) (by rw [c7]; rfl) (by decide) ?_
            refine lv_iload hx hb dX11_factOf_55 (lv_at hl 6 rfl) ?_
            refine lv_if_eq (tgt := 64) hx hb dX11_factOf_57 (by decide) (fun c8 => ?_) (fun c8 => ?_)
            · have hf := (if_pos c8).symm.trans hf
              refine lv_iconst (v := 0) hx hb dX11_factOf_64 (by decide) ?_
              obtain rfl := Option.some.inj hf
              rw [hQ]
              exact r_iret C hr hk hW rfl rfl dX11_factOf_65
            · have hf := (if_neg c8).symm.trans hf
              refine lv_iconst (v := 1) hx hb dX11_factOf_60 (by decide) ?_
              refine lv_goto (tgt := 65) hx hb dX11_factOf_61 (by decide) ?_
              obtain rfl := Option.some.inj hf
              rw [hQ]
              exact r_iret C hr hk hW rfl rfl dX11_factOf_65
          · have hf := (if_neg c7).symm.trans hf
            have n7 := lv_neT c7 (a := 4) (by decide)
            by_cases c9 : v1 = (5 : Int32)
            · have hf := (if_pos c9).symm.trans hf
              refine lv_tableIn (off := 65) (tgt := 66) hx hb dX11_factOf_1 (by rw [c9]; decide) (by rw [c9]; decide) (by rw [c9]; rfl) (by decide) ?_
              refine lv_aload_n hx hb dX11_factOf_66 rfl (lv_at hl 0 rfl) ?_
              refine lv_iload hx hb dX11_factOf_67 (lv_at hl 4 rfl) ?_
              refine lv_iload_n hx hb dX11_factOf_69 rfl (lv_at hl 3 rfl) ?_
              obtain ⟨x70, h70, hf⟩ := bd_of hf
              refine r_callV (k := ((0, 0) : Ky)) C hW hl lk_X11_325 (c_X11_isSeeing h70) ⟨rfl, rfl⟩ ⟨Nat.le_of_ble_eq_true rfl, Nat.le_of_ble_eq_true rfl⟩ rfl rfl rfl (As := [.int v4, .int v3]) (rest := []) rfl rfl (Nat.le_of_ble_eq_true rfl) dX11_factOf_70 ⟨Nat.zero_le _, Nat.zero_le _⟩ (fun H locs hW => ?_)
              show W p l e (rmq 2 43) s m args below meth c H locs 0 0 Q (F0 m 73 ls [.int x70])
              refine lv_if_eq (tgt := 80) hx hb dX11_factOf_73 (by decide) (fun c11 => ?_) (fun c11 => ?_)
              · have hf := (if_pos c11).symm.trans hf
                refine lv_iconst (v := 0) hx hb dX11_factOf_80 (by decide) ?_
                obtain rfl := Option.some.inj hf
                rw [hQ]
                exact r_iret C hr hk hW rfl rfl dX11_factOf_81
              · have hf := (if_neg c11).symm.trans hf
                refine lv_iconst (v := 1) hx hb dX11_factOf_76 (by decide) ?_
                refine lv_goto (tgt := 81) hx hb dX11_factOf_77 (by decide) ?_
                obtain rfl := Option.some.inj hf
                rw [hQ]
                exact r_iret C hr hk hW rfl rfl dX11_factOf_81
            · have hf := (if_neg c9).symm.trans hf
              have n9 := lv_neT c9 (a := 5) (by decide)
              refine lv_tableOut (tgt := 82) hx hb dX11_factOf_1 (by omega) (by decide) ?_
              refine lv_iload_n hx hb dX11_factOf_82 rfl (lv_at hl 2 rfl) ?_
              obtain rfl := Option.some.inj hf
              rw [hQ]
              exact r_iret C hr hk hW rfl rfl dX11_factOf_83
set_option maxHeartbeats 4000000 in
set_option maxRecDepth 100000 in
theorem c_X11_holdsLine {l : Launch} {D : va_G} {tc : Nat → ClassId} {ro : Ro} {ad : Nat → Nat} {μ : Mm} {v1 v2 v3 v4 v5 : Int32} {res : Int32 × Mm} (hf : f_X11_holdsLine μ v1 v2 v3 v4 v5 = some res) : Ct l D tc ro (faM ad) (feM tc ad) yX11_holdsLine cX11_holdsLine 13 (some .boolean) (rmq 3 69) [.ref (ad 0), .int v1, .int v2, .int v3, .int v4, .int v5] μ (some (.int res.1)) res.2 := by
  refine Ct.of (by decide) (Nat.le_of_ble_eq_true rfl) (fun p e s m args below meth c C hr hk hW ls hl => ?_)
  have hx := C.1.1
  have hb := C.1.2.1
  obtain ⟨Q, hQ⟩ : ∃ Q, Q = MQ below (Ctq D (faM ad) (feM tc ad) (some (.int res.1)) res.2 s.heap.size) args s 0 0 (AF (faM ad) s.heap.size) := ⟨_, rfl⟩
  rw [← hQ]
  have hl : lv_has ls 13 [(0, .ref (ad 0)), (1, .int v1), (2, .int v2), (3, .int v3), (4, .int v4), (5, .int v5)] := hl
  unfold f_X11_holdsLine at hf
  refine lv_iconst (v := 0) hx hb dX11_holdsLine_0 (by decide) ?_
  refine lv_istore (lv' := [(6, .int (0 : Int32)), (0, .ref (ad 0)), (1, .int v1), (2, .int v2), (3, .int v3), (4, .int v4), (5, .int v5)]) hx hb dX11_holdsLine_1 hl (by decide) rfl (fun ls hl => ?_)
  refine lv_sipush (v := 5441) hx hb dX11_holdsLine_3 (by decide) ?_
  refine lv_iconst (v := 3) hx hb dX11_holdsLine_6 (by decide) ?_
  refine lv_iload_n hx hb dX11_holdsLine_7 rfl (lv_at hl 2 rfl) ?_
  refine lv_imul hx hb dX11_holdsLine_8 ?_
  refine lv_iadd hx hb dX11_holdsLine_9 ?_
  refine lv_istore (lv' := [(7, .int ((5441 : Int32) + ((3 : Int32) * v1))), (6, .int (0 : Int32)), (0, .ref (ad 0)), (1, .int v1), (2, .int v2), (3, .int v3), (4, .int v4), (5, .int v5)]) hx hb dX11_holdsLine_10 hl (by decide) rfl (fun ls hl => ?_)
  refine lv_aload_n hx hb dX11_holdsLine_12 rfl (lv_at hl 2 rfl) ?_
  refine gf_X11_13 C hW dX11_holdsLine_13 ?_
  refine lv_iload hx hb dX11_holdsLine_16 (lv_at hl 0 rfl) ?_
  refine lv_iconst (v := 1) hx hb dX11_holdsLine_18 (by decide) ?_
  refine lv_iadd hx hb dX11_holdsLine_19 ?_
  obtain ⟨hi1, hf⟩ := ck_of hf
  refine r_iald (k := ((1, 0) : Ky)) (n := 7114) C hW rfl rfl hi1 dX11_holdsLine_20 ?_
  refine lv_istore (lv' := [(8, .int (μ (1, 0) (((5441 : Int32) + ((3 : Int32) * v1)) + (1 : Int32)).toNatClampNeg)), (7, .int ((5441 : Int32) + ((3 : Int32) * v1))), (6, .int (0 : Int32)), (0, .ref (ad 0)), (1, .int v1), (2, .int v2), (3, .int v3), (4, .int v4), (5, .int v5)]) hx hb dX11_holdsLine_21 hl (by decide) rfl (fun ls hl => ?_)
  have L23 : ∀ (μ : Mm) (v6 v7 v8 : Int32) (H : Heap) (locs : List Loc) (ls : Array Slot), Wh (fun z : Mm × Int32 × Int32 => f_X11_holdsLine_L23 v2 v3 v4 v5 v7 z.1 z.2.1 z.2.2) (μ, v6, v8) = some res → Wd D (faM ad) (feM tc ad) s.heap μ H locs → lv_has ls 13 [(0, .ref (ad 0)), (2, .int v2), (3, .int v3), (4, .int v4), (5, .int v5), (6, .int v6), (7, .int v7), (8, .int v8)] → W p l e (rmq 3 69) s m args below meth c H locs 0 0 Q (F0 m 23 ls []) := by
    intro μ v6 v7 v8 H locs ls hf hW hl
    refine Wh_rule hf (fun z : Mm × Int32 × Int32 => ∀ (H : Heap) (locs : List Loc) (ls : Array Slot), Wd D (faM ad) (feM tc ad) s.heap z.1 H locs → lv_has ls 13 [(0, .ref (ad 0)), (2, .int v2), (3, .int v3), (4, .int v4), (5, .int v5), (6, .int z.2.1), (7, .int v7), (8, .int z.2.2)] → W p l e (rmq 3 69) s m args below meth c H locs 0 0 Q (F0 m 23 ls [])) (fun z o1 hf Kl1 Kr1 => ?_) _ _ _ hW hl
    obtain ⟨μ, v6, v8⟩ := z
    intro H locs ls hW hl
    have hf : f_X11_holdsLine_L23 v2 v3 v4 v5 v7 μ v6 v8 = some o1 := hf
    unfold f_X11_holdsLine_L23 at hf
    have hW : Wd D (faM ad) (feM tc ad) s.heap μ H locs := hW
    have hl : lv_has ls 13 [(0, .ref (ad 0)), (2, .int v2), (3, .int v3), (4, .int v4), (5, .int v5), (6, .int v6), (7, .int v7), (8, .int v8)] := hl
    have J233 : ∀ (μ : Mm) (v6 v8 v9 v10 v11 s0 : Int32) (H : Heap) (locs : List Loc) (ls : Array Slot), f_X11_holdsLine_J233 μ v2 v3 v4 v5 v6 v7 v8 v9 v10 v11 s0 = some o1 → Wd D (faM ad) (feM tc ad) s.heap μ H locs → lv_has ls 13 [(0, .ref (ad 0)), (2, .int v2), (3, .int v3), (4, .int v4), (5, .int v5), (6, .int v6), (7, .int v7), (8, .int v8), (9, .int v9), (10, .int v10), (11, .int v11)] → W p l e (rmq 3 69) s m args below meth c H locs 0 0 Q (F0 m 233 ls [.int s0]) := by
      intro μ v6 v8 v9 v10 v11 s0 H locs ls hf hW hl
      unfold f_X11_holdsLine_J233 at hf
      refine lv_istore (lv' := [(12, .int s0), (0, .ref (ad 0)), (2, .int v2), (3, .int v3), (4, .int v4), (5, .int v5), (6, .int v6), (7, .int v7), (8, .int v8), (9, .int v9), (10, .int v10), (11, .int v11)]) hx hb dX11_holdsLine_233 hl (by decide) rfl (fun ls hl => ?_)
      refine lv_aload_n hx hb dX11_holdsLine_235 rfl (lv_at hl 1 rfl) ?_
      refine gf_X11_49 C hW dX11_holdsLine_236 ?_
      refine lv_iload hx hb dX11_holdsLine_239 (lv_at hl 6 rfl) ?_
      refine lv_iconst (v := 1) hx hb dX11_holdsLine_241 (by decide) ?_
      refine lv_isub hx hb dX11_holdsLine_242 ?_
      refine lv_iload hx hb dX11_holdsLine_243 (lv_at hl 9 rfl) ?_
      refine lv_bipush (v := 7) hx hb dX11_holdsLine_245 (by decide) ?_
      refine lv_icmp_ne (tgt := 258) hx hb dX11_holdsLine_247 (by decide) (fun c2 => ?_) (fun c2 => ?_)
      · have hf := (if_neg c2).symm.trans hf
        refine lv_iload hx hb dX11_holdsLine_258 (lv_at hl 0 rfl) ?_
        refine lv_if_eq (tgt := 267) hx hb dX11_holdsLine_260 (by decide) (fun c3 => ?_) (fun c3 => ?_)
        · have hf := (if_pos c3).symm.trans hf
          refine lv_iconst (v := 0) hx hb dX11_holdsLine_267 (by decide) ?_
          obtain ⟨hi4, hf⟩ := ck_of hf
          refine r_iast (k := ((22, 0) : Ky)) (n := 400) C hW rfl (fun _ => rfl) hi4 dX11_holdsLine_268 (fun H locs hW => ?_)
          refine lv_iinc (v := (v8 + (1 : Int32))) (lv' := [(8, .int (v8 + (1 : Int32))), (12, .int s0), (0, .ref (ad 0)), (2, .int v2), (3, .int v3), (4, .int v4), (5, .int v5), (6, .int v6), (7, .int v7), (9, .int v9), (10, .int v10), (11, .int v11)]) hx hb dX11_holdsLine_269 hl (k := 8) rfl rfl (by decide) rfl (fun ls hl => ?_)
          refine lv_goto (tgt := 23) hx hb dX11_holdsLine_272 (by decide) ?_
          obtain rfl := Option.some.inj hf
          exact Kl1 _ rfl _ _ _ hW (lv_sub hl [2, 3, 4, 5, 6, 7, 8, 0] rfl)
        · have hf := (if_neg c3).symm.trans hf
          refine lv_iconst (v := 1) hx hb dX11_holdsLine_263 (by decide) ?_
          refine lv_goto (tgt := 268) hx hb dX11_holdsLine_264 (by decide) ?_
          obtain ⟨hi5, hf⟩ := ck_of hf
          refine r_iast (k := ((22, 0) : Ky)) (n := 400) C hW rfl (fun _ => rfl) hi5 dX11_holdsLine_268 (fun H locs hW => ?_)
          refine lv_iinc (v := (v8 + (1 : Int32))) (lv' := [(8, .int (v8 + (1 : Int32))), (12, .int s0), (0, .ref (ad 0)), (2, .int v2), (3, .int v3), (4, .int v4), (5, .int v5), (6, .int v6), (7, .int v7), (9, .int v9), (10, .int v10), (11, .int v11)]) hx hb dX11_holdsLine_269 hl (k := 8) rfl rfl (by decide) rfl (fun ls hl => ?_)
          refine lv_goto (tgt := 23) hx hb dX11_holdsLine_272 (by decide) ?_
          obtain rfl := Option.some.inj hf
          exact Kl1 _ rfl _ _ _ hW (lv_sub hl [2, 3, 4, 5, 6, 7, 8, 0] rfl)
      · have hf := (if_pos c2).symm.trans hf
        refine lv_iload hx hb dX11_holdsLine_250 (lv_at hl 10 rfl) ?_
        refine lv_iload hx hb dX11_holdsLine_252 (lv_at hl 11 rfl) ?_
        refine lv_iadd hx hb dX11_holdsLine_254 ?_
        refine lv_goto (tgt := 268) hx hb dX11_holdsLine_255 (by decide) ?_
        obtain ⟨hi6, hf⟩ := ck_of hf
        refine r_iast (k := ((22, 0) : Ky)) (n := 400) C hW rfl (fun _ => rfl) hi6 dX11_holdsLine_268 (fun H locs hW => ?_)
        refine lv_iinc (v := (v8 + (1 : Int32))) (lv' := [(8, .int (v8 + (1 : Int32))), (12, .int s0), (0, .ref (ad 0)), (2, .int v2), (3, .int v3), (4, .int v4), (5, .int v5), (6, .int v6), (7, .int v7), (9, .int v9), (10, .int v10), (11, .int v11)]) hx hb dX11_holdsLine_269 hl (k := 8) rfl rfl (by decide) rfl (fun ls hl => ?_)
        refine lv_goto (tgt := 23) hx hb dX11_holdsLine_272 (by decide) ?_
        obtain rfl := Option.some.inj hf
        exact Kl1 _ rfl _ _ _ hW (lv_sub hl [2, 3, 4, 5, 6, 7, 8, 0] rfl)
    refine lv_iload hx hb dX11_holdsLine_23 (lv_at hl 7 rfl) ?_
    refine lv_aload_n hx hb dX11_holdsLine_25 rfl (lv_at hl 0 rfl) ?_
    refine gf_X11_13 C hW dX11_holdsLine_26 ?_
    refine lv_iload hx hb dX11_holdsLine_29 (lv_at hl 6 rfl) ?_
    refine lv_iconst (v := 2) hx hb dX11_holdsLine_31 (by decide) ?_
    refine lv_iadd hx hb dX11_holdsLine_32 ?_
    obtain ⟨hi7, hf⟩ := ck_of hf
    refine r_iald (k := ((1, 0) : Ky)) (n := 7114) C hW rfl rfl hi7 dX11_holdsLine_33 ?_
    refine lv_icmp_ge (tgt := 275) hx hb dX11_holdsLine_34 (by decide) (fun c8 => ?_) (fun c8 => ?_)
    · have hf := (if_pos c8).symm.trans hf
      obtain ⟨x9012, hf, hx9012⟩ := map_of hf
      have e9012 := (Kr1 _ hx9012.symm).symm
      subst e9012
      refine lv_iload hx hb dX11_holdsLine_275 (lv_at hl 5 rfl) ?_
      refine lv_if_eq (tgt := 290) hx hb dX11_holdsLine_277 (by decide) (fun c9 => ?_) (fun c9 => ?_)
      · have hf := (if_pos c9).symm.trans hf
        refine lv_iconst (v := 1) hx hb dX11_holdsLine_290 (by decide) ?_
        refine lv_goto (tgt := 295) hx hb dX11_holdsLine_291 (by decide) ?_
        obtain rfl := Option.some.inj hf
        rw [hQ]
        exact r_zret C hr hk hW (Or.inr rfl) rfl rfl dX11_holdsLine_295
      · have hf := (if_neg c9).symm.trans hf
        refine lv_aload_n hx hb dX11_holdsLine_280 rfl (lv_at hl 0 rfl) ?_
        refine gf_X11_49 C hW dX11_holdsLine_281 ?_
        refine lv_iconst (v := 0) hx hb dX11_holdsLine_284 (by decide) ?_
        obtain ⟨hi10, hf⟩ := ck_of hf
        refine r_iald (k := ((22, 0) : Ky)) (n := 400) C hW rfl rfl hi10 dX11_holdsLine_285 ?_
        refine lv_iconst (v := 1) hx hb dX11_holdsLine_286 (by decide) ?_
        refine lv_icmp_ne (tgt := 294) hx hb dX11_holdsLine_287 (by decide) (fun c11 => ?_) (fun c11 => ?_)
        · have hf := (if_neg c11).symm.trans hf
          refine lv_iconst (v := 0) hx hb dX11_holdsLine_294 (by decide) ?_
          obtain rfl := Option.some.inj hf
          rw [hQ]
          exact r_zret C hr hk hW (Or.inl rfl) rfl rfl dX11_holdsLine_295
        · have hf := (if_pos c11).symm.trans hf
          refine lv_iconst (v := 1) hx hb dX11_holdsLine_290 (by decide) ?_
          refine lv_goto (tgt := 295) hx hb dX11_holdsLine_291 (by decide) ?_
          obtain rfl := Option.some.inj hf
          rw [hQ]
          exact r_zret C hr hk hW (Or.inr rfl) rfl rfl dX11_holdsLine_295
    · have hf := (if_neg c8).symm.trans hf
      refine lv_aload_n hx hb dX11_holdsLine_37 rfl (lv_at hl 0 rfl) ?_
      refine gf_X11_13 C hW dX11_holdsLine_38 ?_
      refine lv_sipush (v := 5477) hx hb dX11_holdsLine_41 (by decide) ?_
      refine lv_iconst (v := 2) hx hb dX11_holdsLine_44 (by decide) ?_
      refine lv_iload hx hb dX11_holdsLine_45 (lv_at hl 7 rfl) ?_
      refine lv_imul hx hb dX11_holdsLine_47 ?_
      refine lv_iadd hx hb dX11_holdsLine_48 ?_
      obtain ⟨hi13, hf⟩ := ck_of hf
      refine r_iald (k := ((1, 0) : Ky)) (n := 7114) C hW rfl rfl hi13 dX11_holdsLine_49 ?_
      refine lv_istore (lv' := [(9, .int (μ (1, 0) ((5477 : Int32) + ((2 : Int32) * v8)).toNatClampNeg)), (0, .ref (ad 0)), (2, .int v2), (3, .int v3), (4, .int v4), (5, .int v5), (6, .int v6), (7, .int v7), (8, .int v8)]) hx hb dX11_holdsLine_50 hl (by decide) rfl (fun ls hl => ?_)
      refine lv_iload hx hb dX11_holdsLine_52 (lv_at hl 0 rfl) ?_
      refine lv_bipush (v := 6) hx hb dX11_holdsLine_54 (by decide) ?_
      refine lv_icmp_gt (tgt := 99) hx hb dX11_holdsLine_56 (by decide) (fun c14 => ?_) (fun c14 => ?_)
      · have hf := (if_pos c14).symm.trans hf
        refine lv_iload hx hb dX11_holdsLine_99 (lv_at hl 0 rfl) ?_
        refine lv_bipush (v := 10) hx hb dX11_holdsLine_101 (by decide) ?_
        refine lv_icmp_ne (tgt := 129) hx hb dX11_holdsLine_103 (by decide) (fun c15 => ?_) (fun c15 => ?_)
        · have hf := (if_neg c15).symm.trans hf
          refine lv_iinc (v := (v6 + (-1 : Int32))) (lv' := [(6, .int (v6 + (-1 : Int32))), (9, .int (μ (1, 0) ((5477 : Int32) + ((2 : Int32) * v8)).toNatClampNeg)), (0, .ref (ad 0)), (2, .int v2), (3, .int v3), (4, .int v4), (5, .int v5), (7, .int v7), (8, .int v8)]) hx hb dX11_holdsLine_129 hl (k := 6) rfl rfl (by decide) rfl (fun ls hl => ?_)
          refine lv_aload_n hx hb dX11_holdsLine_132 rfl (lv_at hl 2 rfl) ?_
          refine gf_X11_49 C hW dX11_holdsLine_133 ?_
          refine lv_iload hx hb dX11_holdsLine_136 (lv_at hl 0 rfl) ?_
          refine lv_iconst (v := 1) hx hb dX11_holdsLine_138 (by decide) ?_
          refine lv_isub hx hb dX11_holdsLine_139 ?_
          obtain ⟨hi16, hf⟩ := ck_of hf
          refine r_iald (k := ((22, 0) : Ky)) (n := 400) C hW rfl rfl hi16 dX11_holdsLine_140 ?_
          refine lv_istore (lv' := [(10, .int (μ (22, 0) ((v6 + (-1 : Int32)) - (1 : Int32)).toNatClampNeg)), (6, .int (v6 + (-1 : Int32))), (9, .int (μ (1, 0) ((5477 : Int32) + ((2 : Int32) * v8)).toNatClampNeg)), (0, .ref (ad 0)), (2, .int v2), (3, .int v3), (4, .int v4), (5, .int v5), (7, .int v7), (8, .int v8)]) hx hb dX11_holdsLine_141 hl (by decide) rfl (fun ls hl => ?_)
          refine lv_aload_n hx hb dX11_holdsLine_143 rfl (lv_at hl 3 rfl) ?_
          refine gf_X11_49 C hW dX11_holdsLine_144 ?_
          refine lv_iload hx hb dX11_holdsLine_147 (lv_at hl 1 rfl) ?_
          obtain ⟨hi17, hf⟩ := ck_of hf
          refine r_iald (k := ((22, 0) : Ky)) (n := 400) C hW rfl rfl hi17 dX11_holdsLine_149 ?_
          refine lv_istore (lv' := [(11, .int (μ (22, 0) (v6 + (-1 : Int32)).toNatClampNeg)), (10, .int (μ (22, 0) ((v6 + (-1 : Int32)) - (1 : Int32)).toNatClampNeg)), (6, .int (v6 + (-1 : Int32))), (9, .int (μ (1, 0) ((5477 : Int32) + ((2 : Int32) * v8)).toNatClampNeg)), (0, .ref (ad 0)), (2, .int v2), (3, .int v3), (4, .int v4), (5, .int v5), (7, .int v7), (8, .int v8)]) hx hb dX11_holdsLine_150 hl (by decide) rfl (fun ls hl => ?_)
          refine lv_iload hx hb dX11_holdsLine_152 (lv_at hl 3 rfl) ?_
          refine lv_bipush (v := 8) hx hb dX11_holdsLine_154 (by decide) ?_
          refine lv_icmp_ne (tgt := 174) hx hb dX11_holdsLine_156 (by decide) (fun c18 => ?_) (fun c18 => ?_)
          · have hf := (if_neg c18).symm.trans hf
            refine lv_iload hx hb dX11_holdsLine_174 (lv_at hl 3 rfl) ?_
            refine lv_bipush (v := 9) hx hb dX11_holdsLine_176 (by decide) ?_
            refine lv_icmp_ne (tgt := 196) hx hb dX11_holdsLine_178 (by decide) (fun c19 => ?_) (fun c19 => ?_)
            · have hf := (if_neg c19).symm.trans hf
              refine lv_iload hx hb dX11_holdsLine_196 (lv_at hl 3 rfl) ?_
              refine lv_bipush (v := 11) hx hb dX11_holdsLine_198 (by decide) ?_
              refine lv_icmp_ne (tgt := 220) hx hb dX11_holdsLine_200 (by decide) (fun c20 => ?_) (fun c20 => ?_)
              · have hf := (if_neg c20).symm.trans hf
                refine lv_iload hx hb dX11_holdsLine_220 (lv_at hl 1 rfl) ?_
                refine lv_iload hx hb dX11_holdsLine_222 (lv_at hl 0 rfl) ?_
                refine lv_iadd hx hb dX11_holdsLine_224 ?_
                refine lv_if_le (tgt := 232) hx hb dX11_holdsLine_225 (by decide) (fun c21 => ?_) (fun c21 => ?_)
                · have hf := (if_pos c21).symm.trans hf
                  refine lv_iconst (v := 0) hx hb dX11_holdsLine_232 (by decide) ?_
                  exact J233 μ (v6 + (-1 : Int32)) v8 (μ (1, 0) ((5477 : Int32) + ((2 : Int32) * v8)).toNatClampNeg) (μ (22, 0) ((v6 + (-1 : Int32)) - (1 : Int32)).toNatClampNeg) (μ (22, 0) (v6 + (-1 : Int32)).toNatClampNeg) (0 : Int32) _ _ _ hf hW (lv_sub hl [4, 5, 6, 7, 8, 2, 9, 10, 3, 1, 0] rfl)
                · have hf := (if_neg c21).symm.trans hf
                  refine lv_iconst (v := 1) hx hb dX11_holdsLine_228 (by decide) ?_
                  refine lv_goto (tgt := 233) hx hb dX11_holdsLine_229 (by decide) ?_
                  exact J233 μ (v6 + (-1 : Int32)) v8 (μ (1, 0) ((5477 : Int32) + ((2 : Int32) * v8)).toNatClampNeg) (μ (22, 0) ((v6 + (-1 : Int32)) - (1 : Int32)).toNatClampNeg) (μ (22, 0) (v6 + (-1 : Int32)).toNatClampNeg) (1 : Int32) _ _ _ hf hW (lv_sub hl [4, 5, 6, 7, 8, 2, 9, 10, 3, 1, 0] rfl)
              · have hf := (if_pos c20).symm.trans hf
                refine lv_iload hx hb dX11_holdsLine_203 (lv_at hl 1 rfl) ?_
                refine lv_iload hx hb dX11_holdsLine_205 (lv_at hl 0 rfl) ?_
                refine lv_iadd hx hb dX11_holdsLine_207 ?_
                refine lv_iconst (v := 2) hx hb dX11_holdsLine_208 (by decide) ?_
                refine lv_icmp_ne (tgt := 216) hx hb dX11_holdsLine_209 (by decide) (fun c22 => ?_) (fun c22 => ?_)
                · have hf := (if_neg c22).symm.trans hf
                  refine lv_iconst (v := 0) hx hb dX11_holdsLine_216 (by decide) ?_
                  refine lv_goto (tgt := 233) hx hb dX11_holdsLine_217 (by decide) ?_
                  exact J233 μ (v6 + (-1 : Int32)) v8 (μ (1, 0) ((5477 : Int32) + ((2 : Int32) * v8)).toNatClampNeg) (μ (22, 0) ((v6 + (-1 : Int32)) - (1 : Int32)).toNatClampNeg) (μ (22, 0) (v6 + (-1 : Int32)).toNatClampNeg) (0 : Int32) _ _ _ hf hW (lv_sub hl [4, 5, 6, 7, 8, 2, 9, 10, 3, 1, 0] rfl)
                · have hf := (if_pos c22).symm.trans hf
                  refine lv_iconst (v := 1) hx hb dX11_holdsLine_212 (by decide) ?_
                  refine lv_goto (tgt := 233) hx hb dX11_holdsLine_213 (by decide) ?_
                  exact J233 μ (v6 + (-1 : Int32)) v8 (μ (1, 0) ((5477 : Int32) + ((2 : Int32) * v8)).toNatClampNeg) (μ (22, 0) ((v6 + (-1 : Int32)) - (1 : Int32)).toNatClampNeg) (μ (22, 0) (v6 + (-1 : Int32)).toNatClampNeg) (1 : Int32) _ _ _ hf hW (lv_sub hl [4, 5, 6, 7, 8, 2, 9, 10, 3, 1, 0] rfl)
            · have hf := (if_pos c19).symm.trans hf
              refine lv_iload hx hb dX11_holdsLine_181 (lv_at hl 1 rfl) ?_
              refine lv_iload hx hb dX11_holdsLine_183 (lv_at hl 0 rfl) ?_
              refine lv_icmp_le (tgt := 192) hx hb dX11_holdsLine_185 (by decide) (fun c23 => ?_) (fun c23 => ?_)
              · have hf := (if_pos c23).symm.trans hf
                refine lv_iconst (v := 0) hx hb dX11_holdsLine_192 (by decide) ?_
                refine lv_goto (tgt := 233) hx hb dX11_holdsLine_193 (by decide) ?_
                exact J233 μ (v6 + (-1 : Int32)) v8 (μ (1, 0) ((5477 : Int32) + ((2 : Int32) * v8)).toNatClampNeg) (μ (22, 0) ((v6 + (-1 : Int32)) - (1 : Int32)).toNatClampNeg) (μ (22, 0) (v6 + (-1 : Int32)).toNatClampNeg) (0 : Int32) _ _ _ hf hW (lv_sub hl [4, 5, 6, 7, 8, 2, 9, 10, 3, 1, 0] rfl)
              · have hf := (if_neg c23).symm.trans hf
                refine lv_iconst (v := 1) hx hb dX11_holdsLine_188 (by decide) ?_
                refine lv_goto (tgt := 233) hx hb dX11_holdsLine_189 (by decide) ?_
                exact J233 μ (v6 + (-1 : Int32)) v8 (μ (1, 0) ((5477 : Int32) + ((2 : Int32) * v8)).toNatClampNeg) (μ (22, 0) ((v6 + (-1 : Int32)) - (1 : Int32)).toNatClampNeg) (μ (22, 0) (v6 + (-1 : Int32)).toNatClampNeg) (1 : Int32) _ _ _ hf hW (lv_sub hl [4, 5, 6, 7, 8, 2, 9, 10, 3, 1, 0] rfl)
          · have hf := (if_pos c18).symm.trans hf
            refine lv_iload hx hb dX11_holdsLine_159 (lv_at hl 1 rfl) ?_
            refine lv_iload hx hb dX11_holdsLine_161 (lv_at hl 0 rfl) ?_
            refine lv_icmp_ge (tgt := 170) hx hb dX11_holdsLine_163 (by decide) (fun c24 => ?_) (fun c24 => ?_)
            · have hf := (if_pos c24).symm.trans hf
              refine lv_iconst (v := 0) hx hb dX11_holdsLine_170 (by decide) ?_
              refine lv_goto (tgt := 233) hx hb dX11_holdsLine_171 (by decide) ?_
              exact J233 μ (v6 + (-1 : Int32)) v8 (μ (1, 0) ((5477 : Int32) + ((2 : Int32) * v8)).toNatClampNeg) (μ (22, 0) ((v6 + (-1 : Int32)) - (1 : Int32)).toNatClampNeg) (μ (22, 0) (v6 + (-1 : Int32)).toNatClampNeg) (0 : Int32) _ _ _ hf hW (lv_sub hl [4, 5, 6, 7, 8, 2, 9, 10, 3, 1, 0] rfl)
            · have hf := (if_neg c24).symm.trans hf
              refine lv_iconst (v := 1) hx hb dX11_holdsLine_166 (by decide) ?_
              refine lv_goto (tgt := 233) hx hb dX11_holdsLine_167 (by decide) ?_
              exact J233 μ (v6 + (-1 : Int32)) v8 (μ (1, 0) ((5477 : Int32) + ((2 : Int32) * v8)).toNatClampNeg) (μ (22, 0) ((v6 + (-1 : Int32)) - (1 : Int32)).toNatClampNeg) (μ (22, 0) (v6 + (-1 : Int32)).toNatClampNeg) (1 : Int32) _ _ _ hf hW (lv_sub hl [4, 5, 6, 7, 8, 2, 9, 10, 3, 1, 0] rfl)
        · have hf := (if_pos c15).symm.trans hf
          refine lv_aload_n hx hb dX11_holdsLine_106 rfl (lv_at hl 1 rfl) ?_
          refine gf_X11_49 C hW dX11_holdsLine_107 ?_
          refine lv_iload hx hb dX11_holdsLine_110 (lv_at hl 6 rfl) ?_
          refine lv_iconst (v := 1) hx hb dX11_holdsLine_112 (by decide) ?_
          refine lv_isub hx hb dX11_holdsLine_113 ?_
          refine lv_iconst (v := 1) hx hb dX11_holdsLine_114 (by decide) ?_
          refine lv_aload_n hx hb dX11_holdsLine_115 rfl (lv_at hl 1 rfl) ?_
          refine gf_X11_49 C hW dX11_holdsLine_116 ?_
          refine lv_iload hx hb dX11_holdsLine_119 (lv_at hl 6 rfl) ?_
          refine lv_iconst (v := 1) hx hb dX11_holdsLine_121 (by decide) ?_
          refine lv_isub hx hb dX11_holdsLine_122 ?_
          obtain ⟨hi25, hf⟩ := ck_of hf
          refine r_iald (k := ((22, 0) : Ky)) (n := 400) C hW rfl rfl hi25 dX11_holdsLine_123 ?_
          refine lv_isub hx hb dX11_holdsLine_124 ?_
          obtain ⟨hi26, hf⟩ := ck_of hf
          refine r_iast (k := ((22, 0) : Ky)) (n := 400) C hW rfl (fun _ => rfl) hi26 dX11_holdsLine_125 (fun H locs hW => ?_)
          refine lv_goto (tgt := 269) hx hb dX11_holdsLine_126 (by decide) ?_
          refine lv_iinc (v := (v8 + (1 : Int32))) (lv' := [(8, .int (v8 + (1 : Int32))), (9, .int (μ (1, 0) ((5477 : Int32) + ((2 : Int32) * v8)).toNatClampNeg)), (0, .ref (ad 0)), (2, .int v2), (3, .int v3), (4, .int v4), (5, .int v5), (6, .int v6), (7, .int v7)]) hx hb dX11_holdsLine_269 hl (k := 8) rfl rfl (by decide) rfl (fun ls hl => ?_)
          refine lv_goto (tgt := 23) hx hb dX11_holdsLine_272 (by decide) ?_
          obtain rfl := Option.some.inj hf
          exact Kl1 _ rfl _ _ _ hW (lv_sub hl [2, 3, 4, 5, 6, 7, 8, 0] rfl)
      · have hf := (if_neg c14).symm.trans hf
        refine lv_aload_n hx hb dX11_holdsLine_59 rfl (lv_at hl 1 rfl) ?_
        refine gf_X11_49 C hW dX11_holdsLine_60 ?_
        refine lv_iload hx hb dX11_holdsLine_63 (lv_at hl 6 rfl) ?_
        refine lv_aload_n hx hb dX11_holdsLine_65 rfl (lv_at hl 1 rfl) ?_
        refine lv_iload hx hb dX11_holdsLine_66 (lv_at hl 0 rfl) ?_
        refine lv_aload_n hx hb dX11_holdsLine_68 rfl (lv_at hl 1 rfl) ?_
        refine gf_X11_13 C hW dX11_holdsLine_69 ?_
        refine lv_sipush (v := 5477) hx hb dX11_holdsLine_72 (by decide) ?_
        refine lv_iconst (v := 2) hx hb dX11_holdsLine_75 (by decide) ?_
        refine lv_iload hx hb dX11_holdsLine_76 (lv_at hl 8 rfl) ?_
        refine lv_imul hx hb dX11_holdsLine_78 ?_
        refine lv_iadd hx hb dX11_holdsLine_79 ?_
        refine lv_iconst (v := 1) hx hb dX11_holdsLine_80 (by decide) ?_
        refine lv_iadd hx hb dX11_holdsLine_81 ?_
        obtain ⟨hi27, hf⟩ := ck_of hf
        refine r_iald (k := ((1, 0) : Ky)) (n := 7114) C hW rfl rfl hi27 dX11_holdsLine_82 ?_
        refine lv_iload_n hx hb dX11_holdsLine_83 rfl (lv_at hl 2 rfl) ?_
        refine lv_iload_n hx hb dX11_holdsLine_84 rfl (lv_at hl 3 rfl) ?_
        refine lv_iload hx hb dX11_holdsLine_85 (lv_at hl 4 rfl) ?_
        refine lv_iload hx hb dX11_holdsLine_87 (lv_at hl 5 rfl) ?_
        obtain ⟨x89, h89, hf⟩ := bd_of hf
        refine r_callV (k := ((0, 0) : Ky)) C hW hl lk_X11_328 (c_X11_factOf h89) ⟨rfl, rfl⟩ ⟨Nat.le_of_ble_eq_true rfl, Nat.le_of_ble_eq_true rfl⟩ rfl rfl rfl (As := [.int (μ (1, 0) ((5477 : Int32) + ((2 : Int32) * v8)).toNatClampNeg), .int (μ (1, 0) (((5477 : Int32) + ((2 : Int32) * v8)) + (1 : Int32)).toNatClampNeg), .int v2, .int v3, .int v4, .int v5]) (rest := [.int v6, .ref (ad 22)]) rfl rfl (Nat.le_of_ble_eq_true rfl) dX11_holdsLine_89 ⟨Nat.zero_le _, Nat.zero_le _⟩ (fun H locs hW => ?_)
        show W p l e (rmq 3 69) s m args below meth c H locs 0 0 Q (F0 m 92 ls [.int x89, .int v6, .ref (ad 22)])
        obtain ⟨hi29, hf⟩ := ck_of hf
        refine r_iast (k := ((22, 0) : Ky)) (n := 400) C hW rfl (fun _ => rfl) hi29 dX11_holdsLine_92 (fun H locs hW => ?_)
        refine lv_iinc (v := (v6 + (1 : Int32))) (lv' := [(6, .int (v6 + (1 : Int32))), (9, .int (μ (1, 0) ((5477 : Int32) + ((2 : Int32) * v8)).toNatClampNeg)), (0, .ref (ad 0)), (2, .int v2), (3, .int v3), (4, .int v4), (5, .int v5), (7, .int v7), (8, .int v8)]) hx hb dX11_holdsLine_93 hl (k := 6) rfl rfl (by decide) rfl (fun ls hl => ?_)
        refine lv_goto (tgt := 269) hx hb dX11_holdsLine_96 (by decide) ?_
        refine lv_iinc (v := (v8 + (1 : Int32))) (lv' := [(8, .int (v8 + (1 : Int32))), (6, .int (v6 + (1 : Int32))), (9, .int (μ (1, 0) ((5477 : Int32) + ((2 : Int32) * v8)).toNatClampNeg)), (0, .ref (ad 0)), (2, .int v2), (3, .int v3), (4, .int v4), (5, .int v5), (7, .int v7)]) hx hb dX11_holdsLine_269 hl (k := 8) rfl rfl (by decide) rfl (fun ls hl => ?_)
        refine lv_goto (tgt := 23) hx hb dX11_holdsLine_272 (by decide) ?_
        obtain rfl := Option.some.inj hf
        exact Kl1 _ rfl _ _ _ hW (lv_sub hl [3, 4, 5, 6, 7, 1, 8, 0] rfl)
  exact L23 μ (0 : Int32) ((5441 : Int32) + ((3 : Int32) * v1)) (μ (1, 0) (((5441 : Int32) + ((3 : Int32) * v1)) + (1 : Int32)).toNatClampNeg) _ _ _ hf hW (lv_sub hl [3, 5, 6, 7, 8, 2, 1, 0] rfl)
set_option maxHeartbeats 4000000 in
set_option maxRecDepth 100000 in
theorem c_X11_mannerBy {l : Launch} {D : va_G} {tc : Nat → ClassId} {ro : Ro} {ad : Nat → Nat} {μ : Mm} {v1 v2 v3 v4 : Int32} {res : Int32 × Mm} (hf : f_X11_mannerBy μ v1 v2 v3 v4 = some res) : Ct l D tc ro (faM ad) (feM tc ad) yX11_mannerBy cX11_mannerBy 7 (some .int) (rmq 4 101) [.ref (ad 0), .int v1, .int v2, .int v3, .int v4] μ (some (.int res.1)) res.2 := by
  refine Ct.of (by decide) (Nat.le_of_ble_eq_true rfl) (fun p e s m args below meth c C hr hk hW ls hl => ?_)
  have hx := C.1.1
  have hb := C.1.2.1
  obtain ⟨Q, hQ⟩ : ∃ Q, Q = MQ below (Ctq D (faM ad) (feM tc ad) (some (.int res.1)) res.2 s.heap.size) args s 0 0 (AF (faM ad) s.heap.size) := ⟨_, rfl⟩
  rw [← hQ]
  have hl : lv_has ls 7 [(0, .ref (ad 0)), (1, .int v1), (2, .int v2), (3, .int v3), (4, .int v4)] := hl
  unfold f_X11_mannerBy at hf
  refine lv_iconst (v := 0) hx hb dX11_mannerBy_0 (by decide) ?_
  refine lv_istore (lv' := [(5, .int (0 : Int32)), (0, .ref (ad 0)), (1, .int v1), (2, .int v2), (3, .int v3), (4, .int v4)]) hx hb dX11_mannerBy_1 hl (by decide) rfl (fun ls hl => ?_)
  refine lv_iconst (v := 0) hx hb dX11_mannerBy_3 (by decide) ?_
  refine lv_istore (lv' := [(6, .int (0 : Int32)), (5, .int (0 : Int32)), (0, .ref (ad 0)), (1, .int v1), (2, .int v2), (3, .int v3), (4, .int v4)]) hx hb dX11_mannerBy_4 hl (by decide) rfl (fun ls hl => ?_)
  have L6 : ∀ (μ : Mm) (v5 v6 : Int32) (H : Heap) (locs : List Loc) (ls : Array Slot), Wh (fun z : Mm × Int32 × Int32 => f_X11_mannerBy_L6 v1 v2 v3 v4 z.1 z.2.1 z.2.2) (μ, v5, v6) = some res → Wd D (faM ad) (feM tc ad) s.heap μ H locs → lv_has ls 7 [(0, .ref (ad 0)), (1, .int v1), (2, .int v2), (3, .int v3), (4, .int v4), (5, .int v5), (6, .int v6)] → W p l e (rmq 4 101) s m args below meth c H locs 0 0 Q (F0 m 6 ls []) := by
    intro μ v5 v6 H locs ls hf hW hl
    refine Wh_rule hf (fun z : Mm × Int32 × Int32 => ∀ (H : Heap) (locs : List Loc) (ls : Array Slot), Wd D (faM ad) (feM tc ad) s.heap z.1 H locs → lv_has ls 7 [(0, .ref (ad 0)), (1, .int v1), (2, .int v2), (3, .int v3), (4, .int v4), (5, .int z.2.1), (6, .int z.2.2)] → W p l e (rmq 4 101) s m args below meth c H locs 0 0 Q (F0 m 6 ls [])) (fun z o1 hf Kl1 Kr1 => ?_) _ _ _ hW hl
    obtain ⟨μ, v5, v6⟩ := z
    intro H locs ls hW hl
    have hf : f_X11_mannerBy_L6 v1 v2 v3 v4 μ v5 v6 = some o1 := hf
    unfold f_X11_mannerBy_L6 at hf
    have hW : Wd D (faM ad) (feM tc ad) s.heap μ H locs := hW
    have hl : lv_has ls 7 [(0, .ref (ad 0)), (1, .int v1), (2, .int v2), (3, .int v3), (4, .int v4), (5, .int v5), (6, .int v6)] := hl
    refine lv_aload_n hx hb dX11_mannerBy_6 rfl (lv_at hl 0 rfl) ?_
    refine gf_X11_13 C hW dX11_mannerBy_7 ?_
    refine lv_iconst (v := 3) hx hb dX11_mannerBy_10 (by decide) ?_
    obtain ⟨hi1, hf⟩ := ck_of hf
    refine r_iald (k := ((1, 0) : Ky)) (n := 7114) C hW rfl rfl hi1 dX11_mannerBy_11 ?_
    refine lv_iconst (v := 1) hx hb dX11_mannerBy_12 (by decide) ?_
    refine lv_icmp_ne (tgt := 71) hx hb dX11_mannerBy_13 (by decide) (fun c2 => ?_) (fun c2 => ?_)
    · have hf := (if_neg c2).symm.trans hf
      obtain ⟨x9003, hf, hx9003⟩ := map_of hf
      have e9003 := (Kr1 _ hx9003.symm).symm
      subst e9003
      refine lv_iload hx hb dX11_mannerBy_71 (lv_at hl 5 rfl) ?_
      obtain rfl := Option.some.inj hf
      rw [hQ]
      exact r_iret C hr hk hW rfl rfl dX11_mannerBy_73
    · have hf := (if_pos c2).symm.trans hf
      refine lv_iload hx hb dX11_mannerBy_16 (lv_at hl 6 rfl) ?_
      refine lv_aload_n hx hb dX11_mannerBy_18 rfl (lv_at hl 0 rfl) ?_
      refine gf_X11_13 C hW dX11_mannerBy_19 ?_
      refine lv_sipush (v := 5440) hx hb dX11_mannerBy_22 (by decide) ?_
      obtain ⟨hi4, hf⟩ := ck_of hf
      refine r_iald (k := ((1, 0) : Ky)) (n := 7114) C hW rfl rfl hi4 dX11_mannerBy_25 ?_
      refine lv_icmp_ge (tgt := 71) hx hb dX11_mannerBy_26 (by decide) (fun c5 => ?_) (fun c5 => ?_)
      · have hf := (if_pos c5).symm.trans hf
        obtain ⟨x9006, hf, hx9006⟩ := map_of hf
        have e9006 := (Kr1 _ hx9006.symm).symm
        subst e9006
        refine lv_iload hx hb dX11_mannerBy_71 (lv_at hl 5 rfl) ?_
        obtain rfl := Option.some.inj hf
        rw [hQ]
        exact r_iret C hr hk hW rfl rfl dX11_mannerBy_73
      · have hf := (if_neg c5).symm.trans hf
        refine lv_iload hx hb dX11_mannerBy_29 (lv_at hl 5 rfl) ?_
        refine lv_aload_n hx hb dX11_mannerBy_31 rfl (lv_at hl 0 rfl) ?_
        refine lv_iload hx hb dX11_mannerBy_32 (lv_at hl 6 rfl) ?_
        refine lv_iload_n hx hb dX11_mannerBy_34 rfl (lv_at hl 1 rfl) ?_
        refine lv_iload_n hx hb dX11_mannerBy_35 rfl (lv_at hl 2 rfl) ?_
        refine lv_iload_n hx hb dX11_mannerBy_36 rfl (lv_at hl 3 rfl) ?_
        refine lv_iload hx hb dX11_mannerBy_37 (lv_at hl 4 rfl) ?_
        obtain ⟨x39, h39, hf⟩ := bd_of hf
        refine r_callV (k := ((0, 0) : Ky)) C hW hl lk_X11_332 (c_X11_holdsLine h39) ⟨rfl, rfl⟩ ⟨Nat.le_of_ble_eq_true rfl, Nat.le_of_ble_eq_true rfl⟩ rfl rfl rfl (As := [.int v6, .int v1, .int v2, .int v3, .int v4]) (rest := [.int v5]) rfl rfl (Nat.le_of_ble_eq_true rfl) dX11_mannerBy_39 ⟨Nat.zero_le _, Nat.zero_le _⟩ (fun H locs hW => ?_)
        show W p l e (rmq 4 101) s m args below meth c H locs 0 0 Q (F0 m 42 ls [.int x39.1, .int v5])
        refine lv_if_eq (tgt := 61) hx hb dX11_mannerBy_42 (by decide) (fun c8 => ?_) (fun c8 => ?_)
        · have hf := (if_pos c8).symm.trans hf
          refine lv_iconst (v := 0) hx hb dX11_mannerBy_61 (by decide) ?_
          refine lv_iadd hx hb dX11_mannerBy_62 ?_
          refine lv_istore (lv' := [(5, .int (v5 + (0 : Int32))), (0, .ref (ad 0)), (1, .int v1), (2, .int v2), (3, .int v3), (4, .int v4), (6, .int v6)]) hx hb dX11_mannerBy_63 hl (by decide) rfl (fun ls hl => ?_)
          refine lv_iinc (v := (v6 + (1 : Int32))) (lv' := [(6, .int (v6 + (1 : Int32))), (5, .int (v5 + (0 : Int32))), (0, .ref (ad 0)), (1, .int v1), (2, .int v2), (3, .int v3), (4, .int v4)]) hx hb dX11_mannerBy_65 hl (k := 6) rfl rfl (by decide) rfl (fun ls hl => ?_)
          refine lv_goto (tgt := 6) hx hb dX11_mannerBy_68 (by decide) ?_
          obtain rfl := Option.some.inj hf
          exact Kl1 _ rfl _ _ _ hW (lv_sub hl [2, 3, 4, 5, 6, 1, 0] rfl)
        · have hf := (if_neg c8).symm.trans hf
          refine lv_aload_n hx hb dX11_mannerBy_45 rfl (lv_at hl 0 rfl) ?_
          refine gf_X11_13 C hW dX11_mannerBy_46 ?_
          refine lv_sipush (v := 5441) hx hb dX11_mannerBy_49 (by decide) ?_
          refine lv_iconst (v := 3) hx hb dX11_mannerBy_52 (by decide) ?_
          refine lv_iload hx hb dX11_mannerBy_53 (lv_at hl 6 rfl) ?_
          refine lv_imul hx hb dX11_mannerBy_55 ?_
          refine lv_iadd hx hb dX11_mannerBy_56 ?_
          obtain ⟨hi9, hf⟩ := ck_of hf
          refine r_iald (k := ((1, 0) : Ky)) (n := 7114) C hW rfl rfl hi9 dX11_mannerBy_57 ?_
          refine lv_goto (tgt := 62) hx hb dX11_mannerBy_58 (by decide) ?_
          refine lv_iadd hx hb dX11_mannerBy_62 ?_
          refine lv_istore (lv' := [(5, .int (v5 + (x39.2 (1, 0) ((5441 : Int32) + ((3 : Int32) * v6)).toNatClampNeg))), (0, .ref (ad 0)), (1, .int v1), (2, .int v2), (3, .int v3), (4, .int v4), (6, .int v6)]) hx hb dX11_mannerBy_63 hl (by decide) rfl (fun ls hl => ?_)
          refine lv_iinc (v := (v6 + (1 : Int32))) (lv' := [(6, .int (v6 + (1 : Int32))), (5, .int (v5 + (x39.2 (1, 0) ((5441 : Int32) + ((3 : Int32) * v6)).toNatClampNeg))), (0, .ref (ad 0)), (1, .int v1), (2, .int v2), (3, .int v3), (4, .int v4)]) hx hb dX11_mannerBy_65 hl (k := 6) rfl rfl (by decide) rfl (fun ls hl => ?_)
          refine lv_goto (tgt := 6) hx hb dX11_mannerBy_68 (by decide) ?_
          obtain rfl := Option.some.inj hf
          exact Kl1 _ rfl _ _ _ hW (lv_sub hl [2, 3, 4, 5, 6, 1, 0] rfl)
  exact L6 μ (0 : Int32) (0 : Int32) _ _ _ hf hW (lv_sub hl [2, 3, 4, 5, 6, 1, 0] rfl)
set_option maxHeartbeats 4000000 in
set_option maxRecDepth 100000 in
theorem c_X11_mannersCome {l : Launch} {D : va_G} {tc : Nat → ClassId} {ro : Ro} {ad : Nat → Nat} {μ : Mm} {v1 v2 : Int32} {res : Mm} (hf : f_X11_mannersCome μ v1 v2 = some res) : Ct l D tc ro (faM ad) (feM tc ad) yX11_mannersCome cX11_mannersCome 4 none (rmq 5 127) [.ref (ad 0), .int v1, .int v2] μ none res := by
  refine Ct.of (by decide) (Nat.le_of_ble_eq_true rfl) (fun p e s m args below meth c C hr hk hW ls hl => ?_)
  have hx := C.1.1
  have hb := C.1.2.1
  obtain ⟨Q, hQ⟩ : ∃ Q, Q = MQ below (Ctq D (faM ad) (feM tc ad) none res s.heap.size) args s 0 0 (AF (faM ad) s.heap.size) := ⟨_, rfl⟩
  rw [← hQ]
  have hl : lv_has ls 4 [(0, .ref (ad 0)), (1, .int v1), (2, .int v2)] := hl
  unfold f_X11_mannersCome at hf
  refine lv_iconst (v := 0) hx hb dX11_mannersCome_0 (by decide) ?_
  refine lv_istore_n (lv' := [(3, .int (0 : Int32)), (0, .ref (ad 0)), (1, .int v1), (2, .int v2)]) hx hb dX11_mannersCome_1 rfl hl (by decide) rfl (fun ls hl => ?_)
  have L2 : ∀ (μ : Mm) (v3 : Int32) (H : Heap) (locs : List Loc) (ls : Array Slot), Wh (fun z : Mm × Int32 => f_X11_mannersCome_L2 v1 v2 z.1 z.2) (μ, v3) = some res → Wd D (faM ad) (feM tc ad) s.heap μ H locs → lv_has ls 4 [(0, .ref (ad 0)), (1, .int v1), (2, .int v2), (3, .int v3)] → W p l e (rmq 5 127) s m args below meth c H locs 0 0 Q (F0 m 2 ls []) := by
    intro μ v3 H locs ls hf hW hl
    refine Wh_rule hf (fun z : Mm × Int32 => ∀ (H : Heap) (locs : List Loc) (ls : Array Slot), Wd D (faM ad) (feM tc ad) s.heap z.1 H locs → lv_has ls 4 [(0, .ref (ad 0)), (1, .int v1), (2, .int v2), (3, .int z.2)] → W p l e (rmq 5 127) s m args below meth c H locs 0 0 Q (F0 m 2 ls [])) (fun z o1 hf Kl1 Kr1 => ?_) _ _ _ hW hl
    obtain ⟨μ, v3⟩ := z
    intro H locs ls hW hl
    have hf : f_X11_mannersCome_L2 v1 v2 μ v3 = some o1 := hf
    unfold f_X11_mannersCome_L2 at hf
    have hW : Wd D (faM ad) (feM tc ad) s.heap μ H locs := hW
    have hl : lv_has ls 4 [(0, .ref (ad 0)), (1, .int v1), (2, .int v2), (3, .int v3)] := hl
    have J35 : ∀ (μ : Mm) (v3 s0 s1 s2 s3 s5 : Int32) (H : Heap) (locs : List Loc) (ls : Array Slot), f_X11_mannersCome_J35 μ v1 v2 v3 s0 s1 s2 s3 s5 = some o1 → Wd D (faM ad) (feM tc ad) s.heap μ H locs → lv_has ls 4 [(0, .ref (ad 0)), (1, .int v1), (2, .int v2), (3, .int v3)] → W p l e (rmq 5 127) s m args below meth c H locs 0 0 Q (F0 m 35 ls [.int s0, .int s1, .int s2, .int s3, .ref (ad 0), .int s5, .ref (ad 23)]) := by
      intro μ v3 s0 s1 s2 s3 s5 H locs ls hf hW hl
      unfold f_X11_mannersCome_J35 at hf
      obtain ⟨x35, h35, hf⟩ := bd_of hf
      refine r_callV (k := ((0, 0) : Ky)) C hW hl lk_X11_336 (c_X11_mannerBy h35) ⟨rfl, rfl⟩ ⟨Nat.le_of_ble_eq_true rfl, Nat.le_of_ble_eq_true rfl⟩ rfl rfl rfl (As := [.int s3, .int s2, .int s1, .int s0]) (rest := [.int s5, .ref (ad 23)]) rfl rfl (Nat.le_of_ble_eq_true rfl) dX11_mannersCome_35 ⟨Nat.zero_le _, Nat.zero_le _⟩ (fun H locs hW => ?_)
      show W p l e (rmq 5 127) s m args below meth c H locs 0 0 Q (F0 m 38 ls [.int x35.1, .int s5, .ref (ad 23)])
      obtain ⟨hi2, hf⟩ := ck_of hf
      refine r_iast (k := ((23, 0) : Ky)) (n := 8) C hW rfl (fun _ => rfl) hi2 dX11_mannersCome_38 (fun H locs hW => ?_)
      refine lv_aload_n hx hb dX11_mannersCome_39 rfl (lv_at hl 0 rfl) ?_
      refine gf_X11_55 C hW dX11_mannersCome_40 ?_
      refine lv_iload_n hx hb dX11_mannersCome_43 rfl (lv_at hl 3 rfl) ?_
      refine lv_iconst (v := 0) hx hb dX11_mannersCome_44 (by decide) ?_
      obtain ⟨hi3, hf⟩ := ck_of hf
      refine r_iast (k := ((24, 0) : Ky)) (n := 8) C hW rfl (fun _ => rfl) hi3 dX11_mannersCome_45 (fun H locs hW => ?_)
      have L46 : ∀ (μ : Mm) (v3 : Int32) (H : Heap) (locs : List Loc) (ls : Array Slot), Wh (fun z : Mm => f_X11_mannersCome_L46 v1 v2 v3 z) (μ) = some o1 → Wd D (faM ad) (feM tc ad) s.heap μ H locs → lv_has ls 4 [(0, .ref (ad 0)), (1, .int v1), (2, .int v2), (3, .int v3)] → W p l e (rmq 5 127) s m args below meth c H locs 0 0 Q (F0 m 46 ls []) := by
        intro μ v3 H locs ls hf hW hl
        refine Wh_rule hf (fun z : Mm => ∀ (H : Heap) (locs : List Loc) (ls : Array Slot), Wd D (faM ad) (feM tc ad) s.heap z H locs → lv_has ls 4 [(0, .ref (ad 0)), (1, .int v1), (2, .int v2), (3, .int v3)] → W p l e (rmq 5 127) s m args below meth c H locs 0 0 Q (F0 m 46 ls [])) (fun z o2 hf Kl2 Kr2 => ?_) _ _ _ hW hl
        obtain ⟨μ, ez⟩ : ∃ q, q = z := ⟨_, rfl⟩
        subst ez
        intro H locs ls hW hl
        have hf : f_X11_mannersCome_L46 v1 v2 v3 μ = some o2 := hf
        unfold f_X11_mannersCome_L46 at hf
        have hW : Wd D (faM ad) (feM tc ad) s.heap μ H locs := hW
        have hl : lv_has ls 4 [(0, .ref (ad 0)), (1, .int v1), (2, .int v2), (3, .int v3)] := hl
        refine lv_aload_n hx hb dX11_mannersCome_46 rfl (lv_at hl 0 rfl) ?_
        refine gf_X11_52 C hW dX11_mannersCome_47 ?_
        refine lv_aload_n hx hb dX11_mannersCome_50 rfl (lv_at hl 0 rfl) ?_
        refine gf_X11_55 C hW dX11_mannersCome_51 ?_
        refine lv_iload_n hx hb dX11_mannersCome_54 rfl (lv_at hl 3 rfl) ?_
        obtain ⟨hi4, hf⟩ := ck_of hf
        refine r_iald (k := ((24, 0) : Ky)) (n := 8) C hW rfl rfl hi4 dX11_mannersCome_55 ?_
        obtain ⟨hi5, hf⟩ := ck_of hf
        refine r_iald (k := ((23, 0) : Ky)) (n := 8) C hW rfl rfl hi5 dX11_mannersCome_56 ?_
        refine lv_aload_n hx hb dX11_mannersCome_57 rfl (lv_at hl 0 rfl) ?_
        refine gf_X11_52 C hW dX11_mannersCome_58 ?_
        refine lv_iload_n hx hb dX11_mannersCome_61 rfl (lv_at hl 3 rfl) ?_
        obtain ⟨hi6, hf⟩ := ck_of hf
        refine r_iald (k := ((23, 0) : Ky)) (n := 8) C hW rfl rfl hi6 dX11_mannersCome_62 ?_
        refine lv_icmp_eq (tgt := 79) hx hb dX11_mannersCome_63 (by decide) (fun c7 => ?_) (fun c7 => ?_)
        · have hf := (if_pos c7).symm.trans hf
          obtain ⟨x9008, hf, hx9008⟩ := map_of hf
          have e9008 := (Kr2 _ hx9008.symm).symm
          subst e9008
          refine lv_iinc (v := (v3 + (1 : Int32))) (lv' := [(3, .int (v3 + (1 : Int32))), (0, .ref (ad 0)), (1, .int v1), (2, .int v2)]) hx hb dX11_mannersCome_79 hl (k := 3) rfl rfl (by decide) rfl (fun ls hl => ?_)
          refine lv_goto (tgt := 2) hx hb dX11_mannersCome_82 (by decide) ?_
          obtain rfl := Option.some.inj hf
          exact Kl1 _ rfl _ _ _ hW (lv_sub hl [1, 2, 3, 0] rfl)
        · have hf := (if_neg c7).symm.trans hf
          refine lv_aload_n hx hb dX11_mannersCome_66 rfl (lv_at hl 0 rfl) ?_
          refine gf_X11_55 C hW dX11_mannersCome_67 ?_
          refine lv_iload_n hx hb dX11_mannersCome_70 rfl (lv_at hl 3 rfl) ?_
          refine lv_dup2_11 hx hb dX11_mannersCome_71 rfl rfl ?_
          obtain ⟨hi9, hf⟩ := ck_of hf
          refine r_iald (k := ((24, 0) : Ky)) (n := 8) C hW rfl rfl hi9 dX11_mannersCome_72 ?_
          refine lv_iconst (v := 1) hx hb dX11_mannersCome_73 (by decide) ?_
          refine lv_iadd hx hb dX11_mannersCome_74 ?_
          obtain ⟨hi10, hf⟩ := ck_of hf
          refine r_iast (k := ((24, 0) : Ky)) (n := 8) C hW rfl (fun _ => rfl) hi10 dX11_mannersCome_75 (fun H locs hW => ?_)
          refine lv_goto (tgt := 46) hx hb dX11_mannersCome_76 (by decide) ?_
          obtain rfl := Option.some.inj hf
          exact Kl2 _ rfl _ _ _ hW (lv_sub hl [0, 1, 2, 3] rfl)
      exact L46 (mst (mst x35.2 (23, 0) s5.toNatClampNeg x35.1) (24, 0) v3.toNatClampNeg (0 : Int32)) v3 _ _ _ hf hW (lv_sub hl [0, 1, 2, 3] rfl)
    refine lv_iload_n hx hb dX11_mannersCome_2 rfl (lv_at hl 3 rfl) ?_
    refine lv_iconst (v := 2) hx hb dX11_mannersCome_3 (by decide) ?_
    refine lv_aload_n hx hb dX11_mannersCome_4 rfl (lv_at hl 0 rfl) ?_
    obtain ⟨x5, h5, hf⟩ := bd_of hf
    refine r_callV (k := ((0, 0) : Ky)) C hW hl lk_X11_118 (c_X11_values h5) ⟨rfl, rfl⟩ ⟨Nat.le_of_ble_eq_true rfl, Nat.le_of_ble_eq_true rfl⟩ rfl rfl rfl (As := []) (rest := [.int (2 : Int32), .int v3]) rfl rfl (Nat.le_of_ble_eq_true rfl) dX11_mannersCome_5 ⟨Nat.zero_le _, Nat.zero_le _⟩ (fun H locs hW => ?_)
    show W p l e (rmq 5 127) s m args below meth c H locs 0 0 Q (F0 m 8 ls [.int x5, .int (2 : Int32), .int v3])
    refine lv_imul hx hb dX11_mannersCome_8 ?_
    refine lv_icmp_ge (tgt := 85) hx hb dX11_mannersCome_9 (by decide) (fun c12 => ?_) (fun c12 => ?_)
    · have hf := (if_pos c12).symm.trans hf
      obtain ⟨x9029, hf, hx9029⟩ := map_of hf
      have e9029 := (Kr1 _ hx9029.symm).symm
      subst e9029
      refine lv_aload_n hx hb dX11_mannersCome_85 rfl (lv_at hl 0 rfl) ?_
      refine lv_iload_n hx hb dX11_mannersCome_86 rfl (lv_at hl 1 rfl) ?_
      refine lv_iload_n hx hb dX11_mannersCome_87 rfl (lv_at hl 1 rfl) ?_
      obtain ⟨x88, h88, hf⟩ := bd_of hf
      refine r_callV (k := ((0, 0) : Ky)) C hW hl lk_X11_135 (c_X11_lays h88) ⟨rfl, rfl⟩ ⟨Nat.le_of_ble_eq_true rfl, Nat.le_of_ble_eq_true rfl⟩ rfl rfl rfl (As := [.int v1, .int v1]) (rest := []) rfl rfl (Nat.le_of_ble_eq_true rfl) dX11_mannersCome_88 ⟨Nat.zero_le _, Nat.zero_le _⟩ (fun H locs hW => ?_)
      show W p l e (rmq 5 127) s m args below meth c H locs 0 0 Q (F0 m 91 ls [])
      refine lv_iconst (v := 0) hx hb dX11_mannersCome_91 (by decide) ?_
      refine lv_istore_n (lv' := [(3, .int (0 : Int32)), (0, .ref (ad 0)), (1, .int v1), (2, .int v2)]) hx hb dX11_mannersCome_92 rfl hl (by decide) rfl (fun ls hl => ?_)
      have L93 : ∀ (μ : Mm) (v3 : Int32) (H : Heap) (locs : List Loc) (ls : Array Slot), Wh (fun z : Mm × Int32 => f_X11_mannersCome_L93 v1 v2 z.1 z.2) (μ, v3) = some res → Wd D (faM ad) (feM tc ad) s.heap μ H locs → lv_has ls 4 [(0, .ref (ad 0)), (1, .int v1), (2, .int v2), (3, .int v3)] → W p l e (rmq 5 127) s m args below meth c H locs 0 0 Q (F0 m 93 ls []) := by
        intro μ v3 H locs ls hf hW hl
        refine Wh_rule hf (fun z : Mm × Int32 => ∀ (H : Heap) (locs : List Loc) (ls : Array Slot), Wd D (faM ad) (feM tc ad) s.heap z.1 H locs → lv_has ls 4 [(0, .ref (ad 0)), (1, .int v1), (2, .int v2), (3, .int z.2)] → W p l e (rmq 5 127) s m args below meth c H locs 0 0 Q (F0 m 93 ls [])) (fun z o1 hf Kl1 Kr1 => ?_) _ _ _ hW hl
        obtain ⟨μ, v3⟩ := z
        intro H locs ls hW hl
        have hf : f_X11_mannersCome_L93 v1 v2 μ v3 = some o1 := hf
        unfold f_X11_mannersCome_L93 at hf
        have hW : Wd D (faM ad) (feM tc ad) s.heap μ H locs := hW
        have hl : lv_has ls 4 [(0, .ref (ad 0)), (1, .int v1), (2, .int v2), (3, .int v3)] := hl
        refine lv_iload_n hx hb dX11_mannersCome_93 rfl (lv_at hl 3 rfl) ?_
        refine lv_aload_n hx hb dX11_mannersCome_94 rfl (lv_at hl 0 rfl) ?_
        obtain ⟨x95, h95, hf⟩ := bd_of hf
        refine r_callV (k := ((0, 0) : Ky)) C hW hl lk_X11_115 (c_X11_worlds h95) ⟨rfl, rfl⟩ ⟨Nat.le_of_ble_eq_true rfl, Nat.le_of_ble_eq_true rfl⟩ rfl rfl rfl (As := []) (rest := [.int v3]) rfl rfl (Nat.le_of_ble_eq_true rfl) dX11_mannersCome_95 ⟨Nat.zero_le _, Nat.zero_le _⟩ (fun H locs hW => ?_)
        show W p l e (rmq 5 127) s m args below meth c H locs 0 0 Q (F0 m 98 ls [.int x95, .int v3])
        refine lv_icmp_ge (tgt := 161) hx hb dX11_mannersCome_98 (by decide) (fun c15 => ?_) (fun c15 => ?_)
        · have hf := (if_pos c15).symm.trans hf
          obtain ⟨x9016, hf, hx9016⟩ := map_of hf
          have e9016 := (Kr1 _ hx9016.symm).symm
          subst e9016
          obtain rfl := Option.some.inj hf
          rw [hQ]
          exact r_vret C hr hk hW rfl rfl dX11_mannersCome_161
        · have hf := (if_neg c15).symm.trans hf
          refine lv_aload_n hx hb dX11_mannersCome_101 rfl (lv_at hl 0 rfl) ?_
          refine gf_X11_33 C hW dX11_mannersCome_102 ?_
          refine lv_iload_n hx hb dX11_mannersCome_105 rfl (lv_at hl 3 rfl) ?_
          refine lv_aload_n hx hb dX11_mannersCome_106 rfl (lv_at hl 0 rfl) ?_
          refine lv_iload_n hx hb dX11_mannersCome_107 rfl (lv_at hl 3 rfl) ?_
          obtain ⟨x108, h108, hf⟩ := bd_of hf
          refine r_callV (k := ((0, 0) : Ky)) C hW hl lk_X11_128 (c_X11_isLeft h108) ⟨rfl, rfl⟩ ⟨Nat.le_of_ble_eq_true rfl, Nat.le_of_ble_eq_true rfl⟩ rfl rfl rfl (As := [.int v3]) (rest := [.int v3, .ref (ad 9)]) rfl rfl (Nat.le_of_ble_eq_true rfl) dX11_mannersCome_108 ⟨Nat.zero_le _, Nat.zero_le _⟩ (fun H locs hW => ?_)
          show W p l e (rmq 5 127) s m args below meth c H locs 0 0 Q (F0 m 111 ls [.int x108, .int v3, .ref (ad 9)])
          refine lv_if_eq (tgt := 153) hx hb dX11_mannersCome_111 (by decide) (fun c18 => ?_) (fun c18 => ?_)
          · have hf := (if_pos c18).symm.trans hf
            refine lv_iconst (v := 0) hx hb dX11_mannersCome_153 (by decide) ?_
            obtain ⟨hi19, hf⟩ := ck_of hf
            refine r_iast (k := ((9, 0) : Ky)) (n := 512) C hW rfl (fun _ => rfl) hi19 dX11_mannersCome_154 (fun H locs hW => ?_)
            refine lv_iinc (v := (v3 + (1 : Int32))) (lv' := [(3, .int (v3 + (1 : Int32))), (0, .ref (ad 0)), (1, .int v1), (2, .int v2)]) hx hb dX11_mannersCome_155 hl (k := 3) rfl rfl (by decide) rfl (fun ls hl => ?_)
            refine lv_goto (tgt := 93) hx hb dX11_mannersCome_158 (by decide) ?_
            obtain rfl := Option.some.inj hf
            exact Kl1 _ rfl _ _ _ hW (lv_sub hl [1, 2, 3, 0] rfl)
          · have hf := (if_neg c18).symm.trans hf
            refine lv_aload_n hx hb dX11_mannersCome_114 rfl (lv_at hl 0 rfl) ?_
            refine gf_X11_55 C hW dX11_mannersCome_115 ?_
            refine lv_iconst (v := 2) hx hb dX11_mannersCome_118 (by decide) ?_
            refine lv_aload_n hx hb dX11_mannersCome_119 rfl (lv_at hl 0 rfl) ?_
            refine lv_iload_n hx hb dX11_mannersCome_120 rfl (lv_at hl 2 rfl) ?_
            refine lv_iload_n hx hb dX11_mannersCome_121 rfl (lv_at hl 3 rfl) ?_
            obtain ⟨x122, h122, hf⟩ := bd_of hf
            refine r_callV (k := ((0, 0) : Ky)) C hW hl lk_X11_124 (c_X11_noticeIn h122) ⟨rfl, rfl⟩ ⟨Nat.le_of_ble_eq_true rfl, Nat.le_of_ble_eq_true rfl⟩ rfl rfl rfl (As := [.int v2, .int v3]) (rest := [.int (2 : Int32), .ref (ad 24), .int v3, .ref (ad 9)]) rfl rfl (Nat.le_of_ble_eq_true rfl) dX11_mannersCome_122 ⟨Nat.zero_le _, Nat.zero_le _⟩ (fun H locs hW => ?_)
            show W p l e (rmq 5 127) s m args below meth c H locs 0 0 Q (F0 m 125 ls [.int x122, .int (2 : Int32), .ref (ad 24), .int v3, .ref (ad 9)])
            refine lv_imul hx hb dX11_mannersCome_125 ?_
            refine lv_aload_n hx hb dX11_mannersCome_126 rfl (lv_at hl 0 rfl) ?_
            refine gf_X11_30 C hW dX11_mannersCome_127 ?_
            refine lv_aload_n hx hb dX11_mannersCome_130 rfl (lv_at hl 0 rfl) ?_
            refine lv_iload_n hx hb dX11_mannersCome_131 rfl (lv_at hl 1 rfl) ?_
            refine lv_iload_n hx hb dX11_mannersCome_132 rfl (lv_at hl 3 rfl) ?_
            obtain ⟨x133, h133, hf⟩ := bd_of hf
            refine r_callV (k := ((0, 0) : Ky)) C hW hl lk_X11_132 (c_X11_label h133) ⟨rfl, rfl⟩ ⟨Nat.le_of_ble_eq_true rfl, Nat.le_of_ble_eq_true rfl⟩ rfl rfl rfl (As := [.int v1, .int v3]) (rest := [.ref (ad 8), .int ((2 : Int32) * x122), .ref (ad 24), .int v3, .ref (ad 9)]) rfl rfl (Nat.le_of_ble_eq_true rfl) dX11_mannersCome_133 ⟨Nat.zero_le _, Nat.zero_le _⟩ (fun H locs hW => ?_)
            show W p l e (rmq 5 127) s m args below meth c H locs 0 0 Q (F0 m 136 ls [.int x133, .ref (ad 8), .int ((2 : Int32) * x122), .ref (ad 24), .int v3, .ref (ad 9)])
            obtain ⟨hi22, hf⟩ := ck_of hf
            refine r_iald (k := ((8, 0) : Ky)) (n := 512) C hW rfl rfl hi22 dX11_mannersCome_136 ?_
            obtain ⟨x137, h137, hf⟩ := bd_of hf
            refine r_callS C hW hl lk_X11_143 (c_X11_isOne h137) ⟨rfl, rfl⟩ ⟨Nat.le_of_ble_eq_true rfl, Nat.le_of_ble_eq_true rfl⟩ (As := [.int (μ (8, 0) x133.toNatClampNeg)]) (rest := [.int ((2 : Int32) * x122), .ref (ad 24), .int v3, .ref (ad 9)]) rfl rfl (Nat.le_of_ble_eq_true rfl) dX11_mannersCome_137 ⟨Nat.zero_le _, Nat.zero_le _⟩ (fun H locs hW => ?_)
            show W p l e (rmq 5 127) s m args below meth c H locs 0 0 Q (F0 m 140 ls [.int x137, .int ((2 : Int32) * x122), .ref (ad 24), .int v3, .ref (ad 9)])
            refine lv_if_eq (tgt := 147) hx hb dX11_mannersCome_140 (by decide) (fun c24 => ?_) (fun c24 => ?_)
            · have hf := (if_pos c24).symm.trans hf
              refine lv_iconst (v := 0) hx hb dX11_mannersCome_147 (by decide) ?_
              refine lv_iadd hx hb dX11_mannersCome_148 ?_
              obtain ⟨hi25, hf⟩ := ck_of hf
              refine r_iald (k := ((24, 0) : Ky)) (n := 8) C hW rfl rfl hi25 dX11_mannersCome_149 ?_
              refine lv_goto (tgt := 154) hx hb dX11_mannersCome_150 (by decide) ?_
              obtain ⟨hi26, hf⟩ := ck_of hf
              refine r_iast (k := ((9, 0) : Ky)) (n := 512) C hW rfl (fun _ => rfl) hi26 dX11_mannersCome_154 (fun H locs hW => ?_)
              refine lv_iinc (v := (v3 + (1 : Int32))) (lv' := [(3, .int (v3 + (1 : Int32))), (0, .ref (ad 0)), (1, .int v1), (2, .int v2)]) hx hb dX11_mannersCome_155 hl (k := 3) rfl rfl (by decide) rfl (fun ls hl => ?_)
              refine lv_goto (tgt := 93) hx hb dX11_mannersCome_158 (by decide) ?_
              obtain rfl := Option.some.inj hf
              exact Kl1 _ rfl _ _ _ hW (lv_sub hl [1, 2, 3, 0] rfl)
            · have hf := (if_neg c24).symm.trans hf
              refine lv_iconst (v := 1) hx hb dX11_mannersCome_143 (by decide) ?_
              refine lv_goto (tgt := 148) hx hb dX11_mannersCome_144 (by decide) ?_
              refine lv_iadd hx hb dX11_mannersCome_148 ?_
              obtain ⟨hi27, hf⟩ := ck_of hf
              refine r_iald (k := ((24, 0) : Ky)) (n := 8) C hW rfl rfl hi27 dX11_mannersCome_149 ?_
              refine lv_goto (tgt := 154) hx hb dX11_mannersCome_150 (by decide) ?_
              obtain ⟨hi28, hf⟩ := ck_of hf
              refine r_iast (k := ((9, 0) : Ky)) (n := 512) C hW rfl (fun _ => rfl) hi28 dX11_mannersCome_154 (fun H locs hW => ?_)
              refine lv_iinc (v := (v3 + (1 : Int32))) (lv' := [(3, .int (v3 + (1 : Int32))), (0, .ref (ad 0)), (1, .int v1), (2, .int v2)]) hx hb dX11_mannersCome_155 hl (k := 3) rfl rfl (by decide) rfl (fun ls hl => ?_)
              refine lv_goto (tgt := 93) hx hb dX11_mannersCome_158 (by decide) ?_
              obtain rfl := Option.some.inj hf
              exact Kl1 _ rfl _ _ _ hW (lv_sub hl [1, 2, 3, 0] rfl)
      exact L93 x88 (0 : Int32) _ _ _ hf hW (lv_sub hl [1, 2, 3, 0] rfl)
    · have hf := (if_neg c12).symm.trans hf
      refine lv_aload_n hx hb dX11_mannersCome_12 rfl (lv_at hl 0 rfl) ?_
      refine gf_X11_52 C hW dX11_mannersCome_13 ?_
      refine lv_iload_n hx hb dX11_mannersCome_16 rfl (lv_at hl 3 rfl) ?_
      refine lv_aload_n hx hb dX11_mannersCome_17 rfl (lv_at hl 0 rfl) ?_
      refine lv_iload_n hx hb dX11_mannersCome_18 rfl (lv_at hl 1 rfl) ?_
      refine lv_iload_n hx hb dX11_mannersCome_19 rfl (lv_at hl 2 rfl) ?_
      refine lv_iload_n hx hb dX11_mannersCome_20 rfl (lv_at hl 3 rfl) ?_
      refine lv_iconst (v := 2) hx hb dX11_mannersCome_21 (by decide) ?_
      refine lv_idiv hx hb dX11_mannersCome_22 (by decide) ?_
      refine lv_iload_n hx hb dX11_mannersCome_23 rfl (lv_at hl 3 rfl) ?_
      refine lv_iconst (v := 2) hx hb dX11_mannersCome_24 (by decide) ?_
      refine lv_irem hx hb dX11_mannersCome_25 (by decide) ?_
      refine lv_iconst (v := 1) hx hb dX11_mannersCome_26 (by decide) ?_
      refine lv_icmp_ne (tgt := 34) hx hb dX11_mannersCome_27 (by decide) (fun c32 => ?_) (fun c32 => ?_)
      · have hf := (if_neg c32).symm.trans hf
        refine lv_iconst (v := 0) hx hb dX11_mannersCome_34 (by decide) ?_
        exact J35 μ v3 (0 : Int32) (v3 / (2 : Int32)) v2 v1 v3 _ _ _ hf hW (lv_sub hl [0, 1, 2, 3] rfl)
      · have hf := (if_pos c32).symm.trans hf
        refine lv_iconst (v := 1) hx hb dX11_mannersCome_30 (by decide) ?_
        refine lv_goto (tgt := 35) hx hb dX11_mannersCome_31 (by decide) ?_
        exact J35 μ v3 (1 : Int32) (v3 / (2 : Int32)) v2 v1 v3 _ _ _ hf hW (lv_sub hl [0, 1, 2, 3] rfl)
  exact L2 μ (0 : Int32) _ _ _ hf hW (lv_sub hl [1, 2, 3, 0] rfl)
set_option maxHeartbeats 4000000 in
set_option maxRecDepth 100000 in
theorem c_X11_mannerIn {l : Launch} {D : va_G} {tc : Nat → ClassId} {ro : Ro} {ad : Nat → Nat} {μ : Mm} {v1 v2 v3 : Int32} {res : Int32 × Mm} (hf : f_X11_mannerIn μ v1 v2 v3 = some res) : Ct l D tc ro (faM ad) (feM tc ad) yX11_mannerIn cX11_mannerIn 4 (some .int) (rmq 5 127) [.ref (ad 0), .int v1, .int v2, .int v3] μ (some (.int res.1)) res.2 := by
  refine Ct.of (by decide) (Nat.le_of_ble_eq_true rfl) (fun p e s m args below meth c C hr hk hW ls hl => ?_)
  have hx := C.1.1
  have hb := C.1.2.1
  obtain ⟨Q, hQ⟩ : ∃ Q, Q = MQ below (Ctq D (faM ad) (feM tc ad) (some (.int res.1)) res.2 s.heap.size) args s 0 0 (AF (faM ad) s.heap.size) := ⟨_, rfl⟩
  rw [← hQ]
  have hl : lv_has ls 4 [(0, .ref (ad 0)), (1, .int v1), (2, .int v2), (3, .int v3)] := hl
  unfold f_X11_mannerIn at hf
  refine lv_aload_n hx hb dX11_mannerIn_0 rfl (lv_at hl 0 rfl) ?_
  refine lv_iload_n hx hb dX11_mannerIn_1 rfl (lv_at hl 1 rfl) ?_
  refine lv_iload_n hx hb dX11_mannerIn_2 rfl (lv_at hl 2 rfl) ?_
  refine lv_aload_n hx hb dX11_mannerIn_3 rfl (lv_at hl 0 rfl) ?_
  refine lv_iload_n hx hb dX11_mannerIn_4 rfl (lv_at hl 2 rfl) ?_
  refine lv_iload_n hx hb dX11_mannerIn_5 rfl (lv_at hl 3 rfl) ?_
  obtain ⟨x6, h6, hf⟩ := bd_of hf
  refine r_callV (k := ((0, 0) : Ky)) C hW hl lk_X11_124 (c_X11_noticeIn h6) ⟨rfl, rfl⟩ ⟨Nat.le_of_ble_eq_true rfl, Nat.le_of_ble_eq_true rfl⟩ rfl rfl rfl (As := [.int v2, .int v3]) (rest := [.int v2, .int v1, .ref (ad 0)]) rfl rfl (Nat.le_of_ble_eq_true rfl) dX11_mannerIn_6 ⟨Nat.zero_le _, Nat.zero_le _⟩ (fun H locs hW => ?_)
  show W p l e (rmq 5 127) s m args below meth c H locs 0 0 Q (F0 m 9 ls [.int x6, .int v2, .int v1, .ref (ad 0)])
  refine lv_aload_n hx hb dX11_mannerIn_9 rfl (lv_at hl 0 rfl) ?_
  refine lv_iload_n hx hb dX11_mannerIn_10 rfl (lv_at hl 1 rfl) ?_
  refine lv_iload_n hx hb dX11_mannerIn_11 rfl (lv_at hl 3 rfl) ?_
  obtain ⟨x12, h12, hf⟩ := bd_of hf
  refine r_callV (k := ((0, 0) : Ky)) C hW hl lk_X11_146 (c_X11_isSure h12) ⟨rfl, rfl⟩ ⟨Nat.le_of_ble_eq_true rfl, Nat.le_of_ble_eq_true rfl⟩ rfl rfl rfl (As := [.int v1, .int v3]) (rest := [.int x6, .int v2, .int v1, .ref (ad 0)]) rfl rfl (Nat.le_of_ble_eq_true rfl) dX11_mannerIn_12 ⟨Nat.zero_le _, Nat.zero_le _⟩ (fun H locs hW => ?_)
  show W p l e (rmq 5 127) s m args below meth c H locs 0 0 Q (F0 m 15 ls [.int x12.1, .int x6, .int v2, .int v1, .ref (ad 0)])
  obtain ⟨x15, h15, hf⟩ := bd_of hf
  refine r_callV (k := ((0, 0) : Ky)) C hW hl lk_X11_336 (c_X11_mannerBy h15) ⟨rfl, rfl⟩ ⟨Nat.le_of_ble_eq_true rfl, Nat.le_of_ble_eq_true rfl⟩ rfl rfl rfl (As := [.int v1, .int v2, .int x6, .int x12.1]) (rest := []) rfl rfl (Nat.le_of_ble_eq_true rfl) dX11_mannerIn_15 ⟨Nat.zero_le _, Nat.zero_le _⟩ (fun H locs hW => ?_)
  show W p l e (rmq 5 127) s m args below meth c H locs 0 0 Q (F0 m 18 ls [.int x15.1])
  obtain rfl := Option.some.inj hf
  rw [hQ]
  exact r_iret C hr hk hW rfl rfl dX11_mannerIn_18
set_option maxHeartbeats 4000000 in
set_option maxRecDepth 100000 in
theorem c_X11_tells {l : Launch} {D : va_G} {tc : Nat → ClassId} {ro : Ro} {ad : Nat → Nat} {μ : Mm} {v1 v2 v3 v4 : Int32} {res : Mm} (hf : f_X11_tells μ v1 v2 v3 v4 = some res) : Ct l D tc ro (faM ad) (feM tc ad) yX11_tells cX11_tells 6 none (rmq 6 135) [.ref (ad 0), .int v1, .int v2, .int v3, .int v4] μ none res := by
  refine Ct.of (by decide) (Nat.le_of_ble_eq_true rfl) (fun p e s m args below meth c C hr hk hW ls hl => ?_)
  have hx := C.1.1
  have hb := C.1.2.1
  obtain ⟨Q, hQ⟩ : ∃ Q, Q = MQ below (Ctq D (faM ad) (feM tc ad) none res s.heap.size) args s 0 0 (AF (faM ad) s.heap.size) := ⟨_, rfl⟩
  rw [← hQ]
  have hl : lv_has ls 6 [(0, .ref (ad 0)), (1, .int v1), (2, .int v2), (3, .int v3), (4, .int v4)] := hl
  unfold f_X11_tells at hf
  refine lv_sipush (v := 299) hx hb dX11_tells_0 (by decide) ?_
  refine lv_istore (lv' := [(5, .int (299 : Int32)), (0, .ref (ad 0)), (1, .int v1), (2, .int v2), (3, .int v3), (4, .int v4)]) hx hb dX11_tells_3 hl (by decide) rfl (fun ls hl => ?_)
  have L5 : ∀ (μ : Mm) (v5 : Int32) (H : Heap) (locs : List Loc) (ls : Array Slot), Wh (fun z : Mm × Int32 => f_X11_tells_L5 v1 v2 v3 v4 z.1 z.2) (μ, v5) = some res → Wd D (faM ad) (feM tc ad) s.heap μ H locs → lv_has ls 6 [(0, .ref (ad 0)), (1, .int v1), (2, .int v2), (3, .int v3), (4, .int v4), (5, .int v5)] → W p l e (rmq 6 135) s m args below meth c H locs 0 0 Q (F0 m 5 ls []) := by
    intro μ v5 H locs ls hf hW hl
    refine Wh_rule hf (fun z : Mm × Int32 => ∀ (H : Heap) (locs : List Loc) (ls : Array Slot), Wd D (faM ad) (feM tc ad) s.heap z.1 H locs → lv_has ls 6 [(0, .ref (ad 0)), (1, .int v1), (2, .int v2), (3, .int v3), (4, .int v4), (5, .int z.2)] → W p l e (rmq 6 135) s m args below meth c H locs 0 0 Q (F0 m 5 ls [])) (fun z o1 hf Kl1 Kr1 => ?_) _ _ _ hW hl
    obtain ⟨μ, v5⟩ := z
    intro H locs ls hW hl
    have hf : f_X11_tells_L5 v1 v2 v3 v4 μ v5 = some o1 := hf
    unfold f_X11_tells_L5 at hf
    have hW : Wd D (faM ad) (feM tc ad) s.heap μ H locs := hW
    have hl : lv_has ls 6 [(0, .ref (ad 0)), (1, .int v1), (2, .int v2), (3, .int v3), (4, .int v4), (5, .int v5)] := hl
    refine lv_iload hx hb dX11_tells_5 (lv_at hl 5 rfl) ?_
    refine lv_iconst (v := 5) hx hb dX11_tells_7 (by decide) ?_
    refine lv_icmp_lt (tgt := 41) hx hb dX11_tells_8 (by decide) (fun c1 => ?_) (fun c1 => ?_)
    · have hf := (if_pos c1).symm.trans hf
      obtain ⟨x9011, hf, hx9011⟩ := map_of hf
      have e9011 := (Kr1 _ hx9011.symm).symm
      subst e9011
      refine lv_aload_n hx hb dX11_tells_41 rfl (lv_at hl 0 rfl) ?_
      refine gf_X11_13 C hW dX11_tells_42 ?_
      refine lv_sipush (v := 5140) hx hb dX11_tells_45 (by decide) ?_
      refine lv_iload_n hx hb dX11_tells_48 rfl (lv_at hl 1 rfl) ?_
      obtain ⟨hi2, hf⟩ := ck_of hf
      refine r_iast (k := ((1, 0) : Ky)) (n := 7114) C hW rfl (fun _ => rfl) hi2 dX11_tells_49 (fun H locs hW => ?_)
      refine lv_aload_n hx hb dX11_tells_50 rfl (lv_at hl 0 rfl) ?_
      refine gf_X11_13 C hW dX11_tells_51 ?_
      refine lv_sipush (v := 5141) hx hb dX11_tells_54 (by decide) ?_
      refine lv_iload_n hx hb dX11_tells_57 rfl (lv_at hl 2 rfl) ?_
      obtain ⟨hi3, hf⟩ := ck_of hf
      refine r_iast (k := ((1, 0) : Ky)) (n := 7114) C hW rfl (fun _ => rfl) hi3 dX11_tells_58 (fun H locs hW => ?_)
      refine lv_aload_n hx hb dX11_tells_59 rfl (lv_at hl 0 rfl) ?_
      refine gf_X11_13 C hW dX11_tells_60 ?_
      refine lv_sipush (v := 5142) hx hb dX11_tells_63 (by decide) ?_
      refine lv_iload_n hx hb dX11_tells_66 rfl (lv_at hl 3 rfl) ?_
      obtain ⟨hi4, hf⟩ := ck_of hf
      refine r_iast (k := ((1, 0) : Ky)) (n := 7114) C hW rfl (fun _ => rfl) hi4 dX11_tells_67 (fun H locs hW => ?_)
      refine lv_aload_n hx hb dX11_tells_68 rfl (lv_at hl 0 rfl) ?_
      refine gf_X11_13 C hW dX11_tells_69 ?_
      refine lv_sipush (v := 5143) hx hb dX11_tells_72 (by decide) ?_
      refine lv_iload hx hb dX11_tells_75 (lv_at hl 4 rfl) ?_
      obtain ⟨hi5, hf⟩ := ck_of hf
      refine r_iast (k := ((1, 0) : Ky)) (n := 7114) C hW rfl (fun _ => rfl) hi5 dX11_tells_77 (fun H locs hW => ?_)
      refine lv_aload_n hx hb dX11_tells_78 rfl (lv_at hl 0 rfl) ?_
      refine gf_X11_13 C hW dX11_tells_79 ?_
      refine lv_sipush (v := 5144) hx hb dX11_tells_82 (by decide) ?_
      refine lv_aload_n hx hb dX11_tells_85 rfl (lv_at hl 0 rfl) ?_
      refine lv_aload_n hx hb dX11_tells_86 rfl (lv_at hl 0 rfl) ?_
      obtain ⟨x87, h87, hf⟩ := bd_of hf
      refine r_callV (k := ((0, 0) : Ky)) C hW hl lk_X11_121 (c_X11_here h87) ⟨rfl, rfl⟩ ⟨Nat.le_of_ble_eq_true rfl, Nat.le_of_ble_eq_true rfl⟩ rfl rfl rfl (As := []) (rest := [.ref (ad 0), .int (5144 : Int32), .ref (ad 1)]) rfl rfl (Nat.le_of_ble_eq_true rfl) dX11_tells_87 ⟨Nat.zero_le _, Nat.zero_le _⟩ (fun H locs hW => ?_)
      show W p l e (rmq 6 135) s m args below meth c H locs 0 0 Q (F0 m 90 ls [.int x87, .ref (ad 0), .int (5144 : Int32), .ref (ad 1)])
      obtain ⟨x90, h90, hf⟩ := bd_of hf
      refine r_callV (k := ((0, 0) : Ky)) C hW hl lk_X11_340 (c_X11_sureOnes h90) ⟨rfl, rfl⟩ ⟨Nat.le_of_ble_eq_true rfl, Nat.le_of_ble_eq_true rfl⟩ rfl rfl rfl (As := [.int x87]) (rest := [.int (5144 : Int32), .ref (ad 1)]) rfl rfl (Nat.le_of_ble_eq_true rfl) dX11_tells_90 ⟨Nat.zero_le _, Nat.zero_le _⟩ (fun H locs hW => ?_)
      show W p l e (rmq 6 135) s m args below meth c H locs 0 0 Q (F0 m 93 ls [.int x90.1, .int (5144 : Int32), .ref (ad 1)])
      obtain ⟨hi8, hf⟩ := ck_of hf
      refine r_iast (k := ((1, 0) : Ky)) (n := 7114) C hW rfl (fun _ => rfl) hi8 dX11_tells_93 (fun H locs hW => ?_)
      refine lv_aload_n hx hb dX11_tells_94 rfl (lv_at hl 0 rfl) ?_
      refine gf_X11_13 C hW dX11_tells_95 ?_
      refine lv_bipush (v := 9) hx hb dX11_tells_98 (by decide) ?_
      refine lv_bipush (v := 60) hx hb dX11_tells_100 (by decide) ?_
      refine lv_aload_n hx hb dX11_tells_102 rfl (lv_at hl 0 rfl) ?_
      refine gf_X11_13 C hW dX11_tells_103 ?_
      refine lv_bipush (v := 9) hx hb dX11_tells_106 (by decide) ?_
      obtain ⟨hi9, hf⟩ := ck_of hf
      refine r_iald (k := ((1, 0) : Ky)) (n := 7114) C hW rfl rfl hi9 dX11_tells_108 ?_
      refine lv_iconst (v := 1) hx hb dX11_tells_109 (by decide) ?_
      refine lv_iadd hx hb dX11_tells_110 ?_
      refine r_mmin C hl kw_2423 kw_560 kw_140 kw_561 (Nat.le_of_ble_eq_true rfl) (Nat.le_of_ble_eq_true rfl) ⟨Nat.zero_le _, Nat.zero_le _⟩ dX11_tells_111 ?_
      obtain ⟨hi10, hf⟩ := ck_of hf
      refine r_iast (k := ((1, 0) : Ky)) (n := 7114) C hW rfl (fun _ => rfl) hi10 dX11_tells_114 (fun H locs hW => ?_)
      obtain rfl := Option.some.inj hf
      rw [hQ]
      exact r_vret C hr hk hW rfl rfl dX11_tells_115
    · have hf := (if_neg c1).symm.trans hf
      refine lv_aload_n hx hb dX11_tells_11 rfl (lv_at hl 0 rfl) ?_
      refine gf_X11_13 C hW dX11_tells_12 ?_
      refine lv_sipush (v := 5140) hx hb dX11_tells_15 (by decide) ?_
      refine lv_iload hx hb dX11_tells_18 (lv_at hl 5 rfl) ?_
      refine lv_iadd hx hb dX11_tells_20 ?_
      refine lv_aload_n hx hb dX11_tells_21 rfl (lv_at hl 0 rfl) ?_
      refine gf_X11_13 C hW dX11_tells_22 ?_
      refine lv_sipush (v := 5140) hx hb dX11_tells_25 (by decide) ?_
      refine lv_iload hx hb dX11_tells_28 (lv_at hl 5 rfl) ?_
      refine lv_iadd hx hb dX11_tells_30 ?_
      refine lv_iconst (v := 5) hx hb dX11_tells_31 (by decide) ?_
      refine lv_isub hx hb dX11_tells_32 ?_
      obtain ⟨hi12, hf⟩ := ck_of hf
      refine r_iald (k := ((1, 0) : Ky)) (n := 7114) C hW rfl rfl hi12 dX11_tells_33 ?_
      obtain ⟨hi13, hf⟩ := ck_of hf
      refine r_iast (k := ((1, 0) : Ky)) (n := 7114) C hW rfl (fun _ => rfl) hi13 dX11_tells_34 (fun H locs hW => ?_)
      refine lv_iinc (v := (v5 + (-1 : Int32))) (lv' := [(5, .int (v5 + (-1 : Int32))), (0, .ref (ad 0)), (1, .int v1), (2, .int v2), (3, .int v3), (4, .int v4)]) hx hb dX11_tells_35 hl (k := 5) rfl rfl (by decide) rfl (fun ls hl => ?_)
      refine lv_goto (tgt := 5) hx hb dX11_tells_38 (by decide) ?_
      obtain rfl := Option.some.inj hf
      exact Kl1 _ rfl _ _ _ hW (lv_sub hl [1, 2, 3, 4, 5, 0] rfl)
  exact L5 μ (299 : Int32) _ _ _ hf hW (lv_sub hl [1, 2, 3, 4, 5, 0] rfl)
