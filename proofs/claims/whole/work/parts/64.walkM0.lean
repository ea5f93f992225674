set_option maxHeartbeats 4000000 in
set_option maxRecDepth 100000 in
theorem c_X11_thrown {l : Launch} {D : va_G} {tc : Nat → ClassId} {ro : Ro} {ad : Nat → Nat} {μ : Mm} {res : Int32} (hf : f_X11_thrown μ = some res) : Ct l D tc ro (faM ad) (feM tc ad) yX11_thrown cX11_thrown 1 (some .int) (rmq 0 0) [.ref (ad 0)] μ (some (.int res)) μ := by
  refine Ct.of (by decide) (Nat.le_of_ble_eq_true rfl) (fun p e s m args below meth c A C hr hk hW ls hl => ?_)
  have hx := C.1.1
  have hb := C.1.2.1
  obtain ⟨Q, hQ⟩ : ∃ Q, Q = MQ below (Ctq D (faM ad) (feM tc ad) (some (.int res)) μ A) args s 0 0 A := ⟨_, rfl⟩
  rw [← hQ]
  have hl : lv_has ls 1 [(0, .ref (ad 0))] := hl
  unfold f_X11_thrown at hf
  refine lv_aload_n hx hb dX11_thrown_0 rfl (lv_at hl 0 rfl) ?_
  refine gf_X11_3 C hW dX11_thrown_1 ?_
  obtain rfl := Option.some.inj hf
  rw [hQ]
  exact r_iret C hr hk hW rfl rfl dX11_thrown_4
set_option maxHeartbeats 4000000 in
set_option maxRecDepth 100000 in
theorem c_X11_throwsIf {l : Launch} {D : va_G} {tc : Nat → ClassId} {ro : Ro} {ad : Nat → Nat} {μ : Mm} {v1 v2 : Int32} {res : Int32 × Mm} (hf : f_X11_throwsIf μ v1 v2 = some res) : Ct l D tc ro (faM ad) (feM tc ad) yX11_throwsIf cX11_throwsIf 3 (some .boolean) (rmq 0 0) [.ref (ad 0), .int v1, .int v2] μ (some (.int res.1)) res.2 := by
  refine Ct.of (by decide) (Nat.le_of_ble_eq_true rfl) (fun p e s m args below meth c A C hr hk hW ls hl => ?_)
  have hx := C.1.1
  have hb := C.1.2.1
  obtain ⟨Q, hQ⟩ : ∃ Q, Q = MQ below (Ctq D (faM ad) (feM tc ad) (some (.int res.1)) res.2 A) args s 0 0 A := ⟨_, rfl⟩
  rw [← hQ]
  have hl : lv_has ls 3 [(0, .ref (ad 0)), (1, .int v1), (2, .int v2)] := hl
  unfold f_X11_throwsIf at hf
  refine lv_iload_n hx hb dX11_throwsIf_0 rfl (lv_at hl 1 rfl) ?_
  refine lv_if_eq (tgt := 9) hx hb dX11_throwsIf_1 (by decide) (fun c1 => ?_) (fun c1 => ?_)
  · have hf := (if_pos c1).symm.trans hf
    refine lv_iload_n hx hb dX11_throwsIf_9 rfl (lv_at hl 1 rfl) ?_
    obtain ⟨hz2, hf⟩ := cb_of hf
    obtain rfl := Option.some.inj hf
    rw [hQ]
    exact r_zret C hr hk hW hz2 rfl rfl dX11_throwsIf_10
  · have hf := (if_neg c1).symm.trans hf
    refine lv_aload_n hx hb dX11_throwsIf_4 rfl (lv_at hl 0 rfl) ?_
    refine lv_iload_n hx hb dX11_throwsIf_5 rfl (lv_at hl 2 rfl) ?_
    refine pf_X11_3 C hW dX11_throwsIf_6 (fun H locs hW => ?_)
    refine lv_iload_n hx hb dX11_throwsIf_9 rfl (lv_at hl 1 rfl) ?_
    obtain ⟨hz3, hf⟩ := cb_of hf
    obtain rfl := Option.some.inj hf
    rw [hQ]
    exact r_zret C hr hk hW hz3 rfl rfl dX11_throwsIf_10
set_option maxHeartbeats 4000000 in
set_option maxRecDepth 100000 in
theorem c_X11_in {l : Launch} {D : va_G} {tc : Nat → ClassId} {ro : Ro} {ad : Nat → Nat} {μ : Mm} {v0 v1 v2 : Int32} {res : Int32} (hf : f_X11_in v0 v1 v2 = some res) : Ct l D tc ro (faM ad) (feM tc ad) yX11_in cX11_in 3 (some .boolean) (rmq 0 0) [.int v0, .int v1, .int v2] μ (some (.int res)) μ := by
  refine Ct.of (by decide) (Nat.le_of_ble_eq_true rfl) (fun p e s m args below meth c A C hr hk hW ls hl => ?_)
  have hx := C.1.1
  have hb := C.1.2.1
  obtain ⟨Q, hQ⟩ : ∃ Q, Q = MQ below (Ctq D (faM ad) (feM tc ad) (some (.int res)) μ A) args s 0 0 A := ⟨_, rfl⟩
  rw [← hQ]
  have hl : lv_has ls 3 [(0, .int v0), (1, .int v1), (2, .int v2)] := hl
  unfold f_X11_in at hf
  refine lv_iload_n hx hb dX11_in_0 rfl (lv_at hl 0 rfl) ?_
  refine lv_iload_n hx hb dX11_in_1 rfl (lv_at hl 1 rfl) ?_
  refine lv_icmp_lt (tgt := 14) hx hb dX11_in_2 (by decide) (fun c1 => ?_) (fun c1 => ?_)
  · have hf := (if_pos c1).symm.trans hf
    refine lv_iconst (v := 0) hx hb dX11_in_14 (by decide) ?_
    obtain rfl := Option.some.inj hf
    rw [hQ]
    exact r_zret C hr hk hW (Or.inl rfl) rfl rfl dX11_in_15
  · have hf := (if_neg c1).symm.trans hf
    refine lv_iload_n hx hb dX11_in_5 rfl (lv_at hl 0 rfl) ?_
    refine lv_iload_n hx hb dX11_in_6 rfl (lv_at hl 2 rfl) ?_
    refine lv_icmp_gt (tgt := 14) hx hb dX11_in_7 (by decide) (fun c2 => ?_) (fun c2 => ?_)
    · have hf := (if_pos c2).symm.trans hf
      refine lv_iconst (v := 0) hx hb dX11_in_14 (by decide) ?_
      obtain rfl := Option.some.inj hf
      rw [hQ]
      exact r_zret C hr hk hW (Or.inl rfl) rfl rfl dX11_in_15
    · have hf := (if_neg c2).symm.trans hf
      refine lv_iconst (v := 1) hx hb dX11_in_10 (by decide) ?_
      refine lv_goto (tgt := 15) hx hb dX11_in_11 (by decide) ?_
      obtain rfl := Option.some.inj hf
      rw [hQ]
      exact r_zret C hr hk hW (Or.inr rfl) rfl rfl dX11_in_15
set_option maxHeartbeats 4000000 in
set_option maxRecDepth 100000 in
theorem c_X11_has {l : Launch} {D : va_G} {tc : Nat → ClassId} {ro : Ro} {ad : Nat → Nat} {μ : Mm} {v0 v1 : Int32} {res : Int32} (hf : f_X11_has v0 v1 = some res) : Ct l D tc ro (faM ad) (feM tc ad) yX11_has cX11_has 2 (some .boolean) (rmq 0 0) [.int v0, .int v1] μ (some (.int res)) μ := by
  refine Ct.of (by decide) (Nat.le_of_ble_eq_true rfl) (fun p e s m args below meth c A C hr hk hW ls hl => ?_)
  have hx := C.1.1
  have hb := C.1.2.1
  obtain ⟨Q, hQ⟩ : ∃ Q, Q = MQ below (Ctq D (faM ad) (feM tc ad) (some (.int res)) μ A) args s 0 0 A := ⟨_, rfl⟩
  rw [← hQ]
  have hl : lv_has ls 2 [(0, .int v0), (1, .int v1)] := hl
  unfold f_X11_has at hf
  refine lv_iload_n hx hb dX11_has_0 rfl (lv_at hl 0 rfl) ?_
  refine lv_iload_n hx hb dX11_has_1 rfl (lv_at hl 1 rfl) ?_
  refine lv_ishr hx hb dX11_has_2 ?_
  refine lv_iconst (v := 1) hx hb dX11_has_3 (by decide) ?_
  refine lv_iand hx hb dX11_has_4 ?_
  refine lv_iconst (v := 1) hx hb dX11_has_5 (by decide) ?_
  refine lv_icmp_ne (tgt := 13) hx hb dX11_has_6 (by decide) (fun c1 => ?_) (fun c1 => ?_)
  · have hf := (if_neg c1).symm.trans hf
    refine lv_iconst (v := 0) hx hb dX11_has_13 (by decide) ?_
    obtain rfl := Option.some.inj hf
    rw [hQ]
    exact r_zret C hr hk hW (Or.inl rfl) rfl rfl dX11_has_14
  · have hf := (if_pos c1).symm.trans hf
    refine lv_iconst (v := 1) hx hb dX11_has_9 (by decide) ?_
    refine lv_goto (tgt := 14) hx hb dX11_has_10 (by decide) ?_
    obtain rfl := Option.some.inj hf
    rw [hQ]
    exact r_zret C hr hk hW (Or.inr rfl) rfl rfl dX11_has_14
set_option maxHeartbeats 4000000 in
set_option maxRecDepth 100000 in
theorem c_X11_image {l : Launch} {D : va_G} {tc : Nat → ClassId} {ro : Ro} {ad : Nat → Nat} {μ : Mm} {res : Mm} (hf : f_X11_image μ = some res) : Ct l D tc ro (faM ad) (feM tc ad) yX11_image cX11_image 2 none (rmq 0 0) [.ref (ad 0)] μ none res := by
  refine Ct.of (by decide) (Nat.le_of_ble_eq_true rfl) (fun p e s m args below meth c A C hr hk hW ls hl => ?_)
  have hx := C.1.1
  have hb := C.1.2.1
  obtain ⟨Q, hQ⟩ : ∃ Q, Q = MQ below (Ctq D (faM ad) (feM tc ad) none res A) args s 0 0 A := ⟨_, rfl⟩
  rw [← hQ]
  have hl : lv_has ls 2 [(0, .ref (ad 0))] := hl
  unfold f_X11_image at hf
  refine lv_aload_n hx hb dX11_image_0 rfl (lv_at hl 0 rfl) ?_
  refine lv_iconst (v := 0) hx hb dX11_image_1 (by decide) ?_
  refine pf_X11_3 C hW dX11_image_2 (fun H locs hW => ?_)
  refine lv_iconst (v := 0) hx hb dX11_image_5 (by decide) ?_
  refine lv_istore_n (lv' := [(1, .int (0 : Int32)), (0, .ref (ad 0))]) hx hb dX11_image_6 rfl hl (by decide) rfl (fun ls hl => ?_)
  have L7 : ∀ (μ : Mm) (v1 : Int32) (H : Heap) (locs : List Loc) (ls : Array Slot), Wh (fun z : Mm × Int32 => f_X11_image_L7 z.1 z.2) (μ, v1) = some res → Wd D (faM ad) (feM tc ad) A s.heap μ H locs → lv_has ls 2 [(0, .ref (ad 0)), (1, .int v1)] → W p l e (rmq 0 0) s m args below meth c H locs 0 0 Q (F0 m 7 ls []) := by
    intro μ v1 H locs ls hf hW hl
    refine Wh_rule hf (fun z : Mm × Int32 => ∀ (H : Heap) (locs : List Loc) (ls : Array Slot), Wd D (faM ad) (feM tc ad) A s.heap z.1 H locs → lv_has ls 2 [(0, .ref (ad 0)), (1, .int z.2)] → W p l e (rmq 0 0) s m args below meth c H locs 0 0 Q (F0 m 7 ls [])) (fun z o1 hf Kl1 Kr1 => ?_) _ _ _ hW hl
    obtain ⟨μ, v1⟩ := z
    intro H locs ls hW hl
    have hf : f_X11_image_L7 μ v1 = some o1 := hf
    unfold f_X11_image_L7 at hf
    have hW : Wd D (faM ad) (feM tc ad) A s.heap μ H locs := hW
    have hl : lv_has ls 2 [(0, .ref (ad 0)), (1, .int v1)] := hl
    refine lv_iload_n hx hb dX11_image_7 rfl (lv_at hl 1 rfl) ?_
    refine lv_sipush (v := 6277) hx hb dX11_image_8 (by decide) ?_
    refine lv_icmp_ge (tgt := 32) hx hb dX11_image_11 (by decide) (fun c1 => ?_) (fun c1 => ?_)
    · have hf := (if_pos c1).symm.trans hf
      obtain ⟨x9002, hf, hx9002⟩ := map_of hf
      have e9002 := (Kr1 _ hx9002.symm).symm
      subst e9002
      refine lv_aload_n hx hb dX11_image_32 rfl (lv_at hl 0 rfl) ?_
      refine lv_iconst (v := 1) hx hb dX11_image_33 (by decide) ?_
      refine pf_X11_95 C hW rfl rfl dX11_image_34 (fun H locs hW => ?_)
      obtain rfl := Option.some.inj hf
      rw [hQ]
      exact r_vret C hr hk hW rfl rfl dX11_image_37
    · have hf := (if_neg c1).symm.trans hf
      refine lv_aload_n hx hb dX11_image_14 rfl (lv_at hl 0 rfl) ?_
      refine gf_X11_17 C hW dX11_image_15 ?_
      refine lv_iload_n hx hb dX11_image_18 rfl (lv_at hl 1 rfl) ?_
      refine lv_aload_n hx hb dX11_image_19 rfl (lv_at hl 0 rfl) ?_
      refine gf_X11_13 C hW dX11_image_20 ?_
      refine lv_iload_n hx hb dX11_image_23 rfl (lv_at hl 1 rfl) ?_
      obtain ⟨hi3, hf⟩ := ck_of hf
      refine r_iald (k := ((1, 0) : Ky)) (n := 7114) C hW rfl rfl hi3 dX11_image_24 ?_
      obtain ⟨hi4, hf⟩ := ck_of hf
      refine r_iast (k := ((2, 0) : Ky)) (n := 6277) C hW rfl (fun _ => rfl) hi4 dX11_image_25 (fun H locs hW => ?_)
      refine lv_iinc (v := (v1 + (1 : Int32))) (lv' := [(1, .int (v1 + (1 : Int32))), (0, .ref (ad 0))]) hx hb dX11_image_26 hl (k := 1) rfl rfl (by decide) rfl (fun ls hl => ?_)
      refine lv_goto (tgt := 7) hx hb dX11_image_29 (by decide) ?_
      obtain rfl := Option.some.inj hf
      exact Kl1 _ rfl _ _ _ hW (lv_sub hl [1, 0] rfl)
  exact L7 (mst μ (0, 0) 0 (0 : Int32)) (0 : Int32) _ _ _ hf hW (lv_sub hl [1, 0] rfl)
set_option maxHeartbeats 4000000 in
set_option maxRecDepth 100000 in
theorem c_X11_back {l : Launch} {D : va_G} {tc : Nat → ClassId} {ro : Ro} {ad : Nat → Nat} {μ : Mm} {res : Int32 × Mm} (hf : f_X11_back μ = some res) : Ct l D tc ro (faM ad) (feM tc ad) yX11_back cX11_back 2 (some .boolean) (rmq 0 0) [.ref (ad 0)] μ (some (.int res.1)) res.2 := by
  refine Ct.of (by decide) (Nat.le_of_ble_eq_true rfl) (fun p e s m args below meth c A C hr hk hW ls hl => ?_)
  have hx := C.1.1
  have hb := C.1.2.1
  obtain ⟨Q, hQ⟩ : ∃ Q, Q = MQ below (Ctq D (faM ad) (feM tc ad) (some (.int res.1)) res.2 A) args s 0 0 A := ⟨_, rfl⟩
  rw [← hQ]
  have hl : lv_has ls 2 [(0, .ref (ad 0))] := hl
  unfold f_X11_back at hf
  refine lv_aload_n hx hb dX11_back_0 rfl (lv_at hl 0 rfl) ?_
  refine lv_iconst (v := 0) hx hb dX11_back_1 (by decide) ?_
  refine pf_X11_3 C hW dX11_back_2 (fun H locs hW => ?_)
  refine lv_aload_n hx hb dX11_back_5 rfl (lv_at hl 0 rfl) ?_
  refine gf_X11_95 C hW dX11_back_6 ?_
  refine lv_if_ne (tgt := 14) hx hb dX11_back_9 (by decide) (fun c1 => ?_) (fun c1 => ?_)
  · have hf := (if_neg c1).symm.trans hf
    refine lv_iconst (v := 0) hx hb dX11_back_14 (by decide) ?_
    refine lv_istore_n (lv' := [(1, .int (0 : Int32)), (0, .ref (ad 0))]) hx hb dX11_back_15 rfl hl (by decide) rfl (fun ls hl => ?_)
    have L16 : ∀ (μ : Mm) (v1 : Int32) (H : Heap) (locs : List Loc) (ls : Array Slot), Wh (fun z : Mm × Int32 => f_X11_back_L16 z.1 z.2) (μ, v1) = some res → Wd D (faM ad) (feM tc ad) A s.heap μ H locs → lv_has ls 2 [(0, .ref (ad 0)), (1, .int v1)] → W p l e (rmq 0 0) s m args below meth c H locs 0 0 Q (F0 m 16 ls []) := by
      intro μ v1 H locs ls hf hW hl
      refine Wh_rule hf (fun z : Mm × Int32 => ∀ (H : Heap) (locs : List Loc) (ls : Array Slot), Wd D (faM ad) (feM tc ad) A s.heap z.1 H locs → lv_has ls 2 [(0, .ref (ad 0)), (1, .int z.2)] → W p l e (rmq 0 0) s m args below meth c H locs 0 0 Q (F0 m 16 ls [])) (fun z o1 hf Kl1 Kr1 => ?_) _ _ _ hW hl
      obtain ⟨μ, v1⟩ := z
      intro H locs ls hW hl
      have hf : f_X11_back_L16 μ v1 = some o1 := hf
      unfold f_X11_back_L16 at hf
      have hW : Wd D (faM ad) (feM tc ad) A s.heap μ H locs := hW
      have hl : lv_has ls 2 [(0, .ref (ad 0)), (1, .int v1)] := hl
      refine lv_iload_n hx hb dX11_back_16 rfl (lv_at hl 1 rfl) ?_
      refine lv_sipush (v := 6277) hx hb dX11_back_17 (by decide) ?_
      refine lv_icmp_ge (tgt := 41) hx hb dX11_back_20 (by decide) (fun c2 => ?_) (fun c2 => ?_)
      · have hf := (if_pos c2).symm.trans hf
        obtain ⟨x9003, hf, hx9003⟩ := map_of hf
        have e9003 := (Kr1 _ hx9003.symm).symm
        subst e9003
        refine lv_aload_n hx hb dX11_back_41 rfl (lv_at hl 0 rfl) ?_
        refine lv_iconst (v := 0) hx hb dX11_back_42 (by decide) ?_
        refine pf_X11_99 C hW dX11_back_43 (fun H locs hW => ?_)
        refine lv_iconst (v := 1) hx hb dX11_back_46 (by decide) ?_
        obtain rfl := Option.some.inj hf
        rw [hQ]
        exact r_zret C hr hk hW (Or.inr rfl) rfl rfl dX11_back_47
      · have hf := (if_neg c2).symm.trans hf
        refine lv_aload_n hx hb dX11_back_23 rfl (lv_at hl 0 rfl) ?_
        refine gf_X11_13 C hW dX11_back_24 ?_
        refine lv_iload_n hx hb dX11_back_27 rfl (lv_at hl 1 rfl) ?_
        refine lv_aload_n hx hb dX11_back_28 rfl (lv_at hl 0 rfl) ?_
        refine gf_X11_17 C hW dX11_back_29 ?_
        refine lv_iload_n hx hb dX11_back_32 rfl (lv_at hl 1 rfl) ?_
        obtain ⟨hi4, hf⟩ := ck_of hf
        refine r_iald (k := ((2, 0) : Ky)) (n := 6277) C hW rfl rfl hi4 dX11_back_33 ?_
        obtain ⟨hi5, hf⟩ := ck_of hf
        refine r_iast (k := ((1, 0) : Ky)) (n := 7114) C hW rfl (fun _ => rfl) hi5 dX11_back_34 (fun H locs hW => ?_)
        refine lv_iinc (v := (v1 + (1 : Int32))) (lv' := [(1, .int (v1 + (1 : Int32))), (0, .ref (ad 0))]) hx hb dX11_back_35 hl (k := 1) rfl rfl (by decide) rfl (fun ls hl => ?_)
        refine lv_goto (tgt := 16) hx hb dX11_back_38 (by decide) ?_
        obtain rfl := Option.some.inj hf
        exact Kl1 _ rfl _ _ _ hW (lv_sub hl [1, 0] rfl)
    exact L16 (mst μ (0, 0) 0 (0 : Int32)) (0 : Int32) _ _ _ hf hW (lv_sub hl [1, 0] rfl)
  · have hf := (if_pos c1).symm.trans hf
    refine lv_iconst (v := 0) hx hb dX11_back_12 (by decide) ?_
    obtain rfl := Option.some.inj hf
    rw [hQ]
    exact r_zret C hr hk hW (Or.inl rfl) rfl rfl dX11_back_13
set_option maxHeartbeats 4000000 in
set_option maxRecDepth 100000 in
theorem c_X11_remembers {l : Launch} {D : va_G} {tc : Nat → ClassId} {ro : Ro} {ad : Nat → Nat} {μ : Mm} {res : Mm} (hf : f_X11_remembers μ = some res) : Ct l D tc ro (faM ad) (feM tc ad) yX11_remembers cX11_remembers 2 none (rmq 0 0) [.ref (ad 0)] μ none res := by
  refine Ct.of (by decide) (Nat.le_of_ble_eq_true rfl) (fun p e s m args below meth c A C hr hk hW ls hl => ?_)
  have hx := C.1.1
  have hb := C.1.2.1
  obtain ⟨Q, hQ⟩ : ∃ Q, Q = MQ below (Ctq D (faM ad) (feM tc ad) none res A) args s 0 0 A := ⟨_, rfl⟩
  rw [← hQ]
  have hl : lv_has ls 2 [(0, .ref (ad 0))] := hl
  unfold f_X11_remembers at hf
  have J52 : ∀ (μ : Mm) (H : Heap) (locs : List Loc) (ls : Array Slot), f_X11_remembers_J52 μ = some res → Wd D (faM ad) (feM tc ad) A s.heap μ H locs → lv_has ls 2 [(0, .ref (ad 0))] → W p l e (rmq 0 0) s m args below meth c H locs 0 0 Q (F0 m 52 ls []) := by
    intro μ H locs ls hf hW hl
    unfold f_X11_remembers_J52 at hf
    refine lv_iconst (v := 0) hx hb dX11_remembers_52 (by decide) ?_
    refine lv_istore_n (lv' := [(1, .int (0 : Int32)), (0, .ref (ad 0))]) hx hb dX11_remembers_53 rfl hl (by decide) rfl (fun ls hl => ?_)
    have L54 : ∀ (μ : Mm) (v1 : Int32) (H : Heap) (locs : List Loc) (ls : Array Slot), Wh (fun z : Mm × Int32 => f_X11_remembers_L54 z.1 z.2) (μ, v1) = some res → Wd D (faM ad) (feM tc ad) A s.heap μ H locs → lv_has ls 2 [(0, .ref (ad 0)), (1, .int v1)] → W p l e (rmq 0 0) s m args below meth c H locs 0 0 Q (F0 m 54 ls []) := by
      intro μ v1 H locs ls hf hW hl
      refine Wh_rule hf (fun z : Mm × Int32 => ∀ (H : Heap) (locs : List Loc) (ls : Array Slot), Wd D (faM ad) (feM tc ad) A s.heap z.1 H locs → lv_has ls 2 [(0, .ref (ad 0)), (1, .int z.2)] → W p l e (rmq 0 0) s m args below meth c H locs 0 0 Q (F0 m 54 ls [])) (fun z o1 hf Kl1 Kr1 => ?_) _ _ _ hW hl
      obtain ⟨μ, v1⟩ := z
      intro H locs ls hW hl
      have hf : f_X11_remembers_L54 μ v1 = some o1 := hf
      unfold f_X11_remembers_L54 at hf
      have hW : Wd D (faM ad) (feM tc ad) A s.heap μ H locs := hW
      have hl : lv_has ls 2 [(0, .ref (ad 0)), (1, .int v1)] := hl
      refine lv_iload_n hx hb dX11_remembers_54 rfl (lv_at hl 1 rfl) ?_
      refine lv_sipush (v := 5440) hx hb dX11_remembers_55 (by decide) ?_
      refine lv_icmp_ge (tgt := 90) hx hb dX11_remembers_58 (by decide) (fun c1 => ?_) (fun c1 => ?_)
      · have hf := (if_pos c1).symm.trans hf
        obtain ⟨x9003, hf, hx9003⟩ := map_of hf
        have e9003 := (Kr1 _ hx9003.symm).symm
        subst e9003
        refine lv_aload_n hx hb dX11_remembers_90 rfl (lv_at hl 0 rfl) ?_
        refine gf_X11_13 C hW dX11_remembers_91 ?_
        refine lv_bipush (v := 7) hx hb dX11_remembers_94 (by decide) ?_
        refine lv_iconst (v := 1) hx hb dX11_remembers_96 (by decide) ?_
        obtain ⟨hi2, hf⟩ := ck_of hf
        refine r_iast (k := ((1, 0) : Ky)) (n := 7114) C hW rfl (fun _ => rfl) hi2 dX11_remembers_97 (fun H locs hW => ?_)
        obtain rfl := Option.some.inj hf
        rw [hQ]
        exact r_vret C hr hk hW rfl rfl dX11_remembers_98
      · have hf := (if_neg c1).symm.trans hf
        refine lv_aload_n hx hb dX11_remembers_61 rfl (lv_at hl 0 rfl) ?_
        refine gf_X11_27 C hW dX11_remembers_62 ?_
        refine lv_sipush (v := 5440) hx hb dX11_remembers_65 (by decide) ?_
        refine lv_aload_n hx hb dX11_remembers_68 rfl (lv_at hl 0 rfl) ?_
        refine gf_X11_99 C hW dX11_remembers_69 ?_
        refine lv_iconst (v := 1) hx hb dX11_remembers_72 (by decide) ?_
        refine lv_isub hx hb dX11_remembers_73 ?_
        refine lv_imul hx hb dX11_remembers_74 ?_
        refine lv_iload_n hx hb dX11_remembers_75 rfl (lv_at hl 1 rfl) ?_
        refine lv_iadd hx hb dX11_remembers_76 ?_
        refine lv_aload_n hx hb dX11_remembers_77 rfl (lv_at hl 0 rfl) ?_
        refine gf_X11_13 C hW dX11_remembers_78 ?_
        refine lv_iload_n hx hb dX11_remembers_81 rfl (lv_at hl 1 rfl) ?_
        obtain ⟨hi4, hf⟩ := ck_of hf
        refine r_iald (k := ((1, 0) : Ky)) (n := 7114) C hW rfl rfl hi4 dX11_remembers_82 ?_
        obtain ⟨hi5, hf⟩ := ck_of hf
        refine r_iast (k := ((5, 0) : Ky)) (n := 43520) C hW rfl (fun _ => rfl) hi5 dX11_remembers_83 (fun H locs hW => ?_)
        refine lv_iinc (v := (v1 + (1 : Int32))) (lv' := [(1, .int (v1 + (1 : Int32))), (0, .ref (ad 0))]) hx hb dX11_remembers_84 hl (k := 1) rfl rfl (by decide) rfl (fun ls hl => ?_)
        refine lv_goto (tgt := 54) hx hb dX11_remembers_87 (by decide) ?_
        obtain rfl := Option.some.inj hf
        exact Kl1 _ rfl _ _ _ hW (lv_sub hl [1, 0] rfl)
    exact L54 μ (0 : Int32) _ _ _ hf hW (lv_sub hl [1, 0] rfl)
  refine lv_aload_n hx hb dX11_remembers_0 rfl (lv_at hl 0 rfl) ?_
  refine gf_X11_99 C hW dX11_remembers_1 ?_
  refine lv_bipush (v := 8) hx hb dX11_remembers_4 (by decide) ?_
  refine lv_icmp_ne (tgt := 42) hx hb dX11_remembers_6 (by decide) (fun c6 => ?_) (fun c6 => ?_)
  · have hf := (if_neg c6).symm.trans hf
    refine lv_aload_n hx hb dX11_remembers_42 rfl (lv_at hl 0 rfl) ?_
    refine lv_dup hx hb dX11_remembers_43 rfl ?_
    refine gf_X11_99 C hW dX11_remembers_44 ?_
    refine lv_iconst (v := 1) hx hb dX11_remembers_47 (by decide) ?_
    refine lv_iadd hx hb dX11_remembers_48 ?_
    refine pf_X11_99 C hW dX11_remembers_49 (fun H locs hW => ?_)
    exact J52 (mst μ (0, 0) 7 ((μ (0, 0) 7) + (1 : Int32))) _ _ _ hf hW (lv_sub hl [0] rfl)
  · have hf := (if_pos c6).symm.trans hf
    refine lv_iconst (v := 0) hx hb dX11_remembers_9 (by decide) ?_
    refine lv_istore_n (lv' := [(1, .int (0 : Int32)), (0, .ref (ad 0))]) hx hb dX11_remembers_10 rfl hl (by decide) rfl (fun ls hl => ?_)
    have L11 : ∀ (μ : Mm) (v1 : Int32) (H : Heap) (locs : List Loc) (ls : Array Slot), Wh (fun z : Mm × Int32 => f_X11_remembers_L11 z.1 z.2) (μ, v1) = some res → Wd D (faM ad) (feM tc ad) A s.heap μ H locs → lv_has ls 2 [(0, .ref (ad 0)), (1, .int v1)] → W p l e (rmq 0 0) s m args below meth c H locs 0 0 Q (F0 m 11 ls []) := by
      intro μ v1 H locs ls hf hW hl
      refine Wh_rule hf (fun z : Mm × Int32 => ∀ (H : Heap) (locs : List Loc) (ls : Array Slot), Wd D (faM ad) (feM tc ad) A s.heap z.1 H locs → lv_has ls 2 [(0, .ref (ad 0)), (1, .int z.2)] → W p l e (rmq 0 0) s m args below meth c H locs 0 0 Q (F0 m 11 ls [])) (fun z o1 hf Kl1 Kr1 => ?_) _ _ _ hW hl
      obtain ⟨μ, v1⟩ := z
      intro H locs ls hW hl
      have hf : f_X11_remembers_L11 μ v1 = some o1 := hf
      unfold f_X11_remembers_L11 at hf
      have hW : Wd D (faM ad) (feM tc ad) A s.heap μ H locs := hW
      have hl : lv_has ls 2 [(0, .ref (ad 0)), (1, .int v1)] := hl
      refine lv_iload_n hx hb dX11_remembers_11 rfl (lv_at hl 1 rfl) ?_
      refine lv_ldc (v := 38080) hx hb C.1.2.2.2.1 (C.1.2.2.2.2 _ kw_2375) dX11_remembers_12 ?_
      refine lv_icmp_ge (tgt := 39) hx hb dX11_remembers_14 (by decide) (fun c7 => ?_) (fun c7 => ?_)
      · have hf := (if_pos c7).symm.trans hf
        obtain ⟨x9008, hf, hx9008⟩ := map_of hf
        have e9008 := (Kr1 _ hx9008.symm).symm
        subst e9008
        refine lv_goto (tgt := 52) hx hb dX11_remembers_39 (by decide) ?_
        exact J52 μ _ _ _ hf hW (lv_sub hl [0] rfl)
      · have hf := (if_neg c7).symm.trans hf
        refine lv_aload_n hx hb dX11_remembers_17 rfl (lv_at hl 0 rfl) ?_
        refine gf_X11_27 C hW dX11_remembers_18 ?_
        refine lv_iload_n hx hb dX11_remembers_21 rfl (lv_at hl 1 rfl) ?_
        refine lv_aload_n hx hb dX11_remembers_22 rfl (lv_at hl 0 rfl) ?_
        refine gf_X11_27 C hW dX11_remembers_23 ?_
        refine lv_iload_n hx hb dX11_remembers_26 rfl (lv_at hl 1 rfl) ?_
        refine lv_sipush (v := 5440) hx hb dX11_remembers_27 (by decide) ?_
        refine lv_iadd hx hb dX11_remembers_30 ?_
        obtain ⟨hi9, hf⟩ := ck_of hf
        refine r_iald (k := ((5, 0) : Ky)) (n := 43520) C hW rfl rfl hi9 dX11_remembers_31 ?_
        obtain ⟨hi10, hf⟩ := ck_of hf
        refine r_iast (k := ((5, 0) : Ky)) (n := 43520) C hW rfl (fun _ => rfl) hi10 dX11_remembers_32 (fun H locs hW => ?_)
        refine lv_iinc (v := (v1 + (1 : Int32))) (lv' := [(1, .int (v1 + (1 : Int32))), (0, .ref (ad 0))]) hx hb dX11_remembers_33 hl (k := 1) rfl rfl (by decide) rfl (fun ls hl => ?_)
        refine lv_goto (tgt := 11) hx hb dX11_remembers_36 (by decide) ?_
        obtain rfl := Option.some.inj hf
        exact Kl1 _ rfl _ _ _ hW (lv_sub hl [1, 0] rfl)
    exact L11 μ (0 : Int32) _ _ _ hf hW (lv_sub hl [1, 0] rfl)
set_option maxHeartbeats 4000000 in
set_option maxRecDepth 100000 in
theorem c_X11_undo {l : Launch} {D : va_G} {tc : Nat → ClassId} {ro : Ro} {ad : Nat → Nat} {μ : Mm} {res : Int32 × Mm} (hf : f_X11_undo μ = some res) : Ct l D tc ro (faM ad) (feM tc ad) yX11_undo cX11_undo 2 (some .boolean) (rmq 0 0) [.ref (ad 0)] μ (some (.int res.1)) res.2 := by
  refine Ct.of (by decide) (Nat.le_of_ble_eq_true rfl) (fun p e s m args below meth c A C hr hk hW ls hl => ?_)
  have hx := C.1.1
  have hb := C.1.2.1
  obtain ⟨Q, hQ⟩ : ∃ Q, Q = MQ below (Ctq D (faM ad) (feM tc ad) (some (.int res.1)) res.2 A) args s 0 0 A := ⟨_, rfl⟩
  rw [← hQ]
  have hl : lv_has ls 2 [(0, .ref (ad 0))] := hl
  unfold f_X11_undo at hf
  refine lv_aload_n hx hb dX11_undo_0 rfl (lv_at hl 0 rfl) ?_
  refine lv_iconst (v := 0) hx hb dX11_undo_1 (by decide) ?_
  refine pf_X11_3 C hW dX11_undo_2 (fun H locs hW => ?_)
  refine lv_aload_n hx hb dX11_undo_5 rfl (lv_at hl 0 rfl) ?_
  refine gf_X11_99 C hW dX11_undo_6 ?_
  refine lv_if_ne (tgt := 14) hx hb dX11_undo_9 (by decide) (fun c1 => ?_) (fun c1 => ?_)
  · have hf := (if_neg c1).symm.trans hf
    refine lv_aload_n hx hb dX11_undo_14 rfl (lv_at hl 0 rfl) ?_
    refine lv_dup hx hb dX11_undo_15 rfl ?_
    refine gf_X11_99 C hW dX11_undo_16 ?_
    refine lv_iconst (v := 1) hx hb dX11_undo_19 (by decide) ?_
    refine lv_isub hx hb dX11_undo_20 ?_
    refine pf_X11_99 C hW dX11_undo_21 (fun H locs hW => ?_)
    refine lv_iconst (v := 0) hx hb dX11_undo_24 (by decide) ?_
    refine lv_istore_n (lv' := [(1, .int (0 : Int32)), (0, .ref (ad 0))]) hx hb dX11_undo_25 rfl hl (by decide) rfl (fun ls hl => ?_)
    have L26 : ∀ (μ : Mm) (v1 : Int32) (H : Heap) (locs : List Loc) (ls : Array Slot), Wh (fun z : Mm × Int32 => f_X11_undo_L26 z.1 z.2) (μ, v1) = some res → Wd D (faM ad) (feM tc ad) A s.heap μ H locs → lv_has ls 2 [(0, .ref (ad 0)), (1, .int v1)] → W p l e (rmq 0 0) s m args below meth c H locs 0 0 Q (F0 m 26 ls []) := by
      intro μ v1 H locs ls hf hW hl
      refine Wh_rule hf (fun z : Mm × Int32 => ∀ (H : Heap) (locs : List Loc) (ls : Array Slot), Wd D (faM ad) (feM tc ad) A s.heap z.1 H locs → lv_has ls 2 [(0, .ref (ad 0)), (1, .int z.2)] → W p l e (rmq 0 0) s m args below meth c H locs 0 0 Q (F0 m 26 ls [])) (fun z o1 hf Kl1 Kr1 => ?_) _ _ _ hW hl
      obtain ⟨μ, v1⟩ := z
      intro H locs ls hW hl
      have hf : f_X11_undo_L26 μ v1 = some o1 := hf
      unfold f_X11_undo_L26 at hf
      have hW : Wd D (faM ad) (feM tc ad) A s.heap μ H locs := hW
      have hl : lv_has ls 2 [(0, .ref (ad 0)), (1, .int v1)] := hl
      refine lv_iload_n hx hb dX11_undo_26 rfl (lv_at hl 1 rfl) ?_
      refine lv_sipush (v := 5440) hx hb dX11_undo_27 (by decide) ?_
      refine lv_icmp_ge (tgt := 60) hx hb dX11_undo_30 (by decide) (fun c2 => ?_) (fun c2 => ?_)
      · have hf := (if_pos c2).symm.trans hf
        obtain ⟨x9004, hf, hx9004⟩ := map_of hf
        have e9004 := (Kr1 _ hx9004.symm).symm
        subst e9004
        refine lv_aload_n hx hb dX11_undo_60 rfl (lv_at hl 0 rfl) ?_
        refine gf_X11_13 C hW dX11_undo_61 ?_
        refine lv_bipush (v := 7) hx hb dX11_undo_64 (by decide) ?_
        refine lv_iconst (v := 1) hx hb dX11_undo_66 (by decide) ?_
        obtain ⟨hi3, hf⟩ := ck_of hf
        refine r_iast (k := ((1, 0) : Ky)) (n := 7114) C hW rfl (fun _ => rfl) hi3 dX11_undo_67 (fun H locs hW => ?_)
        refine lv_iconst (v := 1) hx hb dX11_undo_68 (by decide) ?_
        obtain rfl := Option.some.inj hf
        rw [hQ]
        exact r_zret C hr hk hW (Or.inr rfl) rfl rfl dX11_undo_69
      · have hf := (if_neg c2).symm.trans hf
        refine lv_aload_n hx hb dX11_undo_33 rfl (lv_at hl 0 rfl) ?_
        refine gf_X11_13 C hW dX11_undo_34 ?_
        refine lv_iload_n hx hb dX11_undo_37 rfl (lv_at hl 1 rfl) ?_
        refine lv_aload_n hx hb dX11_undo_38 rfl (lv_at hl 0 rfl) ?_
        refine gf_X11_27 C hW dX11_undo_39 ?_
        refine lv_sipush (v := 5440) hx hb dX11_undo_42 (by decide) ?_
        refine lv_aload_n hx hb dX11_undo_45 rfl (lv_at hl 0 rfl) ?_
        refine gf_X11_99 C hW dX11_undo_46 ?_
        refine lv_imul hx hb dX11_undo_49 ?_
        refine lv_iload_n hx hb dX11_undo_50 rfl (lv_at hl 1 rfl) ?_
        refine lv_iadd hx hb dX11_undo_51 ?_
        obtain ⟨hi5, hf⟩ := ck_of hf
        refine r_iald (k := ((5, 0) : Ky)) (n := 43520) C hW rfl rfl hi5 dX11_undo_52 ?_
        obtain ⟨hi6, hf⟩ := ck_of hf
        refine r_iast (k := ((1, 0) : Ky)) (n := 7114) C hW rfl (fun _ => rfl) hi6 dX11_undo_53 (fun H locs hW => ?_)
        refine lv_iinc (v := (v1 + (1 : Int32))) (lv' := [(1, .int (v1 + (1 : Int32))), (0, .ref (ad 0))]) hx hb dX11_undo_54 hl (k := 1) rfl rfl (by decide) rfl (fun ls hl => ?_)
        refine lv_goto (tgt := 26) hx hb dX11_undo_57 (by decide) ?_
        obtain rfl := Option.some.inj hf
        exact Kl1 _ rfl _ _ _ hW (lv_sub hl [1, 0] rfl)
    exact L26 (mst (mst μ (0, 0) 0 (0 : Int32)) (0, 0) 7 (((mst μ (0, 0) 0 (0 : Int32)) (0, 0) 7) - (1 : Int32))) (0 : Int32) _ _ _ hf hW (lv_sub hl [1, 0] rfl)
  · have hf := (if_pos c1).symm.trans hf
    refine lv_iconst (v := 0) hx hb dX11_undo_12 (by decide) ?_
    obtain rfl := Option.some.inj hf
    rw [hQ]
    exact r_zret C hr hk hW (Or.inl rfl) rfl rfl dX11_undo_13
set_option maxHeartbeats 4000000 in
set_option maxRecDepth 100000 in
theorem c_X11_values {l : Launch} {D : va_G} {tc : Nat → ClassId} {ro : Ro} {ad : Nat → Nat} {μ : Mm} {res : Int32} (hf : f_X11_values μ = some res) : Ct l D tc ro (faM ad) (feM tc ad) yX11_values cX11_values 1 (some .int) (rmq 0 0) [.ref (ad 0)] μ (some (.int res)) μ := by
  refine Ct.of (by decide) (Nat.le_of_ble_eq_true rfl) (fun p e s m args below meth c A C hr hk hW ls hl => ?_)
  have hx := C.1.1
  have hb := C.1.2.1
  obtain ⟨Q, hQ⟩ : ∃ Q, Q = MQ below (Ctq D (faM ad) (feM tc ad) (some (.int res)) μ A) args s 0 0 A := ⟨_, rfl⟩
  rw [← hQ]
  have hl : lv_has ls 1 [(0, .ref (ad 0))] := hl
  unfold f_X11_values at hf
  refine lv_aload_n hx hb dX11_values_0 rfl (lv_at hl 0 rfl) ?_
  refine gf_X11_13 C hW dX11_values_1 ?_
  refine lv_iconst (v := 0) hx hb dX11_values_4 (by decide) ?_
  obtain ⟨hi1, hf⟩ := ck_of hf
  refine r_iald (k := ((1, 0) : Ky)) (n := 7114) C hW rfl rfl hi1 dX11_values_5 ?_
  obtain rfl := Option.some.inj hf
  rw [hQ]
  exact r_iret C hr hk hW rfl rfl dX11_values_6
set_option maxHeartbeats 4000000 in
set_option maxRecDepth 100000 in
theorem c_X11_people {l : Launch} {D : va_G} {tc : Nat → ClassId} {ro : Ro} {ad : Nat → Nat} {μ : Mm} {res : Int32} (hf : f_X11_people μ = some res) : Ct l D tc ro (faM ad) (feM tc ad) yX11_people cX11_people 1 (some .int) (rmq 0 0) [.ref (ad 0)] μ (some (.int res)) μ := by
  refine Ct.of (by decide) (Nat.le_of_ble_eq_true rfl) (fun p e s m args below meth c A C hr hk hW ls hl => ?_)
  have hx := C.1.1
  have hb := C.1.2.1
  obtain ⟨Q, hQ⟩ : ∃ Q, Q = MQ below (Ctq D (faM ad) (feM tc ad) (some (.int res)) μ A) args s 0 0 A := ⟨_, rfl⟩
  rw [← hQ]
  have hl : lv_has ls 1 [(0, .ref (ad 0))] := hl
  unfold f_X11_people at hf
  refine lv_aload_n hx hb dX11_people_0 rfl (lv_at hl 0 rfl) ?_
  refine gf_X11_13 C hW dX11_people_1 ?_
  refine lv_iconst (v := 1) hx hb dX11_people_4 (by decide) ?_
  obtain ⟨hi1, hf⟩ := ck_of hf
  refine r_iald (k := ((1, 0) : Ky)) (n := 7114) C hW rfl rfl hi1 dX11_people_5 ?_
  obtain rfl := Option.some.inj hf
  rw [hQ]
  exact r_iret C hr hk hW rfl rfl dX11_people_6
set_option maxHeartbeats 4000000 in
set_option maxRecDepth 100000 in
theorem c_X11_worlds {l : Launch} {D : va_G} {tc : Nat → ClassId} {ro : Ro} {ad : Nat → Nat} {μ : Mm} {res : Int32} (hf : f_X11_worlds μ = some res) : Ct l D tc ro (faM ad) (feM tc ad) yX11_worlds cX11_worlds 1 (some .int) (rmq 0 0) [.ref (ad 0)] μ (some (.int res)) μ := by
  refine Ct.of (by decide) (Nat.le_of_ble_eq_true rfl) (fun p e s m args below meth c A C hr hk hW ls hl => ?_)
  have hx := C.1.1
  have hb := C.1.2.1
  obtain ⟨Q, hQ⟩ : ∃ Q, Q = MQ below (Ctq D (faM ad) (feM tc ad) (some (.int res)) μ A) args s 0 0 A := ⟨_, rfl⟩
  rw [← hQ]
  have hl : lv_has ls 1 [(0, .ref (ad 0))] := hl
  unfold f_X11_worlds at hf
  refine lv_aload_n hx hb dX11_worlds_0 rfl (lv_at hl 0 rfl) ?_
  refine gf_X11_13 C hW dX11_worlds_1 ?_
  refine lv_bipush (v := 10) hx hb dX11_worlds_4 (by decide) ?_
  obtain ⟨hi1, hf⟩ := ck_of hf
  refine r_iald (k := ((1, 0) : Ky)) (n := 7114) C hW rfl rfl hi1 dX11_worlds_6 ?_
  obtain rfl := Option.some.inj hf
  rw [hQ]
  exact r_iret C hr hk hW rfl rfl dX11_worlds_7
set_option maxHeartbeats 4000000 in
set_option maxRecDepth 100000 in
theorem c_X11_here {l : Launch} {D : va_G} {tc : Nat → ClassId} {ro : Ro} {ad : Nat → Nat} {μ : Mm} {res : Int32} (hf : f_X11_here μ = some res) : Ct l D tc ro (faM ad) (feM tc ad) yX11_here cX11_here 1 (some .int) (rmq 0 0) [.ref (ad 0)] μ (some (.int res)) μ := by
  refine Ct.of (by decide) (Nat.le_of_ble_eq_true rfl) (fun p e s m args below meth c A C hr hk hW ls hl => ?_)
  have hx := C.1.1
  have hb := C.1.2.1
  obtain ⟨Q, hQ⟩ : ∃ Q, Q = MQ below (Ctq D (faM ad) (feM tc ad) (some (.int res)) μ A) args s 0 0 A := ⟨_, rfl⟩
  rw [← hQ]
  have hl : lv_has ls 1 [(0, .ref (ad 0))] := hl
  unfold f_X11_here at hf
  refine lv_aload_n hx hb dX11_here_0 rfl (lv_at hl 0 rfl) ?_
  refine gf_X11_13 C hW dX11_here_1 ?_
  refine lv_bipush (v := 6) hx hb dX11_here_4 (by decide) ?_
  obtain ⟨hi1, hf⟩ := ck_of hf
  refine r_iald (k := ((1, 0) : Ky)) (n := 7114) C hW rfl rfl hi1 dX11_here_6 ?_
  obtain rfl := Option.some.inj hf
  rw [hQ]
  exact r_iret C hr hk hW rfl rfl dX11_here_7
set_option maxHeartbeats 4000000 in
set_option maxRecDepth 100000 in
theorem c_X11_isLeft {l : Launch} {D : va_G} {tc : Nat → ClassId} {ro : Ro} {ad : Nat → Nat} {μ : Mm} {v1 : Int32} {res : Int32} (hf : f_X11_isLeft μ v1 = some res) : Ct l D tc ro (faM ad) (feM tc ad) yX11_isLeft cX11_isLeft 2 (some .boolean) (rmq 0 0) [.ref (ad 0), .int v1] μ (some (.int res)) μ := by
  refine Ct.of (by decide) (Nat.le_of_ble_eq_true rfl) (fun p e s m args below meth c A C hr hk hW ls hl => ?_)
  have hx := C.1.1
  have hb := C.1.2.1
  obtain ⟨Q, hQ⟩ : ∃ Q, Q = MQ below (Ctq D (faM ad) (feM tc ad) (some (.int res)) μ A) args s 0 0 A := ⟨_, rfl⟩
  rw [← hQ]
  have hl : lv_has ls 2 [(0, .ref (ad 0)), (1, .int v1)] := hl
  unfold f_X11_isLeft at hf
  refine lv_aload_n hx hb dX11_isLeft_0 rfl (lv_at hl 0 rfl) ?_
  refine gf_X11_13 C hW dX11_isLeft_1 ?_
  refine lv_bipush (v := 20) hx hb dX11_isLeft_4 (by decide) ?_
  refine lv_iload_n hx hb dX11_isLeft_6 rfl (lv_at hl 1 rfl) ?_
  refine lv_iadd hx hb dX11_isLeft_7 ?_
  obtain ⟨hi1, hf⟩ := ck_of hf
  refine r_iald (k := ((1, 0) : Ky)) (n := 7114) C hW rfl rfl hi1 dX11_isLeft_8 ?_
  refine lv_iconst (v := 1) hx hb dX11_isLeft_9 (by decide) ?_
  refine lv_icmp_ne (tgt := 17) hx hb dX11_isLeft_10 (by decide) (fun c2 => ?_) (fun c2 => ?_)
  · have hf := (if_neg c2).symm.trans hf
    refine lv_iconst (v := 0) hx hb dX11_isLeft_17 (by decide) ?_
    obtain rfl := Option.some.inj hf
    rw [hQ]
    exact r_zret C hr hk hW (Or.inl rfl) rfl rfl dX11_isLeft_18
  · have hf := (if_pos c2).symm.trans hf
    refine lv_iconst (v := 1) hx hb dX11_isLeft_13 (by decide) ?_
    refine lv_goto (tgt := 18) hx hb dX11_isLeft_14 (by decide) ?_
    obtain rfl := Option.some.inj hf
    rw [hQ]
    exact r_zret C hr hk hW (Or.inr rfl) rfl rfl dX11_isLeft_18
set_option maxHeartbeats 4000000 in
set_option maxRecDepth 100000 in
theorem c_X11_label {l : Launch} {D : va_G} {tc : Nat → ClassId} {ro : Ro} {ad : Nat → Nat} {μ : Mm} {v1 v2 : Int32} {res : Int32} (hf : f_X11_label μ v1 v2 = some res) : Ct l D tc ro (faM ad) (feM tc ad) yX11_label cX11_label 3 (some .int) (rmq 0 0) [.ref (ad 0), .int v1, .int v2] μ (some (.int res)) μ := by
  refine Ct.of (by decide) (Nat.le_of_ble_eq_true rfl) (fun p e s m args below meth c A C hr hk hW ls hl => ?_)
  have hx := C.1.1
  have hb := C.1.2.1
  obtain ⟨Q, hQ⟩ : ∃ Q, Q = MQ below (Ctq D (faM ad) (feM tc ad) (some (.int res)) μ A) args s 0 0 A := ⟨_, rfl⟩
  rw [← hQ]
  have hl : lv_has ls 3 [(0, .ref (ad 0)), (1, .int v1), (2, .int v2)] := hl
  unfold f_X11_label at hf
  refine lv_aload_n hx hb dX11_label_0 rfl (lv_at hl 0 rfl) ?_
  refine gf_X11_13 C hW dX11_label_1 ?_
  refine lv_sipush (v := 532) hx hb dX11_label_4 (by decide) ?_
  refine lv_sipush (v := 512) hx hb dX11_label_7 (by decide) ?_
  refine lv_iload_n hx hb dX11_label_10 rfl (lv_at hl 1 rfl) ?_
  refine lv_imul hx hb dX11_label_11 ?_
  refine lv_iadd hx hb dX11_label_12 ?_
  refine lv_iload_n hx hb dX11_label_13 rfl (lv_at hl 2 rfl) ?_
  refine lv_iadd hx hb dX11_label_14 ?_
  obtain ⟨hi1, hf⟩ := ck_of hf
  refine r_iald (k := ((1, 0) : Ky)) (n := 7114) C hW rfl rfl hi1 dX11_label_15 ?_
  obtain rfl := Option.some.inj hf
  rw [hQ]
  exact r_iret C hr hk hW rfl rfl dX11_label_16
set_option maxHeartbeats 4000000 in
set_option maxRecDepth 100000 in
theorem c_X11_isSeeing {l : Launch} {D : va_G} {tc : Nat → ClassId} {ro : Ro} {ad : Nat → Nat} {μ : Mm} {v1 v2 : Int32} {res : Int32} (hf : f_X11_isSeeing μ v1 v2 = some res) : Ct l D tc ro (faM ad) (feM tc ad) yX11_isSeeing cX11_isSeeing 3 (some .boolean) (rmq 1 21) [.ref (ad 0), .int v1, .int v2] μ (some (.int res)) μ := by
  refine Ct.of (by decide) (Nat.le_of_ble_eq_true rfl) (fun p e s m args below meth c A C hr hk hW ls hl => ?_)
  have hx := C.1.1
  have hb := C.1.2.1
  obtain ⟨Q, hQ⟩ : ∃ Q, Q = MQ below (Ctq D (faM ad) (feM tc ad) (some (.int res)) μ A) args s 0 0 A := ⟨_, rfl⟩
  rw [← hQ]
  have hl : lv_has ls 3 [(0, .ref (ad 0)), (1, .int v1), (2, .int v2)] := hl
  unfold f_X11_isSeeing at hf
  refine lv_aload_n hx hb dX11_isSeeing_0 rfl (lv_at hl 0 rfl) ?_
  refine gf_X11_13 C hW dX11_isSeeing_1 ?_
  refine lv_bipush (v := 11) hx hb dX11_isSeeing_4 (by decide) ?_
  refine lv_iload_n hx hb dX11_isSeeing_6 rfl (lv_at hl 1 rfl) ?_
  refine lv_iadd hx hb dX11_isSeeing_7 ?_
  obtain ⟨hi1, hf⟩ := ck_of hf
  refine r_iald (k := ((1, 0) : Ky)) (n := 7114) C hW rfl rfl hi1 dX11_isSeeing_8 ?_
  refine lv_iload_n hx hb dX11_isSeeing_9 rfl (lv_at hl 2 rfl) ?_
  obtain ⟨x10, h10, hf⟩ := bd_of hf
  refine r_callS C hW hl lk_X11_103 (c_X11_has h10) ⟨rfl, rfl⟩ ⟨Nat.le_of_ble_eq_true rfl, Nat.le_of_ble_eq_true rfl⟩ (As := [.int (μ (1, 0) ((11 : Int32) + v1).toNatClampNeg), .int v2]) (rest := []) rfl rfl (Nat.le_of_ble_eq_true rfl) dX11_isSeeing_10 ⟨Nat.zero_le _, Nat.zero_le _⟩ (fun H locs hW => ?_)
  show W p l e (rmq 1 21) s m args below meth c H locs 0 0 Q (F0 m 13 ls [.int x10])
  obtain ⟨hz3, hf⟩ := cb_of hf
  obtain rfl := Option.some.inj hf
  rw [hQ]
  exact r_zret C hr hk hW hz3 rfl rfl dX11_isSeeing_13
set_option maxHeartbeats 4000000 in
set_option maxRecDepth 100000 in
theorem c_X11_noPerson {l : Launch} {D : va_G} {tc : Nat → ClassId} {ro : Ro} {ad : Nat → Nat} {μ : Mm} {v1 : Int32} {res : Int32} (hf : f_X11_noPerson μ v1 = some res) : Ct l D tc ro (faM ad) (feM tc ad) yX11_noPerson cX11_noPerson 2 (some .boolean) (rmq 1 22) [.ref (ad 0), .int v1] μ (some (.int res)) μ := by
  refine Ct.of (by decide) (Nat.le_of_ble_eq_true rfl) (fun p e s m args below meth c A C hr hk hW ls hl => ?_)
  have hx := C.1.1
  have hb := C.1.2.1
  obtain ⟨Q, hQ⟩ : ∃ Q, Q = MQ below (Ctq D (faM ad) (feM tc ad) (some (.int res)) μ A) args s 0 0 A := ⟨_, rfl⟩
  rw [← hQ]
  have hl : lv_has ls 2 [(0, .ref (ad 0)), (1, .int v1)] := hl
  unfold f_X11_noPerson at hf
  refine lv_iload_n hx hb dX11_noPerson_0 rfl (lv_at hl 1 rfl) ?_
  refine lv_iconst (v := 0) hx hb dX11_noPerson_1 (by decide) ?_
  refine lv_aload_n hx hb dX11_noPerson_2 rfl (lv_at hl 0 rfl) ?_
  obtain ⟨x3, h3, hf⟩ := bd_of hf
  refine r_callV (k := ((0, 0) : Ky)) C hW hl lk_X11_107 (c_X11_people h3) ⟨rfl, rfl⟩ ⟨Nat.le_of_ble_eq_true rfl, Nat.le_of_ble_eq_true rfl⟩ rfl rfl rfl (As := []) (rest := [.int (0 : Int32), .int v1]) rfl rfl (Nat.le_of_ble_eq_true rfl) dX11_noPerson_3 ⟨Nat.zero_le _, Nat.zero_le _⟩ (fun H locs hW => ?_)
  show W p l e (rmq 1 22) s m args below meth c H locs 0 0 Q (F0 m 6 ls [.int x3, .int (0 : Int32), .int v1])
  refine lv_iconst (v := 1) hx hb dX11_noPerson_6 (by decide) ?_
  refine lv_isub hx hb dX11_noPerson_7 ?_
  obtain ⟨x8, h8, hf⟩ := bd_of hf
  refine r_callS C hW hl lk_X11_111 (c_X11_in h8) ⟨rfl, rfl⟩ ⟨Nat.le_of_ble_eq_true rfl, Nat.le_of_ble_eq_true rfl⟩ (As := [.int v1, .int (0 : Int32), .int (x3 - (1 : Int32))]) (rest := []) rfl rfl (Nat.le_of_ble_eq_true rfl) dX11_noPerson_8 ⟨Nat.zero_le _, Nat.zero_le _⟩ (fun H locs hW => ?_)
  show W p l e (rmq 1 22) s m args below meth c H locs 0 0 Q (F0 m 11 ls [.int x8])
  refine lv_if_ne (tgt := 18) hx hb dX11_noPerson_11 (by decide) (fun c3 => ?_) (fun c3 => ?_)
  · have hf := (if_neg c3).symm.trans hf
    refine lv_iconst (v := 0) hx hb dX11_noPerson_18 (by decide) ?_
    obtain rfl := Option.some.inj hf
    rw [hQ]
    exact r_zret C hr hk hW (Or.inl rfl) rfl rfl dX11_noPerson_19
  · have hf := (if_pos c3).symm.trans hf
    refine lv_iconst (v := 1) hx hb dX11_noPerson_14 (by decide) ?_
    refine lv_goto (tgt := 19) hx hb dX11_noPerson_15 (by decide) ?_
    obtain rfl := Option.some.inj hf
    rw [hQ]
    exact r_zret C hr hk hW (Or.inr rfl) rfl rfl dX11_noPerson_19
set_option maxHeartbeats 4000000 in
set_option maxRecDepth 100000 in
theorem c_X11_noWorld {l : Launch} {D : va_G} {tc : Nat → ClassId} {ro : Ro} {ad : Nat → Nat} {μ : Mm} {v1 : Int32} {res : Int32} (hf : f_X11_noWorld μ v1 = some res) : Ct l D tc ro (faM ad) (feM tc ad) yX11_noWorld cX11_noWorld 2 (some .boolean) (rmq 1 22) [.ref (ad 0), .int v1] μ (some (.int res)) μ := by
  refine Ct.of (by decide) (Nat.le_of_ble_eq_true rfl) (fun p e s m args below meth c A C hr hk hW ls hl => ?_)
  have hx := C.1.1
  have hb := C.1.2.1
  obtain ⟨Q, hQ⟩ : ∃ Q, Q = MQ below (Ctq D (faM ad) (feM tc ad) (some (.int res)) μ A) args s 0 0 A := ⟨_, rfl⟩
  rw [← hQ]
  have hl : lv_has ls 2 [(0, .ref (ad 0)), (1, .int v1)] := hl
  unfold f_X11_noWorld at hf
  refine lv_iload_n hx hb dX11_noWorld_0 rfl (lv_at hl 1 rfl) ?_
  refine lv_iconst (v := 0) hx hb dX11_noWorld_1 (by decide) ?_
  refine lv_aload_n hx hb dX11_noWorld_2 rfl (lv_at hl 0 rfl) ?_
  obtain ⟨x3, h3, hf⟩ := bd_of hf
  refine r_callV (k := ((0, 0) : Ky)) C hW hl lk_X11_115 (c_X11_worlds h3) ⟨rfl, rfl⟩ ⟨Nat.le_of_ble_eq_true rfl, Nat.le_of_ble_eq_true rfl⟩ rfl rfl rfl (As := []) (rest := [.int (0 : Int32), .int v1]) rfl rfl (Nat.le_of_ble_eq_true rfl) dX11_noWorld_3 ⟨Nat.zero_le _, Nat.zero_le _⟩ (fun H locs hW => ?_)
  show W p l e (rmq 1 22) s m args below meth c H locs 0 0 Q (F0 m 6 ls [.int x3, .int (0 : Int32), .int v1])
  refine lv_iconst (v := 1) hx hb dX11_noWorld_6 (by decide) ?_
  refine lv_isub hx hb dX11_noWorld_7 ?_
  obtain ⟨x8, h8, hf⟩ := bd_of hf
  refine r_callS C hW hl lk_X11_111 (c_X11_in h8) ⟨rfl, rfl⟩ ⟨Nat.le_of_ble_eq_true rfl, Nat.le_of_ble_eq_true rfl⟩ (As := [.int v1, .int (0 : Int32), .int (x3 - (1 : Int32))]) (rest := []) rfl rfl (Nat.le_of_ble_eq_true rfl) dX11_noWorld_8 ⟨Nat.zero_le _, Nat.zero_le _⟩ (fun H locs hW => ?_)
  show W p l e (rmq 1 22) s m args below meth c H locs 0 0 Q (F0 m 11 ls [.int x8])
  refine lv_if_ne (tgt := 18) hx hb dX11_noWorld_11 (by decide) (fun c3 => ?_) (fun c3 => ?_)
  · have hf := (if_neg c3).symm.trans hf
    refine lv_iconst (v := 0) hx hb dX11_noWorld_18 (by decide) ?_
    obtain rfl := Option.some.inj hf
    rw [hQ]
    exact r_zret C hr hk hW (Or.inl rfl) rfl rfl dX11_noWorld_19
  · have hf := (if_pos c3).symm.trans hf
    refine lv_iconst (v := 1) hx hb dX11_noWorld_14 (by decide) ?_
    refine lv_goto (tgt := 19) hx hb dX11_noWorld_15 (by decide) ?_
    obtain rfl := Option.some.inj hf
    rw [hQ]
    exact r_zret C hr hk hW (Or.inr rfl) rfl rfl dX11_noWorld_19
set_option maxHeartbeats 4000000 in
set_option maxRecDepth 100000 in
theorem c_X11_noticeIn {l : Launch} {D : va_G} {tc : Nat → ClassId} {ro : Ro} {ad : Nat → Nat} {μ : Mm} {v1 v2 : Int32} {res : Int32} (hf : f_X11_noticeIn μ v1 v2 = some res) : Ct l D tc ro (faM ad) (feM tc ad) yX11_noticeIn cX11_noticeIn 5 (some .int) (rmq 1 20) [.ref (ad 0), .int v1, .int v2] μ (some (.int res)) μ := by
  refine Ct.of (by decide) (Nat.le_of_ble_eq_true rfl) (fun p e s m args below meth c A C hr hk hW ls hl => ?_)
  have hx := C.1.1
  have hb := C.1.2.1
  obtain ⟨Q, hQ⟩ : ∃ Q, Q = MQ below (Ctq D (faM ad) (feM tc ad) (some (.int res)) μ A) args s 0 0 A := ⟨_, rfl⟩
  rw [← hQ]
  have hl : lv_has ls 5 [(0, .ref (ad 0)), (1, .int v1), (2, .int v2)] := hl
  unfold f_X11_noticeIn at hf
  refine lv_iload_n hx hb dX11_noticeIn_0 rfl (lv_at hl 2 rfl) ?_
  refine lv_istore_n (lv' := [(3, .int v2), (0, .ref (ad 0)), (1, .int v1), (2, .int v2)]) hx hb dX11_noticeIn_1 rfl hl (by decide) rfl (fun ls hl => ?_)
  refine lv_aload_n hx hb dX11_noticeIn_2 rfl (lv_at hl 1 rfl) ?_
  obtain ⟨x3, h3, hf⟩ := bd_of hf
  refine r_callV (k := ((0, 0) : Ky)) C hW hl lk_X11_107 (c_X11_people h3) ⟨rfl, rfl⟩ ⟨Nat.le_of_ble_eq_true rfl, Nat.le_of_ble_eq_true rfl⟩ rfl rfl rfl (As := []) (rest := []) rfl rfl (Nat.le_of_ble_eq_true rfl) dX11_noticeIn_3 ⟨Nat.zero_le _, Nat.zero_le _⟩ (fun H locs hW => ?_)
  show W p l e (rmq 1 20) s m args below meth c H locs 0 0 Q (F0 m 6 ls [.int x3])
  refine lv_iconst (v := 1) hx hb dX11_noticeIn_6 (by decide) ?_
  refine lv_isub hx hb dX11_noticeIn_7 ?_
  refine lv_istore (lv' := [(4, .int (x3 - (1 : Int32))), (3, .int v2), (0, .ref (ad 0)), (1, .int v1), (2, .int v2)]) hx hb dX11_noticeIn_8 hl (by decide) rfl (fun ls hl => ?_)
  have L10 : ∀ (v3 v4 : Int32) (H : Heap) (locs : List Loc) (ls : Array Slot), Wh (fun z : Int32 × Int32 => f_X11_noticeIn_L10 v1 μ z.1 z.2) (v3, v4) = some res → Wd D (faM ad) (feM tc ad) A s.heap μ H locs → lv_has ls 5 [(0, .ref (ad 0)), (1, .int v1), (3, .int v3), (4, .int v4)] → W p l e (rmq 1 20) s m args below meth c H locs 0 0 Q (F0 m 10 ls []) := by
    intro v3 v4 H locs ls hf hW hl
    refine Wh_rule hf (fun z : Int32 × Int32 => ∀ (H : Heap) (locs : List Loc) (ls : Array Slot), Wd D (faM ad) (feM tc ad) A s.heap μ H locs → lv_has ls 5 [(0, .ref (ad 0)), (1, .int v1), (3, .int z.1), (4, .int z.2)] → W p l e (rmq 1 20) s m args below meth c H locs 0 0 Q (F0 m 10 ls [])) (fun z o1 hf Kl1 Kr1 => ?_) _ _ _ hW hl
    obtain ⟨v3, v4⟩ := z
    intro H locs ls hW hl
    have hf : f_X11_noticeIn_L10 v1 μ v3 v4 = some o1 := hf
    unfold f_X11_noticeIn_L10 at hf
    have hW : Wd D (faM ad) (feM tc ad) A s.heap μ H locs := hW
    have hl : lv_has ls 5 [(0, .ref (ad 0)), (1, .int v1), (3, .int v3), (4, .int v4)] := hl
    refine lv_iload hx hb dX11_noticeIn_10 (lv_at hl 3 rfl) ?_
    refine lv_iload_n hx hb dX11_noticeIn_12 rfl (lv_at hl 1 rfl) ?_
    refine lv_icmp_le (tgt := 29) hx hb dX11_noticeIn_13 (by decide) (fun c2 => ?_) (fun c2 => ?_)
    · have hf := (if_pos c2).symm.trans hf
      obtain ⟨x9005, hf, hx9005⟩ := map_of hf
      have e9005 := (Kr1 _ hx9005.symm).symm
      subst e9005
      refine lv_iload_n hx hb dX11_noticeIn_29 rfl (lv_at hl 2 rfl) ?_
      refine lv_aload_n hx hb dX11_noticeIn_30 rfl (lv_at hl 0 rfl) ?_
      obtain ⟨x31, h31, hf⟩ := bd_of hf
      refine r_callV (k := ((0, 0) : Ky)) C hW hl lk_X11_118 (c_X11_values h31) ⟨rfl, rfl⟩ ⟨Nat.le_of_ble_eq_true rfl, Nat.le_of_ble_eq_true rfl⟩ rfl rfl rfl (As := []) (rest := [.int v3]) rfl rfl (Nat.le_of_ble_eq_true rfl) dX11_noticeIn_31 ⟨Nat.zero_le _, Nat.zero_le _⟩ (fun H locs hW => ?_)
      show W p l e (rmq 1 20) s m args below meth c H locs 0 0 Q (F0 m 34 ls [.int x31, .int v3])
      obtain ⟨hz4, hf⟩ := cd_of hf
      refine lv_irem hx hb dX11_noticeIn_34 hz4 ?_
      obtain rfl := Option.some.inj hf
      rw [hQ]
      exact r_iret C hr hk hW rfl rfl dX11_noticeIn_35
    · have hf := (if_neg c2).symm.trans hf
      refine lv_iload_n hx hb dX11_noticeIn_16 rfl (lv_at hl 2 rfl) ?_
      refine lv_aload_n hx hb dX11_noticeIn_17 rfl (lv_at hl 0 rfl) ?_
      obtain ⟨x18, h18, hf⟩ := bd_of hf
      refine r_callV (k := ((0, 0) : Ky)) C hW hl lk_X11_118 (c_X11_values h18) ⟨rfl, rfl⟩ ⟨Nat.le_of_ble_eq_true rfl, Nat.le_of_ble_eq_true rfl⟩ rfl rfl rfl (As := []) (rest := [.int v3]) rfl rfl (Nat.le_of_ble_eq_true rfl) dX11_noticeIn_18 ⟨Nat.zero_le _, Nat.zero_le _⟩ (fun H locs hW => ?_)
      show W p l e (rmq 1 20) s m args below meth c H locs 0 0 Q (F0 m 21 ls [.int x18, .int v3])
      obtain ⟨hz7, hf⟩ := cd_of hf
      refine lv_idiv hx hb dX11_noticeIn_21 hz7 ?_
      refine lv_istore_n (lv' := [(3, .int (v3 / x18)), (0, .ref (ad 0)), (1, .int v1), (4, .int v4)]) hx hb dX11_noticeIn_22 rfl hl (by decide) rfl (fun ls hl => ?_)
      refine lv_iinc (v := (v4 + (-1 : Int32))) (lv' := [(4, .int (v4 + (-1 : Int32))), (3, .int (v3 / x18)), (0, .ref (ad 0)), (1, .int v1)]) hx hb dX11_noticeIn_23 hl (k := 3) rfl rfl (by decide) rfl (fun ls hl => ?_)
      refine lv_goto (tgt := 10) hx hb dX11_noticeIn_26 (by decide) ?_
      obtain rfl := Option.some.inj hf
      exact Kl1 _ rfl _ _ _ hW (lv_sub hl [2, 3, 1, 0] rfl)
  exact L10 v2 (x3 - (1 : Int32)) _ _ _ hf hW (lv_sub hl [2, 3, 1, 0] rfl)
set_option maxHeartbeats 4000000 in
set_option maxRecDepth 100000 in
theorem c_X11_notice {l : Launch} {D : va_G} {tc : Nat → ClassId} {ro : Ro} {ad : Nat → Nat} {μ : Mm} {v1 : Int32} {res : Int32} (hf : f_X11_notice μ v1 = some res) : Ct l D tc ro (faM ad) (feM tc ad) yX11_notice cX11_notice 2 (some .int) (rmq 2 44) [.ref (ad 0), .int v1] μ (some (.int res)) μ := by
  refine Ct.of (by decide) (Nat.le_of_ble_eq_true rfl) (fun p e s m args below meth c A C hr hk hW ls hl => ?_)
  have hx := C.1.1
  have hb := C.1.2.1
  obtain ⟨Q, hQ⟩ : ∃ Q, Q = MQ below (Ctq D (faM ad) (feM tc ad) (some (.int res)) μ A) args s 0 0 A := ⟨_, rfl⟩
  rw [← hQ]
  have hl : lv_has ls 2 [(0, .ref (ad 0)), (1, .int v1)] := hl
  unfold f_X11_notice at hf
  refine lv_aload_n hx hb dX11_notice_0 rfl (lv_at hl 0 rfl) ?_
  refine lv_iload_n hx hb dX11_notice_1 rfl (lv_at hl 1 rfl) ?_
  refine lv_aload_n hx hb dX11_notice_2 rfl (lv_at hl 0 rfl) ?_
  obtain ⟨x3, h3, hf⟩ := bd_of hf
  refine r_callV (k := ((0, 0) : Ky)) C hW hl lk_X11_121 (c_X11_here h3) ⟨rfl, rfl⟩ ⟨Nat.le_of_ble_eq_true rfl, Nat.le_of_ble_eq_true rfl⟩ rfl rfl rfl (As := []) (rest := [.int v1, .ref (ad 0)]) rfl rfl (Nat.le_of_ble_eq_true rfl) dX11_notice_3 ⟨Nat.zero_le _, Nat.zero_le _⟩ (fun H locs hW => ?_)
  show W p l e (rmq 2 44) s m args below meth c H locs 0 0 Q (F0 m 6 ls [.int x3, .int v1, .ref (ad 0)])
  obtain ⟨x6, h6, hf⟩ := bd_of hf
  refine r_callV (k := ((0, 0) : Ky)) C hW hl lk_X11_124 (c_X11_noticeIn h6) ⟨rfl, rfl⟩ ⟨Nat.le_of_ble_eq_true rfl, Nat.le_of_ble_eq_true rfl⟩ rfl rfl rfl (As := [.int v1, .int x3]) (rest := []) rfl rfl (Nat.le_of_ble_eq_true rfl) dX11_notice_6 ⟨Nat.zero_le _, Nat.zero_le _⟩ (fun H locs hW => ?_)
  show W p l e (rmq 2 44) s m args below meth c H locs 0 0 Q (F0 m 9 ls [.int x6])
  obtain rfl := Option.some.inj hf
  rw [hQ]
  exact r_iret C hr hk hW rfl rfl dX11_notice_9
set_option maxHeartbeats 4000000 in
set_option maxRecDepth 100000 in
theorem c_X11_lays {l : Launch} {D : va_G} {tc : Nat → ClassId} {ro : Ro} {ad : Nat → Nat} {μ : Mm} {v1 v2 : Int32} {res : Mm} (hf : f_X11_lays μ v1 v2 = some res) : Ct l D tc ro (faM ad) (feM tc ad) yX11_lays cX11_lays 4 none (rmq 2 44) [.ref (ad 0), .int v1, .int v2] μ none res := by
  refine Ct.of (by decide) (Nat.le_of_ble_eq_true rfl) (fun p e s m args below meth c A C hr hk hW ls hl => ?_)
  have hx := C.1.1
  have hb := C.1.2.1
  obtain ⟨Q, hQ⟩ : ∃ Q, Q = MQ below (Ctq D (faM ad) (feM tc ad) none res A) args s 0 0 A := ⟨_, rfl⟩
  rw [← hQ]
  have hl : lv_has ls 4 [(0, .ref (ad 0)), (1, .int v1), (2, .int v2)] := hl
  unfold f_X11_lays at hf
  refine lv_iconst (v := 0) hx hb dX11_lays_0 (by decide) ?_
  refine lv_istore_n (lv' := [(3, .int (0 : Int32)), (0, .ref (ad 0)), (1, .int v1), (2, .int v2)]) hx hb dX11_lays_1 rfl hl (by decide) rfl (fun ls hl => ?_)
  have L2 : ∀ (μ : Mm) (v3 : Int32) (H : Heap) (locs : List Loc) (ls : Array Slot), Wh (fun z : Mm × Int32 => f_X11_lays_L2 v1 v2 z.1 z.2) (μ, v3) = some res → Wd D (faM ad) (feM tc ad) A s.heap μ H locs → lv_has ls 4 [(0, .ref (ad 0)), (1, .int v1), (2, .int v2), (3, .int v3)] → W p l e (rmq 2 44) s m args below meth c H locs 0 0 Q (F0 m 2 ls []) := by
    intro μ v3 H locs ls hf hW hl
    refine Wh_rule hf (fun z : Mm × Int32 => ∀ (H : Heap) (locs : List Loc) (ls : Array Slot), Wd D (faM ad) (feM tc ad) A s.heap z.1 H locs → lv_has ls 4 [(0, .ref (ad 0)), (1, .int v1), (2, .int v2), (3, .int z.2)] → W p l e (rmq 2 44) s m args below meth c H locs 0 0 Q (F0 m 2 ls [])) (fun z o1 hf Kl1 Kr1 => ?_) _ _ _ hW hl
    obtain ⟨μ, v3⟩ := z
    intro H locs ls hW hl
    have hf : f_X11_lays_L2 v1 v2 μ v3 = some o1 := hf
    unfold f_X11_lays_L2 at hf
    have hW : Wd D (faM ad) (feM tc ad) A s.heap μ H locs := hW
    have hl : lv_has ls 4 [(0, .ref (ad 0)), (1, .int v1), (2, .int v2), (3, .int v3)] := hl
    refine lv_iload_n hx hb dX11_lays_2 rfl (lv_at hl 3 rfl) ?_
    refine lv_sipush (v := 512) hx hb dX11_lays_3 (by decide) ?_
    refine lv_icmp_ge (tgt := 22) hx hb dX11_lays_6 (by decide) (fun c1 => ?_) (fun c1 => ?_)
    · have hf := (if_pos c1).symm.trans hf
      obtain ⟨x9011, hf, hx9011⟩ := map_of hf
      have e9011 := (Kr1 _ hx9011.symm).symm
      subst e9011
      refine lv_iconst (v := 0) hx hb dX11_lays_22 (by decide) ?_
      refine lv_istore_n (lv' := [(3, .int (0 : Int32)), (0, .ref (ad 0)), (1, .int v1), (2, .int v2)]) hx hb dX11_lays_23 rfl hl (by decide) rfl (fun ls hl => ?_)
      have L24 : ∀ (μ : Mm) (v3 : Int32) (H : Heap) (locs : List Loc) (ls : Array Slot), Wh (fun z : Mm × Int32 => f_X11_lays_L24 v1 v2 z.1 z.2) (μ, v3) = some res → Wd D (faM ad) (feM tc ad) A s.heap μ H locs → lv_has ls 4 [(0, .ref (ad 0)), (1, .int v1), (2, .int v2), (3, .int v3)] → W p l e (rmq 2 44) s m args below meth c H locs 0 0 Q (F0 m 24 ls []) := by
        intro μ v3 H locs ls hf hW hl
        refine Wh_rule hf (fun z : Mm × Int32 => ∀ (H : Heap) (locs : List Loc) (ls : Array Slot), Wd D (faM ad) (feM tc ad) A s.heap z.1 H locs → lv_has ls 4 [(0, .ref (ad 0)), (1, .int v1), (2, .int v2), (3, .int z.2)] → W p l e (rmq 2 44) s m args below meth c H locs 0 0 Q (F0 m 24 ls [])) (fun z o1 hf Kl1 Kr1 => ?_) _ _ _ hW hl
        obtain ⟨μ, v3⟩ := z
        intro H locs ls hW hl
        have hf : f_X11_lays_L24 v1 v2 μ v3 = some o1 := hf
        unfold f_X11_lays_L24 at hf
        have hW : Wd D (faM ad) (feM tc ad) A s.heap μ H locs := hW
        have hl : lv_has ls 4 [(0, .ref (ad 0)), (1, .int v1), (2, .int v2), (3, .int v3)] := hl
        refine lv_iload_n hx hb dX11_lays_24 rfl (lv_at hl 3 rfl) ?_
        refine lv_aload_n hx hb dX11_lays_25 rfl (lv_at hl 0 rfl) ?_
        obtain ⟨x26, h26, hf⟩ := bd_of hf
        refine r_callV (k := ((0, 0) : Ky)) C hW hl lk_X11_115 (c_X11_worlds h26) ⟨rfl, rfl⟩ ⟨Nat.le_of_ble_eq_true rfl, Nat.le_of_ble_eq_true rfl⟩ rfl rfl rfl (As := []) (rest := [.int v3]) rfl rfl (Nat.le_of_ble_eq_true rfl) dX11_lays_26 ⟨Nat.zero_le _, Nat.zero_le _⟩ (fun H locs hW => ?_)
        show W p l e (rmq 2 44) s m args below meth c H locs 0 0 Q (F0 m 29 ls [.int x26, .int v3])
        refine lv_icmp_ge (tgt := 68) hx hb dX11_lays_29 (by decide) (fun c3 => ?_) (fun c3 => ?_)
        · have hf := (if_pos c3).symm.trans hf
          obtain ⟨x9004, hf, hx9004⟩ := map_of hf
          have e9004 := (Kr1 _ hx9004.symm).symm
          subst e9004
          obtain rfl := Option.some.inj hf
          rw [hQ]
          exact r_vret C hr hk hW rfl rfl dX11_lays_68
        · have hf := (if_neg c3).symm.trans hf
          refine lv_aload_n hx hb dX11_lays_32 rfl (lv_at hl 0 rfl) ?_
          refine lv_iload_n hx hb dX11_lays_33 rfl (lv_at hl 3 rfl) ?_
          obtain ⟨x34, h34, hf⟩ := bd_of hf
          refine r_callV (k := ((0, 0) : Ky)) C hW hl lk_X11_128 (c_X11_isLeft h34) ⟨rfl, rfl⟩ ⟨Nat.le_of_ble_eq_true rfl, Nat.le_of_ble_eq_true rfl⟩ rfl rfl rfl (As := [.int v3]) (rest := []) rfl rfl (Nat.le_of_ble_eq_true rfl) dX11_lays_34 ⟨Nat.zero_le _, Nat.zero_le _⟩ (fun H locs hW => ?_)
          show W p l e (rmq 2 44) s m args below meth c H locs 0 0 Q (F0 m 37 ls [.int x34])
          refine lv_if_eq (tgt := 62) hx hb dX11_lays_37 (by decide) (fun c6 => ?_) (fun c6 => ?_)
          · have hf := (if_pos c6).symm.trans hf
            refine lv_iinc (v := (v3 + (1 : Int32))) (lv' := [(3, .int (v3 + (1 : Int32))), (0, .ref (ad 0)), (1, .int v1), (2, .int v2)]) hx hb dX11_lays_62 hl (k := 3) rfl rfl (by decide) rfl (fun ls hl => ?_)
            refine lv_goto (tgt := 24) hx hb dX11_lays_65 (by decide) ?_
            obtain rfl := Option.some.inj hf
            exact Kl1 _ rfl _ _ _ hW (lv_sub hl [1, 2, 3, 0] rfl)
          · have hf := (if_neg c6).symm.trans hf
            refine lv_aload_n hx hb dX11_lays_40 rfl (lv_at hl 0 rfl) ?_
            refine gf_X11_30 C hW dX11_lays_41 ?_
            refine lv_aload_n hx hb dX11_lays_44 rfl (lv_at hl 0 rfl) ?_
            refine lv_iload_n hx hb dX11_lays_45 rfl (lv_at hl 1 rfl) ?_
            refine lv_iload_n hx hb dX11_lays_46 rfl (lv_at hl 3 rfl) ?_
            obtain ⟨x47, h47, hf⟩ := bd_of hf
            refine r_callV (k := ((0, 0) : Ky)) C hW hl lk_X11_132 (c_X11_label h47) ⟨rfl, rfl⟩ ⟨Nat.le_of_ble_eq_true rfl, Nat.le_of_ble_eq_true rfl⟩ rfl rfl rfl (As := [.int v1, .int v3]) (rest := [.ref (ad 8)]) rfl rfl (Nat.le_of_ble_eq_true rfl) dX11_lays_47 ⟨Nat.zero_le _, Nat.zero_le _⟩ (fun H locs hW => ?_)
            show W p l e (rmq 2 44) s m args below meth c H locs 0 0 Q (F0 m 50 ls [.int x47, .ref (ad 8)])
            refine lv_dup2_11 hx hb dX11_lays_50 rfl rfl ?_
            obtain ⟨hi8, hf⟩ := ck_of hf
            refine r_iald (k := ((8, 0) : Ky)) (n := 512) C hW rfl rfl hi8 dX11_lays_51 ?_
            refine lv_iconst (v := 1) hx hb dX11_lays_52 (by decide) ?_
            refine lv_aload_n hx hb dX11_lays_53 rfl (lv_at hl 0 rfl) ?_
            refine lv_iload_n hx hb dX11_lays_54 rfl (lv_at hl 2 rfl) ?_
            refine lv_iload_n hx hb dX11_lays_55 rfl (lv_at hl 3 rfl) ?_
            obtain ⟨x56, h56, hf⟩ := bd_of hf
            refine r_callV (k := ((0, 0) : Ky)) C hW hl lk_X11_124 (c_X11_noticeIn h56) ⟨rfl, rfl⟩ ⟨Nat.le_of_ble_eq_true rfl, Nat.le_of_ble_eq_true rfl⟩ rfl rfl rfl (As := [.int v2, .int v3]) (rest := [.int (1 : Int32), .int (μ (8, 0) x47.toNatClampNeg), .int x47, .ref (ad 8)]) rfl rfl (Nat.le_of_ble_eq_true rfl) dX11_lays_56 ⟨Nat.zero_le _, Nat.zero_le _⟩ (fun H locs hW => ?_)
            show W p l e (rmq 2 44) s m args below meth c H locs 0 0 Q (F0 m 59 ls [.int x56, .int (1 : Int32), .int (μ (8, 0) x47.toNatClampNeg), .int x47, .ref (ad 8)])
            refine lv_ishl hx hb dX11_lays_59 ?_
            refine lv_ior hx hb dX11_lays_60 ?_
            obtain ⟨hi10, hf⟩ := ck_of hf
            refine r_iast (k := ((8, 0) : Ky)) (n := 512) C hW rfl (fun _ => rfl) hi10 dX11_lays_61 (fun H locs hW => ?_)
            refine lv_iinc (v := (v3 + (1 : Int32))) (lv' := [(3, .int (v3 + (1 : Int32))), (0, .ref (ad 0)), (1, .int v1), (2, .int v2)]) hx hb dX11_lays_62 hl (k := 3) rfl rfl (by decide) rfl (fun ls hl => ?_)
            refine lv_goto (tgt := 24) hx hb dX11_lays_65 (by decide) ?_
            obtain rfl := Option.some.inj hf
            exact Kl1 _ rfl _ _ _ hW (lv_sub hl [1, 2, 3, 0] rfl)
      exact L24 μ (0 : Int32) _ _ _ hf hW (lv_sub hl [1, 2, 3, 0] rfl)
    · have hf := (if_neg c1).symm.trans hf
      refine lv_aload_n hx hb dX11_lays_9 rfl (lv_at hl 0 rfl) ?_
      refine gf_X11_30 C hW dX11_lays_10 ?_
      refine lv_iload_n hx hb dX11_lays_13 rfl (lv_at hl 3 rfl) ?_
      refine lv_iconst (v := 0) hx hb dX11_lays_14 (by decide) ?_
      obtain ⟨hi12, hf⟩ := ck_of hf
      refine r_iast (k := ((8, 0) : Ky)) (n := 512) C hW rfl (fun _ => rfl) hi12 dX11_lays_15 (fun H locs hW => ?_)
      refine lv_iinc (v := (v3 + (1 : Int32))) (lv' := [(3, .int (v3 + (1 : Int32))), (0, .ref (ad 0)), (1, .int v1), (2, .int v2)]) hx hb dX11_lays_16 hl (k := 3) rfl rfl (by decide) rfl (fun ls hl => ?_)
      refine lv_goto (tgt := 2) hx hb dX11_lays_19 (by decide) ?_
      obtain rfl := Option.some.inj hf
      exact Kl1 _ rfl _ _ _ hW (lv_sub hl [1, 2, 3, 0] rfl)
  exact L2 μ (0 : Int32) _ _ _ hf hW (lv_sub hl [1, 2, 3, 0] rfl)
set_option maxHeartbeats 4000000 in
set_option maxRecDepth 100000 in
theorem c_X11_possibleOf {l : Launch} {D : va_G} {tc : Nat → ClassId} {ro : Ro} {ad : Nat → Nat} {μ : Mm} {v1 v2 v3 : Int32} {res : Int32 × Mm} (hf : f_X11_possibleOf μ v1 v2 v3 = some res) : Ct l D tc ro (faM ad) (feM tc ad) yX11_possibleOf cX11_possibleOf 4 (some .int) (rmq 3 67) [.ref (ad 0), .int v1, .int v2, .int v3] μ (some (.int res.1)) res.2 := by
  refine Ct.of (by decide) (Nat.le_of_ble_eq_true rfl) (fun p e s m args below meth c A C hr hk hW ls hl => ?_)
  have hx := C.1.1
  have hb := C.1.2.1
  obtain ⟨Q, hQ⟩ : ∃ Q, Q = MQ below (Ctq D (faM ad) (feM tc ad) (some (.int res.1)) res.2 A) args s 0 0 A := ⟨_, rfl⟩
  rw [← hQ]
  have hl : lv_has ls 4 [(0, .ref (ad 0)), (1, .int v1), (2, .int v2), (3, .int v3)] := hl
  unfold f_X11_possibleOf at hf
  refine lv_aload_n hx hb dX11_possibleOf_0 rfl (lv_at hl 0 rfl) ?_
  refine lv_iload_n hx hb dX11_possibleOf_1 rfl (lv_at hl 1 rfl) ?_
  refine lv_iload_n hx hb dX11_possibleOf_2 rfl (lv_at hl 2 rfl) ?_
  obtain ⟨x3, h3, hf⟩ := bd_of hf
  refine r_callV (k := ((0, 0) : Ky)) C hW hl lk_X11_135 (c_X11_lays h3) ⟨rfl, rfl⟩ ⟨Nat.le_of_ble_eq_true rfl, Nat.le_of_ble_eq_true rfl⟩ rfl rfl rfl (As := [.int v1, .int v2]) (rest := []) rfl rfl (Nat.le_of_ble_eq_true rfl) dX11_possibleOf_3 ⟨Nat.zero_le _, Nat.zero_le _⟩ (fun H locs hW => ?_)
  show W p l e (rmq 3 67) s m args below meth c H locs 0 0 Q (F0 m 6 ls [])
  refine lv_aload_n hx hb dX11_possibleOf_6 rfl (lv_at hl 0 rfl) ?_
  refine gf_X11_30 C hW dX11_possibleOf_7 ?_
  refine lv_aload_n hx hb dX11_possibleOf_10 rfl (lv_at hl 0 rfl) ?_
  refine lv_iload_n hx hb dX11_possibleOf_11 rfl (lv_at hl 1 rfl) ?_
  refine lv_iload_n hx hb dX11_possibleOf_12 rfl (lv_at hl 3 rfl) ?_
  obtain ⟨x13, h13, hf⟩ := bd_of hf
  refine r_callV (k := ((0, 0) : Ky)) C hW hl lk_X11_132 (c_X11_label h13) ⟨rfl, rfl⟩ ⟨Nat.le_of_ble_eq_true rfl, Nat.le_of_ble_eq_true rfl⟩ rfl rfl rfl (As := [.int v1, .int v3]) (rest := [.ref (ad 8)]) rfl rfl (Nat.le_of_ble_eq_true rfl) dX11_possibleOf_13 ⟨Nat.zero_le _, Nat.zero_le _⟩ (fun H locs hW => ?_)
  show W p l e (rmq 3 67) s m args below meth c H locs 0 0 Q (F0 m 16 ls [.int x13, .ref (ad 8)])
  obtain ⟨hi3, hf⟩ := ck_of hf
  refine r_iald (k := ((8, 0) : Ky)) (n := 512) C hW rfl rfl hi3 dX11_possibleOf_16 ?_
  obtain rfl := Option.some.inj hf
  rw [hQ]
  exact r_iret C hr hk hW rfl rfl dX11_possibleOf_17
set_option maxHeartbeats 4000000 in
set_option maxRecDepth 100000 in
theorem c_X11_isOne {l : Launch} {D : va_G} {tc : Nat → ClassId} {ro : Ro} {ad : Nat → Nat} {μ : Mm} {v0 : Int32} {res : Int32} (hf : f_X11_isOne v0 = some res) : Ct l D tc ro (faM ad) (feM tc ad) yX11_isOne cX11_isOne 1 (some .boolean) (rmq 0 0) [.int v0] μ (some (.int res)) μ := by
  refine Ct.of (by decide) (Nat.le_of_ble_eq_true rfl) (fun p e s m args below meth c A C hr hk hW ls hl => ?_)
  have hx := C.1.1
  have hb := C.1.2.1
  obtain ⟨Q, hQ⟩ : ∃ Q, Q = MQ below (Ctq D (faM ad) (feM tc ad) (some (.int res)) μ A) args s 0 0 A := ⟨_, rfl⟩
  rw [← hQ]
  have hl : lv_has ls 1 [(0, .int v0)] := hl
  unfold f_X11_isOne at hf
  refine lv_iload_n hx hb dX11_isOne_0 rfl (lv_at hl 0 rfl) ?_
  refine lv_iload_n hx hb dX11_isOne_1 rfl (lv_at hl 0 rfl) ?_
  refine lv_iconst (v := 1) hx hb dX11_isOne_2 (by decide) ?_
  refine lv_isub hx hb dX11_isOne_3 ?_
  refine lv_iand hx hb dX11_isOne_4 ?_
  refine lv_if_ne (tgt := 12) hx hb dX11_isOne_5 (by decide) (fun c1 => ?_) (fun c1 => ?_)
  · have hf := (if_neg c1).symm.trans hf
    refine lv_iconst (v := 0) hx hb dX11_isOne_12 (by decide) ?_
    obtain rfl := Option.some.inj hf
    rw [hQ]
    exact r_zret C hr hk hW (Or.inl rfl) rfl rfl dX11_isOne_13
  · have hf := (if_pos c1).symm.trans hf
    refine lv_iconst (v := 1) hx hb dX11_isOne_8 (by decide) ?_
    refine lv_goto (tgt := 13) hx hb dX11_isOne_9 (by decide) ?_
    obtain rfl := Option.some.inj hf
    rw [hQ]
    exact r_zret C hr hk hW (Or.inr rfl) rfl rfl dX11_isOne_13
set_option maxHeartbeats 4000000 in
set_option maxRecDepth 100000 in
theorem c_X11_isSure {l : Launch} {D : va_G} {tc : Nat → ClassId} {ro : Ro} {ad : Nat → Nat} {μ : Mm} {v1 v2 : Int32} {res : Int32 × Mm} (hf : f_X11_isSure μ v1 v2 = some res) : Ct l D tc ro (faM ad) (feM tc ad) yX11_isSure cX11_isSure 3 (some .boolean) (rmq 4 90) [.ref (ad 0), .int v1, .int v2] μ (some (.int res.1)) res.2 := by
  refine Ct.of (by decide) (Nat.le_of_ble_eq_true rfl) (fun p e s m args below meth c A C hr hk hW ls hl => ?_)
  have hx := C.1.1
  have hb := C.1.2.1
  obtain ⟨Q, hQ⟩ : ∃ Q, Q = MQ below (Ctq D (faM ad) (feM tc ad) (some (.int res.1)) res.2 A) args s 0 0 A := ⟨_, rfl⟩
  rw [← hQ]
  have hl : lv_has ls 3 [(0, .ref (ad 0)), (1, .int v1), (2, .int v2)] := hl
  unfold f_X11_isSure at hf
  refine lv_aload_n hx hb dX11_isSure_0 rfl (lv_at hl 0 rfl) ?_
  refine lv_iload_n hx hb dX11_isSure_1 rfl (lv_at hl 1 rfl) ?_
  refine lv_iload_n hx hb dX11_isSure_2 rfl (lv_at hl 1 rfl) ?_
  refine lv_iload_n hx hb dX11_isSure_3 rfl (lv_at hl 2 rfl) ?_
  obtain ⟨x4, h4, hf⟩ := bd_of hf
  refine r_callV (k := ((0, 0) : Ky)) C hW hl lk_X11_139 (c_X11_possibleOf h4) ⟨rfl, rfl⟩ ⟨Nat.le_of_ble_eq_true rfl, Nat.le_of_ble_eq_true rfl⟩ rfl rfl rfl (As := [.int v1, .int v1, .int v2]) (rest := []) rfl rfl (Nat.le_of_ble_eq_true rfl) dX11_isSure_4 ⟨Nat.zero_le _, Nat.zero_le _⟩ (fun H locs hW => ?_)
  show W p l e (rmq 4 90) s m args below meth c H locs 0 0 Q (F0 m 7 ls [.int x4.1])
  obtain ⟨x7, h7, hf⟩ := bd_of hf
  refine r_callS C hW hl lk_X11_143 (c_X11_isOne h7) ⟨rfl, rfl⟩ ⟨Nat.le_of_ble_eq_true rfl, Nat.le_of_ble_eq_true rfl⟩ (As := [.int x4.1]) (rest := []) rfl rfl (Nat.le_of_ble_eq_true rfl) dX11_isSure_7 ⟨Nat.zero_le _, Nat.zero_le _⟩ (fun H locs hW => ?_)
  show W p l e (rmq 4 90) s m args below meth c H locs 0 0 Q (F0 m 10 ls [.int x7])
  obtain ⟨hz3, hf⟩ := cb_of hf
  obtain rfl := Option.some.inj hf
  rw [hQ]
  exact r_zret C hr hk hW hz3 rfl rfl dX11_isSure_10
set_option maxHeartbeats 4000000 in
set_option maxRecDepth 100000 in
theorem c_X11_sureOnes {l : Launch} {D : va_G} {tc : Nat → ClassId} {ro : Ro} {ad : Nat → Nat} {μ : Mm} {v1 : Int32} {res : Int32 × Mm} (hf : f_X11_sureOnes μ v1 = some res) : Ct l D tc ro (faM ad) (feM tc ad) yX11_sureOnes cX11_sureOnes 4 (some .int) (rmq 5 112) [.ref (ad 0), .int v1] μ (some (.int res.1)) res.2 := by
  refine Ct.of (by decide) (Nat.le_of_ble_eq_true rfl) (fun p e s m args below meth c A C hr hk hW ls hl => ?_)
  have hx := C.1.1
  have hb := C.1.2.1
  obtain ⟨Q, hQ⟩ : ∃ Q, Q = MQ below (Ctq D (faM ad) (feM tc ad) (some (.int res.1)) res.2 A) args s 0 0 A := ⟨_, rfl⟩
  rw [← hQ]
  have hl : lv_has ls 4 [(0, .ref (ad 0)), (1, .int v1)] := hl
  unfold f_X11_sureOnes at hf
  refine lv_iconst (v := 0) hx hb dX11_sureOnes_0 (by decide) ?_
  refine lv_istore_n (lv' := [(2, .int (0 : Int32)), (0, .ref (ad 0)), (1, .int v1)]) hx hb dX11_sureOnes_1 rfl hl (by decide) rfl (fun ls hl => ?_)
  refine lv_iconst (v := 0) hx hb dX11_sureOnes_2 (by decide) ?_
  refine lv_istore_n (lv' := [(3, .int (0 : Int32)), (2, .int (0 : Int32)), (0, .ref (ad 0)), (1, .int v1)]) hx hb dX11_sureOnes_3 rfl hl (by decide) rfl (fun ls hl => ?_)
  have L4 : ∀ (μ : Mm) (v2 v3 : Int32) (H : Heap) (locs : List Loc) (ls : Array Slot), Wh (fun z : Mm × Int32 × Int32 => f_X11_sureOnes_L4 v1 z.1 z.2.1 z.2.2) (μ, v2, v3) = some res → Wd D (faM ad) (feM tc ad) A s.heap μ H locs → lv_has ls 4 [(0, .ref (ad 0)), (1, .int v1), (2, .int v2), (3, .int v3)] → W p l e (rmq 5 112) s m args below meth c H locs 0 0 Q (F0 m 4 ls []) := by
    intro μ v2 v3 H locs ls hf hW hl
    refine Wh_rule hf (fun z : Mm × Int32 × Int32 => ∀ (H : Heap) (locs : List Loc) (ls : Array Slot), Wd D (faM ad) (feM tc ad) A s.heap z.1 H locs → lv_has ls 4 [(0, .ref (ad 0)), (1, .int v1), (2, .int z.2.1), (3, .int z.2.2)] → W p l e (rmq 5 112) s m args below meth c H locs 0 0 Q (F0 m 4 ls [])) (fun z o1 hf Kl1 Kr1 => ?_) _ _ _ hW hl
    obtain ⟨μ, v2, v3⟩ := z
    intro H locs ls hW hl
    have hf : f_X11_sureOnes_L4 v1 μ v2 v3 = some o1 := hf
    unfold f_X11_sureOnes_L4 at hf
    have hW : Wd D (faM ad) (feM tc ad) A s.heap μ H locs := hW
    have hl : lv_has ls 4 [(0, .ref (ad 0)), (1, .int v1), (2, .int v2), (3, .int v3)] := hl
    refine lv_iload_n hx hb dX11_sureOnes_4 rfl (lv_at hl 3 rfl) ?_
    refine lv_aload_n hx hb dX11_sureOnes_5 rfl (lv_at hl 0 rfl) ?_
    obtain ⟨x6, h6, hf⟩ := bd_of hf
    refine r_callV (k := ((0, 0) : Ky)) C hW hl lk_X11_107 (c_X11_people h6) ⟨rfl, rfl⟩ ⟨Nat.le_of_ble_eq_true rfl, Nat.le_of_ble_eq_true rfl⟩ rfl rfl rfl (As := []) (rest := [.int v3]) rfl rfl (Nat.le_of_ble_eq_true rfl) dX11_sureOnes_6 ⟨Nat.zero_le _, Nat.zero_le _⟩ (fun H locs hW => ?_)
    show W p l e (rmq 5 112) s m args below meth c H locs 0 0 Q (F0 m 9 ls [.int x6, .int v3])
    refine lv_icmp_ge (tgt := 37) hx hb dX11_sureOnes_9 (by decide) (fun c2 => ?_) (fun c2 => ?_)
    · have hf := (if_pos c2).symm.trans hf
      obtain ⟨x9003, hf, hx9003⟩ := map_of hf
      have e9003 := (Kr1 _ hx9003.symm).symm
      subst e9003
      refine lv_iload_n hx hb dX11_sureOnes_37 rfl (lv_at hl 2 rfl) ?_
      obtain rfl := Option.some.inj hf
      rw [hQ]
      exact r_iret C hr hk hW rfl rfl dX11_sureOnes_38
    · have hf := (if_neg c2).symm.trans hf
      refine lv_iload_n hx hb dX11_sureOnes_12 rfl (lv_at hl 2 rfl) ?_
      refine lv_aload_n hx hb dX11_sureOnes_13 rfl (lv_at hl 0 rfl) ?_
      refine lv_iload_n hx hb dX11_sureOnes_14 rfl (lv_at hl 3 rfl) ?_
      refine lv_iload_n hx hb dX11_sureOnes_15 rfl (lv_at hl 1 rfl) ?_
      obtain ⟨x16, h16, hf⟩ := bd_of hf
      refine r_callV (k := ((0, 0) : Ky)) C hW hl lk_X11_146 (c_X11_isSure h16) ⟨rfl, rfl⟩ ⟨Nat.le_of_ble_eq_true rfl, Nat.le_of_ble_eq_true rfl⟩ rfl rfl rfl (As := [.int v3, .int v1]) (rest := [.int v2]) rfl rfl (Nat.le_of_ble_eq_true rfl) dX11_sureOnes_16 ⟨Nat.zero_le _, Nat.zero_le _⟩ (fun H locs hW => ?_)
      show W p l e (rmq 5 112) s m args below meth c H locs 0 0 Q (F0 m 19 ls [.int x16.1, .int v2])
      refine lv_if_eq (tgt := 28) hx hb dX11_sureOnes_19 (by decide) (fun c5 => ?_) (fun c5 => ?_)
      · have hf := (if_pos c5).symm.trans hf
        refine lv_iconst (v := 0) hx hb dX11_sureOnes_28 (by decide) ?_
        refine lv_ior hx hb dX11_sureOnes_29 ?_
        refine lv_istore_n (lv' := [(2, .int (v2 ||| (0 : Int32))), (0, .ref (ad 0)), (1, .int v1), (3, .int v3)]) hx hb dX11_sureOnes_30 rfl hl (by decide) rfl (fun ls hl => ?_)
        refine lv_iinc (v := (v3 + (1 : Int32))) (lv' := [(3, .int (v3 + (1 : Int32))), (2, .int (v2 ||| (0 : Int32))), (0, .ref (ad 0)), (1, .int v1)]) hx hb dX11_sureOnes_31 hl (k := 3) rfl rfl (by decide) rfl (fun ls hl => ?_)
        refine lv_goto (tgt := 4) hx hb dX11_sureOnes_34 (by decide) ?_
        obtain rfl := Option.some.inj hf
        exact Kl1 _ rfl _ _ _ hW (lv_sub hl [2, 3, 1, 0] rfl)
      · have hf := (if_neg c5).symm.trans hf
        refine lv_iconst (v := 1) hx hb dX11_sureOnes_22 (by decide) ?_
        refine lv_iload_n hx hb dX11_sureOnes_23 rfl (lv_at hl 3 rfl) ?_
        refine lv_ishl hx hb dX11_sureOnes_24 ?_
        refine lv_goto (tgt := 29) hx hb dX11_sureOnes_25 (by decide) ?_
        refine lv_ior hx hb dX11_sureOnes_29 ?_
        refine lv_istore_n (lv' := [(2, .int (v2 ||| ((1 : Int32) <<< (v3 &&& 31)))), (0, .ref (ad 0)), (1, .int v1), (3, .int v3)]) hx hb dX11_sureOnes_30 rfl hl (by decide) rfl (fun ls hl => ?_)
        refine lv_iinc (v := (v3 + (1 : Int32))) (lv' := [(3, .int (v3 + (1 : Int32))), (2, .int (v2 ||| ((1 : Int32) <<< (v3 &&& 31)))), (0, .ref (ad 0)), (1, .int v1)]) hx hb dX11_sureOnes_31 hl (k := 3) rfl rfl (by decide) rfl (fun ls hl => ?_)
        refine lv_goto (tgt := 4) hx hb dX11_sureOnes_34 (by decide) ?_
        obtain rfl := Option.some.inj hf
        exact Kl1 _ rfl _ _ _ hW (lv_sub hl [2, 3, 1, 0] rfl)
  exact L4 μ (0 : Int32) (0 : Int32) _ _ _ hf hW (lv_sub hl [2, 3, 1, 0] rfl)
set_option maxHeartbeats 4000000 in
set_option maxRecDepth 100000 in
theorem c_X11_parts {l : Launch} {D : va_G} {tc : Nat → ClassId} {ro : Ro} {ad : Nat → Nat} {μ : Mm} {v1 : Int32} {res : Mm} (hf : f_X11_parts μ v1 = some res) : Ct l D tc ro (faM ad) (feM tc ad) yX11_parts cX11_parts 5 none (rmq 1 22) [.ref (ad 0), .int v1] μ none res := by
  refine Ct.of (by decide) (Nat.le_of_ble_eq_true rfl) (fun p e s m args below meth c A C hr hk hW ls hl => ?_)
  have hx := C.1.1
  have hb := C.1.2.1
  obtain ⟨Q, hQ⟩ : ∃ Q, Q = MQ below (Ctq D (faM ad) (feM tc ad) none res A) args s 0 0 A := ⟨_, rfl⟩
  rw [← hQ]
  have hl : lv_has ls 5 [(0, .ref (ad 0)), (1, .int v1)] := hl
  unfold f_X11_parts at hf
  refine lv_iconst (v := 0) hx hb dX11_parts_0 (by decide) ?_
  refine lv_istore_n (lv' := [(2, .int (0 : Int32)), (0, .ref (ad 0)), (1, .int v1)]) hx hb dX11_parts_1 rfl hl (by decide) rfl (fun ls hl => ?_)
  have L2 : ∀ (μ : Mm) (v2 : Int32) (H : Heap) (locs : List Loc) (ls : Array Slot), Wh (fun z : Mm × Int32 => f_X11_parts_L2 v1 z.1 z.2) (μ, v2) = some res → Wd D (faM ad) (feM tc ad) A s.heap μ H locs → lv_has ls 5 [(0, .ref (ad 0)), (1, .int v1), (2, .int v2)] → W p l e (rmq 1 22) s m args below meth c H locs 0 0 Q (F0 m 2 ls []) := by
    intro μ v2 H locs ls hf hW hl
    refine Wh_rule hf (fun z : Mm × Int32 => ∀ (H : Heap) (locs : List Loc) (ls : Array Slot), Wd D (faM ad) (feM tc ad) A s.heap z.1 H locs → lv_has ls 5 [(0, .ref (ad 0)), (1, .int v1), (2, .int z.2)] → W p l e (rmq 1 22) s m args below meth c H locs 0 0 Q (F0 m 2 ls [])) (fun z o1 hf Kl1 Kr1 => ?_) _ _ _ hW hl
    obtain ⟨μ, v2⟩ := z
    intro H locs ls hW hl
    have hf : f_X11_parts_L2 v1 μ v2 = some o1 := hf
    unfold f_X11_parts_L2 at hf
    have hW : Wd D (faM ad) (feM tc ad) A s.heap μ H locs := hW
    have hl : lv_has ls 5 [(0, .ref (ad 0)), (1, .int v1), (2, .int v2)] := hl
    refine lv_iload_n hx hb dX11_parts_2 rfl (lv_at hl 2 rfl) ?_
    refine lv_aload_n hx hb dX11_parts_3 rfl (lv_at hl 0 rfl) ?_
    refine gf_X11_36 C hW dX11_parts_4 ?_
    refine r_alen (k := ((10, 0) : Ky)) (t := 0) (v := 4096) C hW rfl rfl rfl rfl dX11_parts_7 ?_
    refine lv_icmp_ge (tgt := 24) hx hb dX11_parts_8 (by decide) (fun c1 => ?_) (fun c1 => ?_)
    · have hf := (if_pos c1).symm.trans hf
      obtain ⟨x9014, hf, hx9014⟩ := map_of hf
      have e9014 := (Kr1 _ hx9014.symm).symm
      subst e9014
      refine lv_iconst (v := 0) hx hb dX11_parts_24 (by decide) ?_
      refine lv_istore_n (lv' := [(2, .int (0 : Int32)), (0, .ref (ad 0)), (1, .int v1)]) hx hb dX11_parts_25 rfl hl (by decide) rfl (fun ls hl => ?_)
      refine lv_iconst (v := 0) hx hb dX11_parts_26 (by decide) ?_
      refine lv_istore_n (lv' := [(3, .int (0 : Int32)), (2, .int (0 : Int32)), (0, .ref (ad 0)), (1, .int v1)]) hx hb dX11_parts_27 rfl hl (by decide) rfl (fun ls hl => ?_)
      have L28 : ∀ (μ : Mm) (v2 v3 : Int32) (H : Heap) (locs : List Loc) (ls : Array Slot), Wh (fun z : Mm × Int32 × Int32 => f_X11_parts_L28 v1 z.1 z.2.1 z.2.2) (μ, v2, v3) = some res → Wd D (faM ad) (feM tc ad) A s.heap μ H locs → lv_has ls 5 [(0, .ref (ad 0)), (1, .int v1), (2, .int v2), (3, .int v3)] → W p l e (rmq 1 22) s m args below meth c H locs 0 0 Q (F0 m 28 ls []) := by
        intro μ v2 v3 H locs ls hf hW hl
        refine Wh_rule hf (fun z : Mm × Int32 × Int32 => ∀ (H : Heap) (locs : List Loc) (ls : Array Slot), Wd D (faM ad) (feM tc ad) A s.heap z.1 H locs → lv_has ls 5 [(0, .ref (ad 0)), (1, .int v1), (2, .int z.2.1), (3, .int z.2.2)] → W p l e (rmq 1 22) s m args below meth c H locs 0 0 Q (F0 m 28 ls [])) (fun z o1 hf Kl1 Kr1 => ?_) _ _ _ hW hl
        obtain ⟨μ, v2, v3⟩ := z
        intro H locs ls hW hl
        have hf : f_X11_parts_L28 v1 μ v2 v3 = some o1 := hf
        unfold f_X11_parts_L28 at hf
        have hW : Wd D (faM ad) (feM tc ad) A s.heap μ H locs := hW
        have hl : lv_has ls 5 [(0, .ref (ad 0)), (1, .int v1), (2, .int v2), (3, .int v3)] := hl
        have J86 : ∀ (μ : Mm) (v2 v3 v4 : Int32) (H : Heap) (locs : List Loc) (ls : Array Slot), f_X11_parts_J86 μ v1 v2 v3 v4 = some o1 → Wd D (faM ad) (feM tc ad) A s.heap μ H locs → lv_has ls 5 [(0, .ref (ad 0)), (1, .int v1), (2, .int v2), (3, .int v3), (4, .int v4)] → W p l e (rmq 1 22) s m args below meth c H locs 0 0 Q (F0 m 86 ls []) := by
          intro μ v2 v3 v4 H locs ls hf hW hl
          unfold f_X11_parts_J86 at hf
          refine lv_aload_n hx hb dX11_parts_86 rfl (lv_at hl 0 rfl) ?_
          refine gf_X11_13 C hW dX11_parts_87 ?_
          refine lv_sipush (v := 532) hx hb dX11_parts_90 (by decide) ?_
          refine lv_sipush (v := 512) hx hb dX11_parts_93 (by decide) ?_
          refine lv_iload_n hx hb dX11_parts_96 rfl (lv_at hl 1 rfl) ?_
          refine lv_imul hx hb dX11_parts_97 ?_
          refine lv_iadd hx hb dX11_parts_98 ?_
          refine lv_iload_n hx hb dX11_parts_99 rfl (lv_at hl 3 rfl) ?_
          refine lv_iadd hx hb dX11_parts_100 ?_
          refine lv_aload_n hx hb dX11_parts_101 rfl (lv_at hl 0 rfl) ?_
          refine gf_X11_36 C hW dX11_parts_102 ?_
          refine lv_iload hx hb dX11_parts_105 (lv_at hl 4 rfl) ?_
          obtain ⟨hi2, hf⟩ := ck_of hf
          refine r_iald (k := ((10, 0) : Ky)) (n := 4096) C hW rfl rfl hi2 dX11_parts_107 ?_
          refine lv_iconst (v := 1) hx hb dX11_parts_108 (by decide) ?_
          refine lv_isub hx hb dX11_parts_109 ?_
          obtain ⟨hi3, hf⟩ := ck_of hf
          refine r_iast (k := ((1, 0) : Ky)) (n := 7114) C hW rfl (fun _ => rfl) hi3 dX11_parts_110 (fun H locs hW => ?_)
          refine lv_iinc (v := (v3 + (1 : Int32))) (lv' := [(3, .int (v3 + (1 : Int32))), (0, .ref (ad 0)), (1, .int v1), (2, .int v2), (4, .int v4)]) hx hb dX11_parts_111 hl (k := 3) rfl rfl (by decide) rfl (fun ls hl => ?_)
          refine lv_goto (tgt := 28) hx hb dX11_parts_114 (by decide) ?_
          obtain rfl := Option.some.inj hf
          exact Kl1 _ rfl _ _ _ hW (lv_sub hl [1, 2, 3, 0] rfl)
        refine lv_iload_n hx hb dX11_parts_28 rfl (lv_at hl 3 rfl) ?_
        refine lv_aload_n hx hb dX11_parts_29 rfl (lv_at hl 0 rfl) ?_
        obtain ⟨x30, h30, hf⟩ := bd_of hf
        refine r_callV (k := ((0, 0) : Ky)) C hW hl lk_X11_115 (c_X11_worlds h30) ⟨rfl, rfl⟩ ⟨Nat.le_of_ble_eq_true rfl, Nat.le_of_ble_eq_true rfl⟩ rfl rfl rfl (As := []) (rest := [.int v3]) rfl rfl (Nat.le_of_ble_eq_true rfl) dX11_parts_30 ⟨Nat.zero_le _, Nat.zero_le _⟩ (fun H locs hW => ?_)
        show W p l e (rmq 1 22) s m args below meth c H locs 0 0 Q (F0 m 33 ls [.int x30, .int v3])
        refine lv_icmp_ge (tgt := 117) hx hb dX11_parts_33 (by decide) (fun c5 => ?_) (fun c5 => ?_)
        · have hf := (if_pos c5).symm.trans hf
          obtain ⟨x9006, hf, hx9006⟩ := map_of hf
          have e9006 := (Kr1 _ hx9006.symm).symm
          subst e9006
          obtain rfl := Option.some.inj hf
          rw [hQ]
          exact r_vret C hr hk hW rfl rfl dX11_parts_117
        · have hf := (if_neg c5).symm.trans hf
          refine lv_aload_n hx hb dX11_parts_36 rfl (lv_at hl 0 rfl) ?_
          refine lv_iload_n hx hb dX11_parts_37 rfl (lv_at hl 3 rfl) ?_
          obtain ⟨x38, h38, hf⟩ := bd_of hf
          refine r_callV (k := ((0, 0) : Ky)) C hW hl lk_X11_128 (c_X11_isLeft h38) ⟨rfl, rfl⟩ ⟨Nat.le_of_ble_eq_true rfl, Nat.le_of_ble_eq_true rfl⟩ rfl rfl rfl (As := [.int v3]) (rest := []) rfl rfl (Nat.le_of_ble_eq_true rfl) dX11_parts_38 ⟨Nat.zero_le _, Nat.zero_le _⟩ (fun H locs hW => ?_)
          show W p l e (rmq 1 22) s m args below meth c H locs 0 0 Q (F0 m 41 ls [.int x38])
          refine lv_if_ne (tgt := 47) hx hb dX11_parts_41 (by decide) (fun c8 => ?_) (fun c8 => ?_)
          · have hf := (if_neg c8).symm.trans hf
            refine lv_bipush (v := 8) hx hb dX11_parts_47 (by decide) ?_
            refine lv_aload_n hx hb dX11_parts_49 rfl (lv_at hl 0 rfl) ?_
            refine lv_iload_n hx hb dX11_parts_50 rfl (lv_at hl 1 rfl) ?_
            refine lv_iload_n hx hb dX11_parts_51 rfl (lv_at hl 3 rfl) ?_
            obtain ⟨x52, h52, hf⟩ := bd_of hf
            refine r_callV (k := ((0, 0) : Ky)) C hW hl lk_X11_132 (c_X11_label h52) ⟨rfl, rfl⟩ ⟨Nat.le_of_ble_eq_true rfl, Nat.le_of_ble_eq_true rfl⟩ rfl rfl rfl (As := [.int v1, .int v3]) (rest := [.int (8 : Int32)]) rfl rfl (Nat.le_of_ble_eq_true rfl) dX11_parts_52 ⟨Nat.zero_le _, Nat.zero_le _⟩ (fun H locs hW => ?_)
            show W p l e (rmq 1 22) s m args below meth c H locs 0 0 Q (F0 m 55 ls [.int x52, .int (8 : Int32)])
            refine lv_imul hx hb dX11_parts_55 ?_
            refine lv_aload_n hx hb dX11_parts_56 rfl (lv_at hl 0 rfl) ?_
            refine gf_X11_33 C hW dX11_parts_57 ?_
            refine lv_iload_n hx hb dX11_parts_60 rfl (lv_at hl 3 rfl) ?_
            obtain ⟨hi10, hf⟩ := ck_of hf
            refine r_iald (k := ((9, 0) : Ky)) (n := 512) C hW rfl rfl hi10 dX11_parts_61 ?_
            refine lv_iadd hx hb dX11_parts_62 ?_
            refine lv_istore (lv' := [(4, .int (((8 : Int32) * x52) + (μ (9, 0) v3.toNatClampNeg))), (0, .ref (ad 0)), (1, .int v1), (2, .int v2), (3, .int v3)]) hx hb dX11_parts_63 hl (by decide) rfl (fun ls hl => ?_)
            refine lv_aload_n hx hb dX11_parts_65 rfl (lv_at hl 1 rfl) ?_
            refine gf_X11_36 C hW dX11_parts_66 ?_
            refine lv_iload hx hb dX11_parts_69 (lv_at hl 0 rfl) ?_
            obtain ⟨hi11, hf⟩ := ck_of hf
            refine r_iald (k := ((10, 0) : Ky)) (n := 4096) C hW rfl rfl hi11 dX11_parts_71 ?_
            refine lv_if_ne (tgt := 86) hx hb dX11_parts_72 (by decide) (fun c12 => ?_) (fun c12 => ?_)
            · have hf := (if_neg c12).symm.trans hf
              exact J86 μ v2 v3 (((8 : Int32) * x52) + (μ (9, 0) v3.toNatClampNeg)) _ _ _ hf hW (lv_sub hl [1, 2, 3, 4, 0] rfl)
            · have hf := (if_pos c12).symm.trans hf
              refine lv_iinc (v := (v2 + (1 : Int32))) (lv' := [(2, .int (v2 + (1 : Int32))), (4, .int (((8 : Int32) * x52) + (μ (9, 0) v3.toNatClampNeg))), (0, .ref (ad 0)), (1, .int v1), (3, .int v3)]) hx hb dX11_parts_75 hl (k := 3) rfl rfl (by decide) rfl (fun ls hl => ?_)
              refine lv_aload_n hx hb dX11_parts_78 rfl (lv_at hl 2 rfl) ?_
              refine gf_X11_36 C hW dX11_parts_79 ?_
              refine lv_iload hx hb dX11_parts_82 (lv_at hl 1 rfl) ?_
              refine lv_iload_n hx hb dX11_parts_84 rfl (lv_at hl 0 rfl) ?_
              obtain ⟨hi13, hf⟩ := ck_of hf
              refine r_iast (k := ((10, 0) : Ky)) (n := 4096) C hW rfl (fun _ => rfl) hi13 dX11_parts_85 (fun H locs hW => ?_)
              exact J86 (mst μ (10, 0) (((8 : Int32) * x52) + (μ (9, 0) v3.toNatClampNeg)).toNatClampNeg (v2 + (1 : Int32))) (v2 + (1 : Int32)) v3 (((8 : Int32) * x52) + (μ (9, 0) v3.toNatClampNeg)) _ _ _ hf hW (lv_sub hl [2, 3, 0, 4, 1] rfl)
          · have hf := (if_pos c8).symm.trans hf
            refine lv_goto (tgt := 111) hx hb dX11_parts_44 (by decide) ?_
            refine lv_iinc (v := (v3 + (1 : Int32))) (lv' := [(3, .int (v3 + (1 : Int32))), (0, .ref (ad 0)), (1, .int v1), (2, .int v2)]) hx hb dX11_parts_111 hl (k := 3) rfl rfl (by decide) rfl (fun ls hl => ?_)
            refine lv_goto (tgt := 28) hx hb dX11_parts_114 (by decide) ?_
            obtain rfl := Option.some.inj hf
            exact Kl1 _ rfl _ _ _ hW (lv_sub hl [1, 2, 3, 0] rfl)
      exact L28 μ (0 : Int32) (0 : Int32) _ _ _ hf hW (lv_sub hl [2, 3, 1, 0] rfl)
    · have hf := (if_neg c1).symm.trans hf
      refine lv_aload_n hx hb dX11_parts_11 rfl (lv_at hl 0 rfl) ?_
      refine gf_X11_36 C hW dX11_parts_12 ?_
      refine lv_iload_n hx hb dX11_parts_15 rfl (lv_at hl 2 rfl) ?_
      refine lv_iconst (v := 0) hx hb dX11_parts_16 (by decide) ?_
      obtain ⟨hi15, hf⟩ := ck_of hf
      refine r_iast (k := ((10, 0) : Ky)) (n := 4096) C hW rfl (fun _ => rfl) hi15 dX11_parts_17 (fun H locs hW => ?_)
      refine lv_iinc (v := (v2 + (1 : Int32))) (lv' := [(2, .int (v2 + (1 : Int32))), (0, .ref (ad 0)), (1, .int v1)]) hx hb dX11_parts_18 hl (k := 2) rfl rfl (by decide) rfl (fun ls hl => ?_)
      refine lv_goto (tgt := 2) hx hb dX11_parts_21 (by decide) ?_
      obtain rfl := Option.some.inj hf
      exact Kl1 _ rfl _ _ _ hW (lv_sub hl [1, 2, 0] rfl)
  exact L2 μ (0 : Int32) _ _ _ hf hW (lv_sub hl [1, 2, 0] rfl)
set_option maxHeartbeats 4000000 in
set_option maxRecDepth 100000 in
theorem c_X11_drops {l : Launch} {D : va_G} {tc : Nat → ClassId} {ro : Ro} {ad : Nat → Nat} {μ : Mm} {res : Mm} (hf : f_X11_drops μ = some res) : Ct l D tc ro (faM ad) (feM tc ad) yX11_drops cX11_drops 2 none (rmq 1 20) [.ref (ad 0)] μ none res := by
  refine Ct.of (by decide) (Nat.le_of_ble_eq_true rfl) (fun p e s m args below meth c A C hr hk hW ls hl => ?_)
  have hx := C.1.1
  have hb := C.1.2.1
  obtain ⟨Q, hQ⟩ : ∃ Q, Q = MQ below (Ctq D (faM ad) (feM tc ad) none res A) args s 0 0 A := ⟨_, rfl⟩
  rw [← hQ]
  have hl : lv_has ls 2 [(0, .ref (ad 0))] := hl
  unfold f_X11_drops at hf
  refine lv_iconst (v := 0) hx hb dX11_drops_0 (by decide) ?_
  refine lv_istore_n (lv' := [(1, .int (0 : Int32)), (0, .ref (ad 0))]) hx hb dX11_drops_1 rfl hl (by decide) rfl (fun ls hl => ?_)
  have L2 : ∀ (μ : Mm) (v1 : Int32) (H : Heap) (locs : List Loc) (ls : Array Slot), Wh (fun z : Mm × Int32 => f_X11_drops_L2 z.1 z.2) (μ, v1) = some res → Wd D (faM ad) (feM tc ad) A s.heap μ H locs → lv_has ls 2 [(0, .ref (ad 0)), (1, .int v1)] → W p l e (rmq 1 20) s m args below meth c H locs 0 0 Q (F0 m 2 ls []) := by
    intro μ v1 H locs ls hf hW hl
    refine Wh_rule hf (fun z : Mm × Int32 => ∀ (H : Heap) (locs : List Loc) (ls : Array Slot), Wd D (faM ad) (feM tc ad) A s.heap z.1 H locs → lv_has ls 2 [(0, .ref (ad 0)), (1, .int z.2)] → W p l e (rmq 1 20) s m args below meth c H locs 0 0 Q (F0 m 2 ls [])) (fun z o1 hf Kl1 Kr1 => ?_) _ _ _ hW hl
    obtain ⟨μ, v1⟩ := z
    intro H locs ls hW hl
    have hf : f_X11_drops_L2 μ v1 = some o1 := hf
    unfold f_X11_drops_L2 at hf
    have hW : Wd D (faM ad) (feM tc ad) A s.heap μ H locs := hW
    have hl : lv_has ls 2 [(0, .ref (ad 0)), (1, .int v1)] := hl
    refine lv_iload_n hx hb dX11_drops_2 rfl (lv_at hl 1 rfl) ?_
    refine lv_aload_n hx hb dX11_drops_3 rfl (lv_at hl 0 rfl) ?_
    obtain ⟨x4, h4, hf⟩ := bd_of hf
    refine r_callV (k := ((0, 0) : Ky)) C hW hl lk_X11_115 (c_X11_worlds h4) ⟨rfl, rfl⟩ ⟨Nat.le_of_ble_eq_true rfl, Nat.le_of_ble_eq_true rfl⟩ rfl rfl rfl (As := []) (rest := [.int v1]) rfl rfl (Nat.le_of_ble_eq_true rfl) dX11_drops_4 ⟨Nat.zero_le _, Nat.zero_le _⟩ (fun H locs hW => ?_)
    show W p l e (rmq 1 20) s m args below meth c H locs 0 0 Q (F0 m 7 ls [.int x4, .int v1])
    refine lv_icmp_ge (tgt := 44) hx hb dX11_drops_7 (by decide) (fun c2 => ?_) (fun c2 => ?_)
    · have hf := (if_pos c2).symm.trans hf
      obtain ⟨x9003, hf, hx9003⟩ := map_of hf
      have e9003 := (Kr1 _ hx9003.symm).symm
      subst e9003
      obtain rfl := Option.some.inj hf
      rw [hQ]
      exact r_vret C hr hk hW rfl rfl dX11_drops_44
    · have hf := (if_neg c2).symm.trans hf
      refine lv_aload_n hx hb dX11_drops_10 rfl (lv_at hl 0 rfl) ?_
      refine gf_X11_33 C hW dX11_drops_11 ?_
      refine lv_iload_n hx hb dX11_drops_14 rfl (lv_at hl 1 rfl) ?_
      obtain ⟨hi4, hf⟩ := ck_of hf
      refine r_iald (k := ((9, 0) : Ky)) (n := 512) C hW rfl rfl hi4 dX11_drops_15 ?_
      refine lv_aload_n hx hb dX11_drops_16 rfl (lv_at hl 0 rfl) ?_
      refine gf_X11_33 C hW dX11_drops_17 ?_
      refine lv_aload_n hx hb dX11_drops_20 rfl (lv_at hl 0 rfl) ?_
      obtain ⟨x21, h21, hf⟩ := bd_of hf
      refine r_callV (k := ((0, 0) : Ky)) C hW hl lk_X11_121 (c_X11_here h21) ⟨rfl, rfl⟩ ⟨Nat.le_of_ble_eq_true rfl, Nat.le_of_ble_eq_true rfl⟩ rfl rfl rfl (As := []) (rest := [.ref (ad 9), .int (μ (9, 0) v1.toNatClampNeg)]) rfl rfl (Nat.le_of_ble_eq_true rfl) dX11_drops_21 ⟨Nat.zero_le _, Nat.zero_le _⟩ (fun H locs hW => ?_)
      show W p l e (rmq 1 20) s m args below meth c H locs 0 0 Q (F0 m 24 ls [.int x21, .ref (ad 9), .int (μ (9, 0) v1.toNatClampNeg)])
      obtain ⟨hi6, hf⟩ := ck_of hf
      refine r_iald (k := ((9, 0) : Ky)) (n := 512) C hW rfl rfl hi6 dX11_drops_24 ?_
      refine lv_icmp_eq (tgt := 38) hx hb dX11_drops_25 (by decide) (fun c7 => ?_) (fun c7 => ?_)
      · have hf := (if_pos c7).symm.trans hf
        refine lv_iinc (v := (v1 + (1 : Int32))) (lv' := [(1, .int (v1 + (1 : Int32))), (0, .ref (ad 0))]) hx hb dX11_drops_38 hl (k := 1) rfl rfl (by decide) rfl (fun ls hl => ?_)
        refine lv_goto (tgt := 2) hx hb dX11_drops_41 (by decide) ?_
        obtain rfl := Option.some.inj hf
        exact Kl1 _ rfl _ _ _ hW (lv_sub hl [1, 0] rfl)
      · have hf := (if_neg c7).symm.trans hf
        refine lv_aload_n hx hb dX11_drops_28 rfl (lv_at hl 0 rfl) ?_
        refine gf_X11_13 C hW dX11_drops_29 ?_
        refine lv_bipush (v := 20) hx hb dX11_drops_32 (by decide) ?_
        refine lv_iload_n hx hb dX11_drops_34 rfl (lv_at hl 1 rfl) ?_
        refine lv_iadd hx hb dX11_drops_35 ?_
        refine lv_iconst (v := 0) hx hb dX11_drops_36 (by decide) ?_
        obtain ⟨hi8, hf⟩ := ck_of hf
        refine r_iast (k := ((1, 0) : Ky)) (n := 7114) C hW rfl (fun _ => rfl) hi8 dX11_drops_37 (fun H locs hW => ?_)
        refine lv_iinc (v := (v1 + (1 : Int32))) (lv' := [(1, .int (v1 + (1 : Int32))), (0, .ref (ad 0))]) hx hb dX11_drops_38 hl (k := 1) rfl rfl (by decide) rfl (fun ls hl => ?_)
        refine lv_goto (tgt := 2) hx hb dX11_drops_41 (by decide) ?_
        obtain rfl := Option.some.inj hf
        exact Kl1 _ rfl _ _ _ hW (lv_sub hl [1, 0] rfl)
  exact L2 μ (0 : Int32) _ _ _ hf hW (lv_sub hl [1, 0] rfl)
set_option maxHeartbeats 4000000 in
set_option maxRecDepth 100000 in
theorem c_X11_noticesCome {l : Launch} {D : va_G} {tc : Nat → ClassId} {ro : Ro} {ad : Nat → Nat} {μ : Mm} {v1 : Int32} {res : Mm} (hf : f_X11_noticesCome μ v1 = some res) : Ct l D tc ro (faM ad) (feM tc ad) yX11_noticesCome cX11_noticesCome 3 none (rmq 2 44) [.ref (ad 0), .int v1] μ none res := by
  refine Ct.of (by decide) (Nat.le_of_ble_eq_true rfl) (fun p e s m args below meth c A C hr hk hW ls hl => ?_)
  have hx := C.1.1
  have hb := C.1.2.1
  obtain ⟨Q, hQ⟩ : ∃ Q, Q = MQ below (Ctq D (faM ad) (feM tc ad) none res A) args s 0 0 A := ⟨_, rfl⟩
  rw [← hQ]
  have hl : lv_has ls 3 [(0, .ref (ad 0)), (1, .int v1)] := hl
  unfold f_X11_noticesCome at hf
  refine lv_iconst (v := 0) hx hb dX11_noticesCome_0 (by decide) ?_
  refine lv_istore_n (lv' := [(2, .int (0 : Int32)), (0, .ref (ad 0)), (1, .int v1)]) hx hb dX11_noticesCome_1 rfl hl (by decide) rfl (fun ls hl => ?_)
  have L2 : ∀ (μ : Mm) (v2 : Int32) (H : Heap) (locs : List Loc) (ls : Array Slot), Wh (fun z : Mm × Int32 => f_X11_noticesCome_L2 v1 z.1 z.2) (μ, v2) = some res → Wd D (faM ad) (feM tc ad) A s.heap μ H locs → lv_has ls 3 [(0, .ref (ad 0)), (1, .int v1), (2, .int v2)] → W p l e (rmq 2 44) s m args below meth c H locs 0 0 Q (F0 m 2 ls []) := by
    intro μ v2 H locs ls hf hW hl
    refine Wh_rule hf (fun z : Mm × Int32 => ∀ (H : Heap) (locs : List Loc) (ls : Array Slot), Wd D (faM ad) (feM tc ad) A s.heap z.1 H locs → lv_has ls 3 [(0, .ref (ad 0)), (1, .int v1), (2, .int z.2)] → W p l e (rmq 2 44) s m args below meth c H locs 0 0 Q (F0 m 2 ls [])) (fun z o1 hf Kl1 Kr1 => ?_) _ _ _ hW hl
    obtain ⟨μ, v2⟩ := z
    intro H locs ls hW hl
    have hf : f_X11_noticesCome_L2 v1 μ v2 = some o1 := hf
    unfold f_X11_noticesCome_L2 at hf
    have hW : Wd D (faM ad) (feM tc ad) A s.heap μ H locs := hW
    have hl : lv_has ls 3 [(0, .ref (ad 0)), (1, .int v1), (2, .int v2)] := hl
    refine lv_iload_n hx hb dX11_noticesCome_2 rfl (lv_at hl 2 rfl) ?_
    refine lv_aload_n hx hb dX11_noticesCome_3 rfl (lv_at hl 0 rfl) ?_
    obtain ⟨x4, h4, hf⟩ := bd_of hf
    refine r_callV (k := ((0, 0) : Ky)) C hW hl lk_X11_115 (c_X11_worlds h4) ⟨rfl, rfl⟩ ⟨Nat.le_of_ble_eq_true rfl, Nat.le_of_ble_eq_true rfl⟩ rfl rfl rfl (As := []) (rest := [.int v2]) rfl rfl (Nat.le_of_ble_eq_true rfl) dX11_noticesCome_4 ⟨Nat.zero_le _, Nat.zero_le _⟩ (fun H locs hW => ?_)
    show W p l e (rmq 2 44) s m args below meth c H locs 0 0 Q (F0 m 7 ls [.int x4, .int v2])
    refine lv_icmp_ge (tgt := 28) hx hb dX11_noticesCome_7 (by decide) (fun c2 => ?_) (fun c2 => ?_)
    · have hf := (if_pos c2).symm.trans hf
      obtain ⟨x9003, hf, hx9003⟩ := map_of hf
      have e9003 := (Kr1 _ hx9003.symm).symm
      subst e9003
      obtain rfl := Option.some.inj hf
      rw [hQ]
      exact r_vret C hr hk hW rfl rfl dX11_noticesCome_28
    · have hf := (if_neg c2).symm.trans hf
      refine lv_aload_n hx hb dX11_noticesCome_10 rfl (lv_at hl 0 rfl) ?_
      refine gf_X11_33 C hW dX11_noticesCome_11 ?_
      refine lv_iload_n hx hb dX11_noticesCome_14 rfl (lv_at hl 2 rfl) ?_
      refine lv_aload_n hx hb dX11_noticesCome_15 rfl (lv_at hl 0 rfl) ?_
      refine lv_iload_n hx hb dX11_noticesCome_16 rfl (lv_at hl 1 rfl) ?_
      refine lv_iload_n hx hb dX11_noticesCome_17 rfl (lv_at hl 2 rfl) ?_
      obtain ⟨x18, h18, hf⟩ := bd_of hf
      refine r_callV (k := ((0, 0) : Ky)) C hW hl lk_X11_124 (c_X11_noticeIn h18) ⟨rfl, rfl⟩ ⟨Nat.le_of_ble_eq_true rfl, Nat.le_of_ble_eq_true rfl⟩ rfl rfl rfl (As := [.int v1, .int v2]) (rest := [.int v2, .ref (ad 9)]) rfl rfl (Nat.le_of_ble_eq_true rfl) dX11_noticesCome_18 ⟨Nat.zero_le _, Nat.zero_le _⟩ (fun H locs hW => ?_)
      show W p l e (rmq 2 44) s m args below meth c H locs 0 0 Q (F0 m 21 ls [.int x18, .int v2, .ref (ad 9)])
      obtain ⟨hi5, hf⟩ := ck_of hf
      refine r_iast (k := ((9, 0) : Ky)) (n := 512) C hW rfl (fun _ => rfl) hi5 dX11_noticesCome_21 (fun H locs hW => ?_)
      refine lv_iinc (v := (v2 + (1 : Int32))) (lv' := [(2, .int (v2 + (1 : Int32))), (0, .ref (ad 0)), (1, .int v1)]) hx hb dX11_noticesCome_22 hl (k := 2) rfl rfl (by decide) rfl (fun ls hl => ?_)
      refine lv_goto (tgt := 2) hx hb dX11_noticesCome_25 (by decide) ?_
      obtain rfl := Option.some.inj hf
      exact Kl1 _ rfl _ _ _ hW (lv_sub hl [1, 2, 0] rfl)
  exact L2 μ (0 : Int32) _ _ _ hf hW (lv_sub hl [1, 2, 0] rfl)
set_option maxHeartbeats 4000000 in
set_option maxRecDepth 100000 in
theorem c_X11_seesFrom {l : Launch} {D : va_G} {tc : Nat → ClassId} {ro : Ro} {ad : Nat → Nat} {μ : Mm} {v1 v2 : Int32} {res : Mm} (hf : f_X11_seesFrom μ v1 v2 = some res) : Ct l D tc ro (faM ad) (feM tc ad) yX11_seesFrom cX11_seesFrom 3 none (rmq 3 66) [.ref (ad 0), .int v1, .int v2] μ none res := by
  refine Ct.of (by decide) (Nat.le_of_ble_eq_true rfl) (fun p e s m args below meth c A C hr hk hW ls hl => ?_)
  have hx := C.1.1
  have hb := C.1.2.1
  obtain ⟨Q, hQ⟩ : ∃ Q, Q = MQ below (Ctq D (faM ad) (feM tc ad) none res A) args s 0 0 A := ⟨_, rfl⟩
  rw [← hQ]
  have hl : lv_has ls 3 [(0, .ref (ad 0)), (1, .int v1), (2, .int v2)] := hl
  unfold f_X11_seesFrom at hf
  refine lv_aload_n hx hb dX11_seesFrom_0 rfl (lv_at hl 0 rfl) ?_
  refine gf_X11_13 C hW dX11_seesFrom_1 ?_
  refine lv_bipush (v := 11) hx hb dX11_seesFrom_4 (by decide) ?_
  refine lv_iload_n hx hb dX11_seesFrom_6 rfl (lv_at hl 1 rfl) ?_
  refine lv_iadd hx hb dX11_seesFrom_7 ?_
  refine lv_dup2_11 hx hb dX11_seesFrom_8 rfl rfl ?_
  obtain ⟨hi1, hf⟩ := ck_of hf
  refine r_iald (k := ((1, 0) : Ky)) (n := 7114) C hW rfl rfl hi1 dX11_seesFrom_9 ?_
  refine lv_iconst (v := 1) hx hb dX11_seesFrom_10 (by decide) ?_
  refine lv_iload_n hx hb dX11_seesFrom_11 rfl (lv_at hl 2 rfl) ?_
  refine lv_ishl hx hb dX11_seesFrom_12 ?_
  refine lv_ior hx hb dX11_seesFrom_13 ?_
  obtain ⟨hi2, hf⟩ := ck_of hf
  refine r_iast (k := ((1, 0) : Ky)) (n := 7114) C hW rfl (fun _ => rfl) hi2 dX11_seesFrom_14 (fun H locs hW => ?_)
  refine lv_aload_n hx hb dX11_seesFrom_15 rfl (lv_at hl 0 rfl) ?_
  refine lv_iload_n hx hb dX11_seesFrom_16 rfl (lv_at hl 2 rfl) ?_
  obtain ⟨x17, h17, hf⟩ := bd_of hf
  refine r_callV (k := ((0, 0) : Ky)) C hW hl lk_X11_149 (c_X11_noticesCome h17) ⟨rfl, rfl⟩ ⟨Nat.le_of_ble_eq_true rfl, Nat.le_of_ble_eq_true rfl⟩ rfl rfl rfl (As := [.int v2]) (rest := []) rfl rfl (Nat.le_of_ble_eq_true rfl) dX11_seesFrom_17 ⟨Nat.zero_le _, Nat.zero_le _⟩ (fun H locs hW => ?_)
  show W p l e (rmq 3 66) s m args below meth c H locs 0 0 Q (F0 m 20 ls [])
  refine lv_aload_n hx hb dX11_seesFrom_20 rfl (lv_at hl 0 rfl) ?_
  refine lv_iload_n hx hb dX11_seesFrom_21 rfl (lv_at hl 1 rfl) ?_
  obtain ⟨x22, h22, hf⟩ := bd_of hf
  refine r_callV (k := ((0, 0) : Ky)) C hW hl lk_X11_153 (c_X11_parts h22) ⟨rfl, rfl⟩ ⟨Nat.le_of_ble_eq_true rfl, Nat.le_of_ble_eq_true rfl⟩ rfl rfl rfl (As := [.int v1]) (rest := []) rfl rfl (Nat.le_of_ble_eq_true rfl) dX11_seesFrom_22 ⟨Nat.zero_le _, Nat.zero_le _⟩ (fun H locs hW => ?_)
  show W p l e (rmq 3 66) s m args below meth c H locs 0 0 Q (F0 m 25 ls [])
  obtain rfl := Option.some.inj hf
  rw [hQ]
  exact r_vret C hr hk hW rfl rfl dX11_seesFrom_25
set_option maxHeartbeats 4000000 in
set_option maxRecDepth 100000 in
theorem c_X11_feed {l : Launch} {D : va_G} {tc : Nat → ClassId} {ro : Ro} {ad : Nat → Nat} {μ : Mm} {v1 v2 v3 v4 v5 : Int32} {res : Int32 × Mm} (hf : f_X11_feed μ v1 v2 v3 v4 v5 = some res) : Ct l D tc ro (faM ad) (feM tc ad) yX11_feed cX11_feed 7 (some .int) (rmq 0 0) [.ref (ad 0), .int v1, .int v2, .int v3, .int v4, .int v5] μ (some (.int res.1)) res.2 := by
  refine Ct.of (by decide) (Nat.le_of_ble_eq_true rfl) (fun p e s m args below meth c A C hr hk hW ls hl => ?_)
  have hx := C.1.1
  have hb := C.1.2.1
  obtain ⟨Q, hQ⟩ : ∃ Q, Q = MQ below (Ctq D (faM ad) (feM tc ad) (some (.int res.1)) res.2 A) args s 0 0 A := ⟨_, rfl⟩
  rw [← hQ]
  have hl : lv_has ls 7 [(0, .ref (ad 0)), (1, .int v1), (2, .int v2), (3, .int v3), (4, .int v4), (5, .int v5)] := hl
  unfold f_X11_feed at hf
  refine lv_aload_n hx hb dX11_feed_0 rfl (lv_at hl 0 rfl) ?_
  refine lv_iconst (v := 0) hx hb dX11_feed_1 (by decide) ?_
  refine pf_X11_3 C hW dX11_feed_2 (fun H locs hW => ?_)
  refine lv_aload_n hx hb dX11_feed_5 rfl (lv_at hl 0 rfl) ?_
  refine gf_X11_156 C hW dX11_feed_6 ?_
  refine lv_bipush (v := 20) hx hb dX11_feed_9 (by decide) ?_
  refine lv_iadd hx hb dX11_feed_11 ?_
  refine lv_sipush (v := 400) hx hb dX11_feed_12 (by decide) ?_
  refine lv_icmp_le (tgt := 20) hx hb dX11_feed_15 (by decide) (fun c1 => ?_) (fun c1 => ?_)
  · have hf := (if_pos c1).symm.trans hf
    refine lv_aload_n hx hb dX11_feed_20 rfl (lv_at hl 0 rfl) ?_
    refine gf_X11_46 C hW dX11_feed_21 ?_
    refine lv_iconst (v := 0) hx hb dX11_feed_24 (by decide) ?_
    refine lv_iload_n hx hb dX11_feed_25 rfl (lv_at hl 1 rfl) ?_
    obtain ⟨hi2, hf⟩ := ck_of hf
    refine r_iast (k := ((18, 0) : Ky)) (n := 5) C hW rfl (fun _ => rfl) hi2 dX11_feed_26 (fun H locs hW => ?_)
    refine lv_aload_n hx hb dX11_feed_27 rfl (lv_at hl 0 rfl) ?_
    refine gf_X11_46 C hW dX11_feed_28 ?_
    refine lv_iconst (v := 1) hx hb dX11_feed_31 (by decide) ?_
    refine lv_iload_n hx hb dX11_feed_32 rfl (lv_at hl 2 rfl) ?_
    obtain ⟨hi3, hf⟩ := ck_of hf
    refine r_iast (k := ((18, 0) : Ky)) (n := 5) C hW rfl (fun _ => rfl) hi3 dX11_feed_33 (fun H locs hW => ?_)
    refine lv_aload_n hx hb dX11_feed_34 rfl (lv_at hl 0 rfl) ?_
    refine gf_X11_46 C hW dX11_feed_35 ?_
    refine lv_iconst (v := 2) hx hb dX11_feed_38 (by decide) ?_
    refine lv_iload_n hx hb dX11_feed_39 rfl (lv_at hl 3 rfl) ?_
    obtain ⟨hi4, hf⟩ := ck_of hf
    refine r_iast (k := ((18, 0) : Ky)) (n := 5) C hW rfl (fun _ => rfl) hi4 dX11_feed_40 (fun H locs hW => ?_)
    refine lv_aload_n hx hb dX11_feed_41 rfl (lv_at hl 0 rfl) ?_
    refine gf_X11_46 C hW dX11_feed_42 ?_
    refine lv_iconst (v := 3) hx hb dX11_feed_45 (by decide) ?_
    refine lv_iload hx hb dX11_feed_46 (lv_at hl 4 rfl) ?_
    obtain ⟨hi5, hf⟩ := ck_of hf
    refine r_iast (k := ((18, 0) : Ky)) (n := 5) C hW rfl (fun _ => rfl) hi5 dX11_feed_48 (fun H locs hW => ?_)
    refine lv_aload_n hx hb dX11_feed_49 rfl (lv_at hl 0 rfl) ?_
    refine gf_X11_46 C hW dX11_feed_50 ?_
    refine lv_iconst (v := 4) hx hb dX11_feed_53 (by decide) ?_
    refine lv_iload hx hb dX11_feed_54 (lv_at hl 5 rfl) ?_
    obtain ⟨hi6, hf⟩ := ck_of hf
    refine r_iast (k := ((18, 0) : Ky)) (n := 5) C hW rfl (fun _ => rfl) hi6 dX11_feed_56 (fun H locs hW => ?_)
    refine lv_iconst (v := 0) hx hb dX11_feed_57 (by decide) ?_
    refine lv_istore (lv' := [(6, .int (0 : Int32)), (0, .ref (ad 0)), (1, .int v1), (2, .int v2), (3, .int v3), (4, .int v4), (5, .int v5)]) hx hb dX11_feed_58 hl (by decide) rfl (fun ls hl => ?_)
    have L60 : ∀ (μ : Mm) (v6 : Int32) (H : Heap) (locs : List Loc) (ls : Array Slot), Wh (fun z : Mm × Int32 => f_X11_feed_L60 z.1 z.2) (μ, v6) = some res → Wd D (faM ad) (feM tc ad) A s.heap μ H locs → lv_has ls 7 [(0, .ref (ad 0)), (6, .int v6)] → W p l e (rmq 0 0) s m args below meth c H locs 0 0 Q (F0 m 60 ls []) := by
      intro μ v6 H locs ls hf hW hl
      refine Wh_rule hf (fun z : Mm × Int32 => ∀ (H : Heap) (locs : List Loc) (ls : Array Slot), Wd D (faM ad) (feM tc ad) A s.heap z.1 H locs → lv_has ls 7 [(0, .ref (ad 0)), (6, .int z.2)] → W p l e (rmq 0 0) s m args below meth c H locs 0 0 Q (F0 m 60 ls [])) (fun z o1 hf Kl1 Kr1 => ?_) _ _ _ hW hl
      obtain ⟨μ, v6⟩ := z
      intro H locs ls hW hl
      have hf : f_X11_feed_L60 μ v6 = some o1 := hf
      unfold f_X11_feed_L60 at hf
      have hW : Wd D (faM ad) (feM tc ad) A s.heap μ H locs := hW
      have hl : lv_has ls 7 [(0, .ref (ad 0)), (6, .int v6)] := hl
      refine lv_iload hx hb dX11_feed_60 (lv_at hl 1 rfl) ?_
      refine lv_bipush (v := 20) hx hb dX11_feed_62 (by decide) ?_
      refine lv_icmp_ge (tgt := 106) hx hb dX11_feed_64 (by decide) (fun c7 => ?_) (fun c7 => ?_)
      · have hf := (if_pos c7).symm.trans hf
        obtain ⟨x9008, hf, hx9008⟩ := map_of hf
        have e9008 := (Kr1 _ hx9008.symm).symm
        subst e9008
        refine lv_aload_n hx hb dX11_feed_106 rfl (lv_at hl 0 rfl) ?_
        refine lv_dup hx hb dX11_feed_107 rfl ?_
        refine gf_X11_156 C hW dX11_feed_108 ?_
        refine lv_bipush (v := 20) hx hb dX11_feed_111 (by decide) ?_
        refine lv_iadd hx hb dX11_feed_113 ?_
        refine pf_X11_156 C hW dX11_feed_114 (fun H locs hW => ?_)
        refine lv_aload_n hx hb dX11_feed_117 rfl (lv_at hl 0 rfl) ?_
        refine gf_X11_156 C hW dX11_feed_118 ?_
        obtain rfl := Option.some.inj hf
        rw [hQ]
        exact r_iret C hr hk hW rfl rfl dX11_feed_121
      · have hf := (if_neg c7).symm.trans hf
        refine lv_aload_n hx hb dX11_feed_67 rfl (lv_at hl 0 rfl) ?_
        refine gf_X11_39 C hW dX11_feed_68 ?_
        refine lv_aload_n hx hb dX11_feed_71 rfl (lv_at hl 0 rfl) ?_
        refine gf_X11_156 C hW dX11_feed_72 ?_
        refine lv_iload hx hb dX11_feed_75 (lv_at hl 1 rfl) ?_
        refine lv_iadd hx hb dX11_feed_77 ?_
        refine lv_aload_n hx hb dX11_feed_78 rfl (lv_at hl 0 rfl) ?_
        refine gf_X11_46 C hW dX11_feed_79 ?_
        refine lv_iload hx hb dX11_feed_82 (lv_at hl 1 rfl) ?_
        refine lv_iconst (v := 4) hx hb dX11_feed_84 (by decide) ?_
        refine lv_idiv hx hb dX11_feed_85 (by decide) ?_
        obtain ⟨hi10, hf⟩ := ck_of hf
        refine r_iald (k := ((18, 0) : Ky)) (n := 5) C hW rfl rfl hi10 dX11_feed_86 ?_
        refine lv_bipush (v := 24) hx hb dX11_feed_87 (by decide) ?_
        refine lv_bipush (v := 8) hx hb dX11_feed_89 (by decide) ?_
        refine lv_iload hx hb dX11_feed_91 (lv_at hl 1 rfl) ?_
        refine lv_iconst (v := 4) hx hb dX11_feed_93 (by decide) ?_
        refine lv_irem hx hb dX11_feed_94 (by decide) ?_
        refine lv_imul hx hb dX11_feed_95 ?_
        refine lv_isub hx hb dX11_feed_96 ?_
        refine lv_ishr hx hb dX11_feed_97 ?_
        refine lv_i2b hx hb dX11_feed_98 rfl ?_
        obtain ⟨hi12, hf⟩ := ck_of hf
        refine r_bast (k := ((11, 0) : Ky)) (n := 400) C hW rfl (fun _ => rfl) hi12 dX11_feed_99 (fun H locs hW => ?_)
        refine lv_iinc (v := (v6 + (1 : Int32))) (lv' := [(6, .int (v6 + (1 : Int32))), (0, .ref (ad 0))]) hx hb dX11_feed_100 hl (k := 1) rfl rfl (by decide) rfl (fun ls hl => ?_)
        refine lv_goto (tgt := 60) hx hb dX11_feed_103 (by decide) ?_
        obtain rfl := Option.some.inj hf
        exact Kl1 _ rfl _ _ _ hW (lv_sub hl [1, 0] rfl)
    exact L60 (mst (mst (mst (mst (mst (mst μ (0, 0) 0 (0 : Int32)) (18, 0) (0 : Int32).toNatClampNeg v1) (18, 0) (1 : Int32).toNatClampNeg v2) (18, 0) (2 : Int32).toNatClampNeg v3) (18, 0) (3 : Int32).toNatClampNeg v4) (18, 0) (4 : Int32).toNatClampNeg v5) (0 : Int32) _ _ _ hf hW (lv_sub hl [1, 0] rfl)
  · have hf := (if_neg c1).symm.trans hf
    refine lv_iconst (v := -1) hx hb dX11_feed_18 (by decide) ?_
    obtain rfl := Option.some.inj hf
    rw [hQ]
    exact r_iret C hr hk hW rfl rfl dX11_feed_19
set_option maxHeartbeats 4000000 in
set_option maxRecDepth 100000 in
theorem c_X11_end {l : Launch} {D : va_G} {tc : Nat → ClassId} {ro : Ro} {ad : Nat → Nat} {μ : Mm} {v1 : Int32} {res : Int32 × Mm} (hf : f_X11_end μ v1 = some res) : Ct l D tc ro (faM ad) (feM tc ad) yX11_end cX11_end 2 (some .boolean) (rmq 0 0) [.ref (ad 0), .int v1] μ (some (.int res.1)) res.2 := by
  refine Ct.of (by decide) (Nat.le_of_ble_eq_true rfl) (fun p e s m args below meth c A C hr hk hW ls hl => ?_)
  have hx := C.1.1
  have hb := C.1.2.1
  obtain ⟨Q, hQ⟩ : ∃ Q, Q = MQ below (Ctq D (faM ad) (feM tc ad) (some (.int res.1)) res.2 A) args s 0 0 A := ⟨_, rfl⟩
  rw [← hQ]
  have hl : lv_has ls 2 [(0, .ref (ad 0)), (1, .int v1)] := hl
  unfold f_X11_end at hf
  refine lv_aload_n hx hb dX11_end_0 rfl (lv_at hl 0 rfl) ?_
  refine lv_iconst (v := 0) hx hb dX11_end_1 (by decide) ?_
  refine pf_X11_3 C hW dX11_end_2 (fun H locs hW => ?_)
  refine lv_iload_n hx hb dX11_end_5 rfl (lv_at hl 1 rfl) ?_
  refine lv_if_lt (tgt := 17) hx hb dX11_end_6 (by decide) (fun c1 => ?_) (fun c1 => ?_)
  · have hf := (if_pos c1).symm.trans hf
    refine lv_iconst (v := 0) hx hb dX11_end_17 (by decide) ?_
    obtain rfl := Option.some.inj hf
    rw [hQ]
    exact r_zret C hr hk hW (Or.inl rfl) rfl rfl dX11_end_18
  · have hf := (if_neg c1).symm.trans hf
    refine lv_iload_n hx hb dX11_end_9 rfl (lv_at hl 1 rfl) ?_
    refine lv_aload_n hx hb dX11_end_10 rfl (lv_at hl 0 rfl) ?_
    refine gf_X11_156 C hW dX11_end_11 ?_
    refine lv_icmp_le (tgt := 19) hx hb dX11_end_14 (by decide) (fun c2 => ?_) (fun c2 => ?_)
    · have hf := (if_pos c2).symm.trans hf
      refine lv_aload_n hx hb dX11_end_19 rfl (lv_at hl 0 rfl) ?_
      refine lv_iload_n hx hb dX11_end_20 rfl (lv_at hl 1 rfl) ?_
      refine pf_X11_156 C hW dX11_end_21 (fun H locs hW => ?_)
      refine lv_iconst (v := 1) hx hb dX11_end_24 (by decide) ?_
      obtain rfl := Option.some.inj hf
      rw [hQ]
      exact r_zret C hr hk hW (Or.inr rfl) rfl rfl dX11_end_25
    · have hf := (if_neg c2).symm.trans hf
      refine lv_iconst (v := 0) hx hb dX11_end_17 (by decide) ?_
      obtain rfl := Option.some.inj hf
      rw [hQ]
      exact r_zret C hr hk hW (Or.inl rfl) rfl rfl dX11_end_18
set_option maxHeartbeats 4000000 in
set_option maxRecDepth 100000 in
theorem c_X11_isAt {l : Launch} {D : va_G} {tc : Nat → ClassId} {ro : Ro} {ad : Nat → Nat} {μ : Mm} {v1 v2 : Int32} {res : Int32} (hf : f_X11_isAt μ v1 v2 = some res) : Ct l D tc ro (faM ad) (feM tc ad) yX11_isAt cX11_isAt 3 (some .boolean) (rmq 0 0) [.ref (ad 0), .int v1, .int v2] μ (some (.int res)) μ := by
  refine Ct.of (by decide) (Nat.le_of_ble_eq_true rfl) (fun p e s m args below meth c A C hr hk hW ls hl => ?_)
  have hx := C.1.1
  have hb := C.1.2.1
  obtain ⟨Q, hQ⟩ : ∃ Q, Q = MQ below (Ctq D (faM ad) (feM tc ad) (some (.int res)) μ A) args s 0 0 A := ⟨_, rfl⟩
  rw [← hQ]
  have hl : lv_has ls 3 [(0, .ref (ad 0)), (1, .int v1), (2, .int v2)] := hl
  unfold f_X11_isAt at hf
  refine lv_aload_n hx hb dX11_isAt_0 rfl (lv_at hl 0 rfl) ?_
  refine gf_X11_159 C hW dX11_isAt_1 ?_
  refine lv_aload_n hx hb dX11_isAt_4 rfl (lv_at hl 0 rfl) ?_
  refine gf_X11_162 C hW dX11_isAt_5 ?_
  refine lv_icmp_ge (tgt := 41) hx hb dX11_isAt_8 (by decide) (fun c1 => ?_) (fun c1 => ?_)
  · have hf := (if_pos c1).symm.trans hf
    refine lv_iconst (v := 0) hx hb dX11_isAt_41 (by decide) ?_
    obtain rfl := Option.some.inj hf
    rw [hQ]
    exact r_zret C hr hk hW (Or.inl rfl) rfl rfl dX11_isAt_42
  · have hf := (if_neg c1).symm.trans hf
    refine lv_aload_n hx hb dX11_isAt_11 rfl (lv_at hl 0 rfl) ?_
    refine gf_X11_39 C hW dX11_isAt_12 ?_
    refine lv_aload_n hx hb dX11_isAt_15 rfl (lv_at hl 0 rfl) ?_
    refine gf_X11_159 C hW dX11_isAt_16 ?_
    obtain ⟨hi2, hf⟩ := ck_of hf
    refine r_bald (k := ((11, 0) : Ky)) (n := 400) C hW rfl rfl hi2 dX11_isAt_19 ?_
    refine lv_iload_n hx hb dX11_isAt_20 rfl (lv_at hl 1 rfl) ?_
    refine lv_icmp_lt (tgt := 41) hx hb dX11_isAt_21 (by decide) (fun c3 => ?_) (fun c3 => ?_)
    · have hf := (if_pos c3).symm.trans hf
      refine lv_iconst (v := 0) hx hb dX11_isAt_41 (by decide) ?_
      obtain rfl := Option.some.inj hf
      rw [hQ]
      exact r_zret C hr hk hW (Or.inl rfl) rfl rfl dX11_isAt_42
    · have hf := (if_neg c3).symm.trans hf
      refine lv_aload_n hx hb dX11_isAt_24 rfl (lv_at hl 0 rfl) ?_
      refine gf_X11_39 C hW dX11_isAt_25 ?_
      refine lv_aload_n hx hb dX11_isAt_28 rfl (lv_at hl 0 rfl) ?_
      refine gf_X11_159 C hW dX11_isAt_29 ?_
      obtain ⟨hi4, hf⟩ := ck_of hf
      refine r_bald (k := ((11, 0) : Ky)) (n := 400) C hW rfl rfl hi4 dX11_isAt_32 ?_
      refine lv_iload_n hx hb dX11_isAt_33 rfl (lv_at hl 2 rfl) ?_
      refine lv_icmp_gt (tgt := 41) hx hb dX11_isAt_34 (by decide) (fun c5 => ?_) (fun c5 => ?_)
      · have hf := (if_pos c5).symm.trans hf
        refine lv_iconst (v := 0) hx hb dX11_isAt_41 (by decide) ?_
        obtain rfl := Option.some.inj hf
        rw [hQ]
        exact r_zret C hr hk hW (Or.inl rfl) rfl rfl dX11_isAt_42
      · have hf := (if_neg c5).symm.trans hf
        refine lv_iconst (v := 1) hx hb dX11_isAt_37 (by decide) ?_
        refine lv_goto (tgt := 42) hx hb dX11_isAt_38 (by decide) ?_
        obtain rfl := Option.some.inj hf
        rw [hQ]
        exact r_zret C hr hk hW (Or.inr rfl) rfl rfl dX11_isAt_42
set_option maxHeartbeats 4000000 in
set_option maxRecDepth 100000 in
theorem c_X11_blanks {l : Launch} {D : va_G} {tc : Nat → ClassId} {ro : Ro} {ad : Nat → Nat} {μ : Mm} {res : Mm} (hf : f_X11_blanks μ = some res) : Ct l D tc ro (faM ad) (feM tc ad) yX11_blanks cX11_blanks 1 none (rmq 1 22) [.ref (ad 0)] μ none res := by
  refine Ct.of (by decide) (Nat.le_of_ble_eq_true rfl) (fun p e s m args below meth c A C hr hk hW ls hl => ?_)
  have hx := C.1.1
  have hb := C.1.2.1
  obtain ⟨Q, hQ⟩ : ∃ Q, Q = MQ below (Ctq D (faM ad) (feM tc ad) none res A) args s 0 0 A := ⟨_, rfl⟩
  rw [← hQ]
  have hl : lv_has ls 1 [(0, .ref (ad 0))] := hl
  unfold f_X11_blanks at hf
  have L0 : ∀ (μ : Mm) (H : Heap) (locs : List Loc) (ls : Array Slot), Wh (fun z : Mm => f_X11_blanks_L0 z) (μ) = some res → Wd D (faM ad) (feM tc ad) A s.heap μ H locs → lv_has ls 1 [(0, .ref (ad 0))] → W p l e (rmq 1 22) s m args below meth c H locs 0 0 Q (F0 m 0 ls []) := by
    intro μ  H locs ls hf hW hl
    refine Wh_rule hf (fun z : Mm => ∀ (H : Heap) (locs : List Loc) (ls : Array Slot), Wd D (faM ad) (feM tc ad) A s.heap z H locs → lv_has ls 1 [(0, .ref (ad 0))] → W p l e (rmq 1 22) s m args below meth c H locs 0 0 Q (F0 m 0 ls [])) (fun z o1 hf Kl1 Kr1 => ?_) _ _ _ hW hl
    obtain ⟨μ, ez⟩ : ∃ q, q = z := ⟨_, rfl⟩
    subst ez
    intro H locs ls hW hl
    have hf : f_X11_blanks_L0 μ = some o1 := hf
    unfold f_X11_blanks_L0 at hf
    have hW : Wd D (faM ad) (feM tc ad) A s.heap μ H locs := hW
    have hl : lv_has ls 1 [(0, .ref (ad 0))] := hl
    refine lv_aload_n hx hb dX11_blanks_0 rfl (lv_at hl 0 rfl) ?_
    refine lv_bipush (v := 32) hx hb dX11_blanks_1 (by decide) ?_
    refine lv_bipush (v := 32) hx hb dX11_blanks_3 (by decide) ?_
    obtain ⟨x5, h5, hf⟩ := bd_of hf
    refine r_callV (k := ((0, 0) : Ky)) C hW hl lk_X11_165 (c_X11_isAt h5) ⟨rfl, rfl⟩ ⟨Nat.le_of_ble_eq_true rfl, Nat.le_of_ble_eq_true rfl⟩ rfl rfl rfl (As := [.int (32 : Int32), .int (32 : Int32)]) (rest := []) rfl rfl (Nat.le_of_ble_eq_true rfl) dX11_blanks_5 ⟨Nat.zero_le _, Nat.zero_le _⟩ (fun H locs hW => ?_)
    show W p l e (rmq 1 22) s m args below meth c H locs 0 0 Q (F0 m 8 ls [.int x5])
    refine lv_if_eq (tgt := 24) hx hb dX11_blanks_8 (by decide) (fun c2 => ?_) (fun c2 => ?_)
    · have hf := (if_pos c2).symm.trans hf
      obtain ⟨x9003, hf, hx9003⟩ := map_of hf
      have e9003 := (Kr1 _ hx9003.symm).symm
      subst e9003
      refine lv_aload_n hx hb dX11_blanks_24 rfl (lv_at hl 0 rfl) ?_
      refine lv_aload_n hx hb dX11_blanks_25 rfl (lv_at hl 0 rfl) ?_
      refine gf_X11_159 C hW dX11_blanks_26 ?_
      refine pf_X11_168 C hW dX11_blanks_29 (fun H locs hW => ?_)
      obtain rfl := Option.some.inj hf
      rw [hQ]
      exact r_vret C hr hk hW rfl rfl dX11_blanks_32
    · have hf := (if_neg c2).symm.trans hf
      refine lv_aload_n hx hb dX11_blanks_11 rfl (lv_at hl 0 rfl) ?_
      refine lv_dup hx hb dX11_blanks_12 rfl ?_
      refine gf_X11_159 C hW dX11_blanks_13 ?_
      refine lv_iconst (v := 1) hx hb dX11_blanks_16 (by decide) ?_
      refine lv_iadd hx hb dX11_blanks_17 ?_
      refine pf_X11_159 C hW dX11_blanks_18 (fun H locs hW => ?_)
      refine lv_goto (tgt := 0) hx hb dX11_blanks_21 (by decide) ?_
      obtain rfl := Option.some.inj hf
      exact Kl1 _ rfl _ _ _ hW (lv_sub hl [0] rfl)
  exact L0 μ _ _ _ hf hW (lv_sub hl [0] rfl)
set_option maxHeartbeats 4000000 in
set_option maxRecDepth 100000 in
theorem c_X11_letters {l : Launch} {D : va_G} {tc : Nat → ClassId} {ro : Ro} {ad : Nat → Nat} {μ : Mm} {res : Mm} (hf : f_X11_letters μ = some res) : Ct l D tc ro (faM ad) (feM tc ad) yX11_letters cX11_letters 1 none (rmq 2 42) [.ref (ad 0)] μ none res := by
  refine Ct.of (by decide) (Nat.le_of_ble_eq_true rfl) (fun p e s m args below meth c A C hr hk hW ls hl => ?_)
  have hx := C.1.1
  have hb := C.1.2.1
  obtain ⟨Q, hQ⟩ : ∃ Q, Q = MQ below (Ctq D (faM ad) (feM tc ad) none res A) args s 0 0 A := ⟨_, rfl⟩
  rw [← hQ]
  have hl : lv_has ls 1 [(0, .ref (ad 0))] := hl
  unfold f_X11_letters at hf
  refine lv_aload_n hx hb dX11_letters_0 rfl (lv_at hl 0 rfl) ?_
  obtain ⟨x1, h1, hf⟩ := bd_of hf
  refine r_callV (k := ((0, 0) : Ky)) C hW hl lk_X11_171 (c_X11_blanks h1) ⟨rfl, rfl⟩ ⟨Nat.le_of_ble_eq_true rfl, Nat.le_of_ble_eq_true rfl⟩ rfl rfl rfl (As := []) (rest := []) rfl rfl (Nat.le_of_ble_eq_true rfl) dX11_letters_1 ⟨Nat.zero_le _, Nat.zero_le _⟩ (fun H locs hW => ?_)
  show W p l e (rmq 2 42) s m args below meth c H locs 0 0 Q (F0 m 4 ls [])
  have L4 : ∀ (μ : Mm) (H : Heap) (locs : List Loc) (ls : Array Slot), Wh (fun z : Mm => f_X11_letters_L4 z) (μ) = some res → Wd D (faM ad) (feM tc ad) A s.heap μ H locs → lv_has ls 1 [(0, .ref (ad 0))] → W p l e (rmq 2 42) s m args below meth c H locs 0 0 Q (F0 m 4 ls []) := by
    intro μ  H locs ls hf hW hl
    refine Wh_rule hf (fun z : Mm => ∀ (H : Heap) (locs : List Loc) (ls : Array Slot), Wd D (faM ad) (feM tc ad) A s.heap z H locs → lv_has ls 1 [(0, .ref (ad 0))] → W p l e (rmq 2 42) s m args below meth c H locs 0 0 Q (F0 m 4 ls [])) (fun z o1 hf Kl1 Kr1 => ?_) _ _ _ hW hl
    obtain ⟨μ, ez⟩ : ∃ q, q = z := ⟨_, rfl⟩
    subst ez
    intro H locs ls hW hl
    have hf : f_X11_letters_L4 μ = some o1 := hf
    unfold f_X11_letters_L4 at hf
    have hW : Wd D (faM ad) (feM tc ad) A s.heap μ H locs := hW
    have hl : lv_has ls 1 [(0, .ref (ad 0))] := hl
    refine lv_aload_n hx hb dX11_letters_4 rfl (lv_at hl 0 rfl) ?_
    refine lv_bipush (v := 97) hx hb dX11_letters_5 (by decide) ?_
    refine lv_bipush (v := 122) hx hb dX11_letters_7 (by decide) ?_
    obtain ⟨x9, h9, hf⟩ := bd_of hf
    refine r_callV (k := ((0, 0) : Ky)) C hW hl lk_X11_165 (c_X11_isAt h9) ⟨rfl, rfl⟩ ⟨Nat.le_of_ble_eq_true rfl, Nat.le_of_ble_eq_true rfl⟩ rfl rfl rfl (As := [.int (97 : Int32), .int (122 : Int32)]) (rest := []) rfl rfl (Nat.le_of_ble_eq_true rfl) dX11_letters_9 ⟨Nat.zero_le _, Nat.zero_le _⟩ (fun H locs hW => ?_)
    show W p l e (rmq 2 42) s m args below meth c H locs 0 0 Q (F0 m 12 ls [.int x9])
    refine lv_if_eq (tgt := 28) hx hb dX11_letters_12 (by decide) (fun c3 => ?_) (fun c3 => ?_)
    · have hf := (if_pos c3).symm.trans hf
      obtain ⟨x9004, hf, hx9004⟩ := map_of hf
      have e9004 := (Kr1 _ hx9004.symm).symm
      subst e9004
      obtain rfl := Option.some.inj hf
      rw [hQ]
      exact r_vret C hr hk hW rfl rfl dX11_letters_28
    · have hf := (if_neg c3).symm.trans hf
      refine lv_aload_n hx hb dX11_letters_15 rfl (lv_at hl 0 rfl) ?_
      refine lv_dup hx hb dX11_letters_16 rfl ?_
      refine gf_X11_159 C hW dX11_letters_17 ?_
      refine lv_iconst (v := 1) hx hb dX11_letters_20 (by decide) ?_
      refine lv_iadd hx hb dX11_letters_21 ?_
      refine pf_X11_159 C hW dX11_letters_22 (fun H locs hW => ?_)
      refine lv_goto (tgt := 4) hx hb dX11_letters_25 (by decide) ?_
      obtain rfl := Option.some.inj hf
      exact Kl1 _ rfl _ _ _ hW (lv_sub hl [0] rfl)
  exact L4 x1 _ _ _ hf hW (lv_sub hl [0] rfl)
