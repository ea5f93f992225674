set_option maxHeartbeats 4000000 in
set_option maxRecDepth 100000 in
theorem c_X11_thrown {l : Launch} {D : va_G} {tc : Nat → ClassId} {ro : Ro} {ad : Nat → Nat} {μ : Mm} {res : Int32} (hf : f_X11_thrown μ = some res) : Ct l D tc ro (faM ad) (feM tc ad) yX11_thrown cX11_thrown 1 (some .int) (rmq 0 0) [.ref (ad 0)] μ (some (.int res)) μ := by
  refine Ct.of (by decide) (Nat.le_of_ble_eq_true rfl) (fun p e s m args below meth c C hr hk hW ls hl => ?_)
  have hx := C.1.1
  have hb := C.1.2.1
  obtain ⟨Q, hQ⟩ : ∃ Q, Q = MQ below (Ctq D (faM ad) (feM tc ad) (some (.int res)) μ s.heap.size) args s 0 0 (AF (faM ad) s.heap.size) := ⟨_, rfl⟩
  rw [← hQ]
  have hl : lv_has ls 1 [(0, .ref (ad 0))] := hl
  unfold f_X11_thrown at hf
  refine lv_aload_n hx hb dX11_thrown_0 rfl (lv_at hl 0 rfl) ?_
  refine gf_X11_3 C hW rfl rfl rfl dX11_thrown_1 ?_
  obtain rfl := Option.some.inj hf
  rw [hQ]
  exact r_iret C hr hk hW rfl rfl dX11_thrown_4
set_option maxHeartbeats 4000000 in
set_option maxRecDepth 100000 in
theorem c_X11_throwsIf {l : Launch} {D : va_G} {tc : Nat → ClassId} {ro : Ro} {ad : Nat → Nat} {μ : Mm} {v1 v2 : Int32} {res : Int32 × Mm} (hf : f_X11_throwsIf μ v1 v2 = some res) : Ct l D tc ro (faM ad) (feM tc ad) yX11_throwsIf cX11_throwsIf 3 (some .boolean) (rmq 0 0) [.ref (ad 0), .int v1, .int v2] μ (some (.int res.1)) res.2 := by
  refine Ct.of (by decide) (Nat.le_of_ble_eq_true rfl) (fun p e s m args below meth c C hr hk hW ls hl => ?_)
  have hx := C.1.1
  have hb := C.1.2.1
  obtain ⟨Q, hQ⟩ : ∃ Q, Q = MQ below (Ctq D (faM ad) (feM tc ad) (some (.int res.1)) res.2 s.heap.size) args s 0 0 (AF (faM ad) s.heap.size) := ⟨_, rfl⟩
  rw [← hQ]
  have hl : lv_has ls 3 [(0, .ref (ad 0)), (1, .int v1), (2, .int v2)] := hl
  unfold f_X11_throwsIf at hf
  refine lv_iload_n hx hb dX11_throwsIf_0 rfl (lv_at hl 1 rfl) ?_
  refine lv_if_eq (tgt := 9) hx hb dX11_throwsIf_1 (by decide) (fun c1 => ?_) (fun c1 => ?_)
  · have hf := (if_pos c1).symm.trans hf
    refine lv_iload_n hx hb dX11_throwsIf_9 rfl (lv_at hl 1 rfl) ?_
    obtain ⟨hz2, hf⟩ := cb_of hf
    obtain rfl := Option.some.inj hf
    rw [hQ]
    exact r_zret C hr hk hW hz2 rfl rfl dX11_throwsIf_10
  · have hf := (if_neg c1).symm.trans hf
    refine lv_aload_n hx hb dX11_throwsIf_4 rfl (lv_at hl 0 rfl) ?_
    refine lv_iload_n hx hb dX11_throwsIf_5 rfl (lv_at hl 2 rfl) ?_
    refine pf_X11_3 C hW rfl rfl (Nat.le_of_ble_eq_true rfl) rfl dX11_throwsIf_6 (fun H locs hW => ?_)
    refine lv_iload_n hx hb dX11_throwsIf_9 rfl (lv_at hl 1 rfl) ?_
    obtain ⟨hz3, hf⟩ := cb_of hf
    obtain rfl := Option.some.inj hf
    rw [hQ]
    exact r_zret C hr hk hW hz3 rfl rfl dX11_throwsIf_10
set_option maxHeartbeats 4000000 in
set_option maxRecDepth 100000 in
theorem c_X11_in {l : Launch} {D : va_G} {tc : Nat → ClassId} {ro : Ro} {ad : Nat → Nat} {μ : Mm} {v0 v1 v2 : Int32} {res : Int32} (hf : f_X11_in v0 v1 v2 = some res) : Ct l D tc ro (faM ad) (feM tc ad) yX11_in cX11_in 3 (some .boolean) (rmq 0 0) [.int v0, .int v1, .int v2] μ (some (.int res)) μ := by
  refine Ct.of (by decide) (Nat.le_of_ble_eq_true rfl) (fun p e s m args below meth c C hr hk hW ls hl => ?_)
  have hx := C.1.1
  have hb := C.1.2.1
  obtain ⟨Q, hQ⟩ : ∃ Q, Q = MQ below (Ctq D (faM ad) (feM tc ad) (some (.int res)) μ s.heap.size) args s 0 0 (AF (faM ad) s.heap.size) := ⟨_, rfl⟩
  rw [← hQ]
  have hl : lv_has ls 3 [(0, .int v0), (1, .int v1), (2, .int v2)] := hl
  unfold f_X11_in at hf
  refine lv_iload_n hx hb dX11_in_0 rfl (lv_at hl 0 rfl) ?_
  refine lv_iload_n hx hb dX11_in_1 rfl (lv_at hl 1 rfl) ?_
  refine lv_icmp_lt (tgt := 14) hx hb dX11_in_2 (by decide) (fun c1 => ?_) (fun c1 => ?_)
  · have hf := (if_pos c1).symm.trans hf
    refine lv_iconst (v := 0) hx hb dX11_in_14 (by decide) ?_
    obtain rfl := Option.some.inj hf
    rw [hQ]
    exact r_zret C hr hk hW (Or.inl rfl) rfl rfl dX11_in_15
  · have hf := (if_neg c1).symm.trans hf
    refine lv_iload_n hx hb dX11_in_5 rfl (lv_at hl 0 rfl) ?_
    refine lv_iload_n hx hb dX11_in_6 rfl (lv_at hl 2 rfl) ?_
    refine lv_icmp_gt (tgt := 14) hx hb dX11_in_7 (by decide) (fun c2 => ?_) (fun c2 => ?_)
    · have hf := (if_pos c2).symm.trans hf
      refine lv_iconst (v := 0) hx hb dX11_in_14 (by decide) ?_
      obtain rfl := Option.some.inj hf
      rw [hQ]
      exact r_zret C hr hk hW (Or.inl rfl) rfl rfl dX11_in_15
    · have hf := (if_neg c2).symm.trans hf
      refine lv_iconst (v := 1) hx hb dX11_in_10 (by decide) ?_
      refine lv_goto (tgt := 15) hx hb dX11_in_11 (by decide) ?_
      obtain rfl := Option.some.inj hf
      rw [hQ]
      exact r_zret C hr hk hW (Or.inr rfl) rfl rfl dX11_in_15
set_option maxHeartbeats 4000000 in
set_option maxRecDepth 100000 in
theorem c_X11_has {l : Launch} {D : va_G} {tc : Nat → ClassId} {ro : Ro} {ad : Nat → Nat} {μ : Mm} {v0 v1 : Int32} {res : Int32} (hf : f_X11_has v0 v1 = some res) : Ct l D tc ro (faM ad) (feM tc ad) yX11_has cX11_has 2 (some .boolean) (rmq 0 0) [.int v0, .int v1] μ (some (.int res)) μ := by
  refine Ct.of (by decide) (Nat.le_of_ble_eq_true rfl) (fun p e s m args below meth c C hr hk hW ls hl => ?_)
  have hx := C.1.1
  have hb := C.1.2.1
  obtain ⟨Q, hQ⟩ : ∃ Q, Q = MQ below (Ctq D (faM ad) (feM tc ad) (some (.int res)) μ s.heap.size) args s 0 0 (AF (faM ad) s.heap.size) := ⟨_, rfl⟩
  rw [← hQ]
  have hl : lv_has ls 2 [(0, .int v0), (1, .int v1)] := hl
  unfold f_X11_has at hf
  refine lv_iload_n hx hb dX11_has_0 rfl (lv_at hl 0 rfl) ?_
  refine lv_iload_n hx hb dX11_has_1 rfl (lv_at hl 1 rfl) ?_
  refine lv_ishr hx hb dX11_has_2 ?_
  refine lv_iconst (v := 1) hx hb dX11_has_3 (by decide) ?_
  refine lv_iand hx hb dX11_has_4 ?_
  refine lv_iconst (v := 1) hx hb dX11_has_5 (by decide) ?_
  refine lv_icmp_ne (tgt := 13) hx hb dX11_has_6 (by decide) (fun c1 => ?_) (fun c1 => ?_)
  · have hf := (if_pos c1).symm.trans hf
    refine lv_iconst (v := 0) hx hb dX11_has_13 (by decide) ?_
    obtain rfl := Option.some.inj hf
    rw [hQ]
    exact r_zret C hr hk hW (Or.inl rfl) rfl rfl dX11_has_14
  · have hf := (if_neg c1).symm.trans hf
    refine lv_iconst (v := 1) hx hb dX11_has_9 (by decide) ?_
    refine lv_goto (tgt := 14) hx hb dX11_has_10 (by decide) ?_
    obtain rfl := Option.some.inj hf
    rw [hQ]
    exact r_zret C hr hk hW (Or.inr rfl) rfl rfl dX11_has_14
set_option maxHeartbeats 4000000 in
set_option maxRecDepth 100000 in
theorem c_X11_image {l : Launch} {D : va_G} {tc : Nat → ClassId} {ro : Ro} {ad : Nat → Nat} {μ : Mm} {res : Mm} (hf : f_X11_image μ = some res) : Ct l D tc ro (faM ad) (feM tc ad) yX11_image cX11_image 2 none (rmq 0 0) [.ref (ad 0)] μ none res := by
  refine Ct.of (by decide) (Nat.le_of_ble_eq_true rfl) (fun p e s m args below meth c C hr hk hW ls hl => ?_)
  have hx := C.1.1
  have hb := C.1.2.1
  obtain ⟨Q, hQ⟩ : ∃ Q, Q = MQ below (Ctq D (faM ad) (feM tc ad) none res s.heap.size) args s 0 0 (AF (faM ad) s.heap.size) := ⟨_, rfl⟩
  rw [← hQ]
  have hl : lv_has ls 2 [(0, .ref (ad 0))] := hl
  unfold f_X11_image at hf
  refine lv_aload_n hx hb dX11_image_0 rfl (lv_at hl 0 rfl) ?_
  refine lv_iconst (v := 0) hx hb dX11_image_1 (by decide) ?_
  refine pf_X11_3 C hW rfl rfl (Nat.le_of_ble_eq_true rfl) rfl dX11_image_2 (fun H locs hW => ?_)
  refine lv_iconst (v := 0) hx hb dX11_image_5 (by decide) ?_
  refine lv_istore_n (lv' := [(1, .int (0 : Int32)), (0, .ref (ad 0))]) hx hb dX11_image_6 rfl hl (by decide) rfl (fun ls hl => ?_)
  have L7 : ∀ (μ : Mm) (v1 : Int32) (H : Heap) (locs : List Loc) (ls : Array Slot), Wh (fun z : Mm × Int32 => f_X11_image_L7 z.1 z.2) (μ, v1) = some res → Wd D (faM ad) (feM tc ad) s.heap μ H locs → lv_has ls 2 [(0, .ref (ad 0)), (1, .int v1)] → W p l e (rmq 0 0) s m args below meth c H locs 0 0 Q (F0 m 7 ls []) := by
    intro μ v1 H locs ls hf hW hl
    refine Wh_rule hf (fun z : Mm × Int32 => ∀ (H : Heap) (locs : List Loc) (ls : Array Slot), Wd D (faM ad) (feM tc ad) s.heap z.1 H locs → lv_has ls 2 [(0, .ref (ad 0)), (1, .int z.2)] → W p l e (rmq 0 0) s m args below meth c H locs 0 0 Q (F0 m 7 ls [])) (fun z o1 hf Kl1 Kr1 => ?_) _ _ _ hW hl
    obtain ⟨μ, v1⟩ := z
    intro H locs ls hW hl
    have hf : f_X11_image_L7 μ v1 = some o1 := hf
    unfold f_X11_image_L7 at hf
    have hW : Wd D (faM ad) (feM tc ad) s.heap μ H locs := hW
    have hl : lv_has ls 2 [(0, .ref (ad 0)), (1, .int v1)] := hl
    refine lv_iload_n hx hb dX11_image_7 rfl (lv_at hl 1 rfl) ?_
    refine lv_sipush (v := 6277) hx hb dX11_image_8 (by decide) ?_
    refine lv_icmp_ge (tgt := 32) hx hb dX11_image_11 (by decide) (fun c1 => ?_) (fun c1 => ?_)
    · have hf := (if_pos c1).symm.trans hf
      obtain ⟨x9002, hf, hx9002⟩ := map_of hf
      have e9002 := Kr1 _ hx9002.symm
      subst e9002
      refine lv_aload_n hx hb dX11_image_32 rfl (lv_at hl 0 rfl) ?_
      refine lv_iconst (v := 1) hx hb dX11_image_33 (by decide) ?_
      refine pf_X11_95 C hW rfl rfl (Nat.le_of_ble_eq_true rfl) rfl rfl rfl dX11_image_34 (fun H locs hW => ?_)
      obtain rfl := Option.some.inj hf
      rw [hQ]
      exact r_vret C hr hk hW rfl rfl dX11_image_37
    · have hf := (if_neg c1).symm.trans hf
      refine lv_aload_n hx hb dX11_image_14 rfl (lv_at hl 0 rfl) ?_
      refine gf_X11_17 C hW rfl rfl rfl dX11_image_15 ?_
      refine lv_iload_n hx hb dX11_image_18 rfl (lv_at hl 1 rfl) ?_
      refine lv_aload_n hx hb dX11_image_19 rfl (lv_at hl 0 rfl) ?_
      refine gf_X11_13 C hW rfl rfl rfl dX11_image_20 ?_
      refine lv_iload_n hx hb dX11_image_23 rfl (lv_at hl 1 rfl) ?_
      obtain ⟨hi3, hf⟩ := ck_of hf
      refine r_iald (n := 7114) C hW rfl rfl hi3 dX11_image_24 ?_
      obtain ⟨hi4, hf⟩ := ck_of hf
      refine r_iast (n := 6277) C hW rfl (fun _ => rfl) hi4 dX11_image_25 (fun H locs hW => ?_)
      refine lv_iinc (v := (v1 + (1 : Int32))) (lv' := [(1, .int (v1 + (1 : Int32))), (0, .ref (ad 0))]) hx hb dX11_image_26 hl (k := 1) rfl rfl (by decide) rfl (fun ls hl => ?_)
      refine lv_goto (tgt := 7) hx hb dX11_image_29 (by decide) ?_
      obtain rfl := Option.some.inj hf
      exact Kl1 _ rfl _ _ _ hW (lv_sub hl [1, 0] rfl)
  exact L7 (mst μ (0, 0) 0 (0 : Int32)) (0 : Int32) _ _ _ hf hW (lv_sub hl [1, 0] rfl)
set_option maxHeartbeats 4000000 in
set_option maxRecDepth 100000 in
theorem c_X11_back {l : Launch} {D : va_G} {tc : Nat → ClassId} {ro : Ro} {ad : Nat → Nat} {μ : Mm} {res : Int32 × Mm} (hf : f_X11_back μ = some res) : Ct l D tc ro (faM ad) (feM tc ad) yX11_back cX11_back 2 (some .boolean) (rmq 0 0) [.ref (ad 0)] μ (some (.int res.1)) res.2 := by
  refine Ct.of (by decide) (Nat.le_of_ble_eq_true rfl) (fun p e s m args below meth c C hr hk hW ls hl => ?_)
  have hx := C.1.1
  have hb := C.1.2.1
  obtain ⟨Q, hQ⟩ : ∃ Q, Q = MQ below (Ctq D (faM ad) (feM tc ad) (some (.int res.1)) res.2 s.heap.size) args s 0 0 (AF (faM ad) s.heap.size) := ⟨_, rfl⟩
  rw [← hQ]
  have hl : lv_has ls 2 [(0, .ref (ad 0))] := hl
  unfold f_X11_back at hf
  refine lv_aload_n hx hb dX11_back_0 rfl (lv_at hl 0 rfl) ?_
  refine lv_iconst (v := 0) hx hb dX11_back_1 (by decide) ?_
  refine pf_X11_3 C hW rfl rfl (Nat.le_of_ble_eq_true rfl) rfl dX11_back_2 (fun H locs hW => ?_)
  refine lv_aload_n hx hb dX11_back_5 rfl (lv_at hl 0 rfl) ?_
  refine gf_X11_95 C hW rfl rfl rfl dX11_back_6 ?_
  refine lv_if_ne (tgt := 14) hx hb dX11_back_9 (by decide) (fun c1 => ?_) (fun c1 => ?_)
  · have hf := (if_pos c1).symm.trans hf
    refine lv_iconst (v := 0) hx hb dX11_back_14 (by decide) ?_
    refine lv_istore_n (lv' := [(1, .int (0 : Int32)), (0, .ref (ad 0))]) hx hb dX11_back_15 rfl hl (by decide) rfl (fun ls hl => ?_)
    have L16 : ∀ (μ : Mm) (v1 : Int32) (H : Heap) (locs : List Loc) (ls : Array Slot), Wh (fun z : Mm × Int32 => f_X11_back_L16 z.1 z.2) (μ, v1) = some res → Wd D (faM ad) (feM tc ad) s.heap μ H locs → lv_has ls 2 [(0, .ref (ad 0)), (1, .int v1)] → W p l e (rmq 0 0) s m args below meth c H locs 0 0 Q (F0 m 16 ls []) := by
      intro μ v1 H locs ls hf hW hl
      refine Wh_rule hf (fun z : Mm × Int32 => ∀ (H : Heap) (locs : List Loc) (ls : Array Slot), Wd D (faM ad) (feM tc ad) s.heap z.1 H locs → lv_has ls 2 [(0, .ref (ad 0)), (1, .int z.2)] → W p l e (rmq 0 0) s m args below meth c H locs 0 0 Q (F0 m 16 ls [])) (fun z o1 hf Kl1 Kr1 => ?_) _ _ _ hW hl
      obtain ⟨μ, v1⟩ := z
      intro H locs ls hW hl
      have hf : f_X11_back_L16 μ v1 = some o1 := hf
      unfold f_X11_back_L16 at hf
      have hW : Wd D (faM ad) (feM tc ad) s.heap μ H locs := hW
      have hl : lv_has ls 2 [(0, .ref (ad 0)), (1, .int v1)] := hl
      refine lv_iload_n hx hb dX11_back_16 rfl (lv_at hl 1 rfl) ?_
      refine lv_sipush (v := 6277) hx hb dX11_back_17 (by decide) ?_
      refine lv_icmp_ge (tgt := 41) hx hb dX11_back_20 (by decide) (fun c2 => ?_) (fun c2 => ?_)
      · have hf := (if_pos c2).symm.trans hf
        obtain ⟨x9003, hf, hx9003⟩ := map_of hf
        have e9003 := Kr1 _ hx9003.symm
        subst e9003
        refine lv_aload_n hx hb dX11_back_41 rfl (lv_at hl 0 rfl) ?_
        refine lv_iconst (v := 0) hx hb dX11_back_42 (by decide) ?_
        refine pf_X11_99 C hW rfl rfl (Nat.le_of_ble_eq_true rfl) rfl dX11_back_43 (fun H locs hW => ?_)
        refine lv_iconst (v := 1) hx hb dX11_back_46 (by decide) ?_
        obtain rfl := Option.some.inj hf
        rw [hQ]
        exact r_zret C hr hk hW (Or.inr rfl) rfl rfl dX11_back_47
      · have hf := (if_neg c2).symm.trans hf
        refine lv_aload_n hx hb dX11_back_23 rfl (lv_at hl 0 rfl) ?_
        refine gf_X11_13 C hW rfl rfl rfl dX11_back_24 ?_
        refine lv_iload_n hx hb dX11_back_27 rfl (lv_at hl 1 rfl) ?_
        refine lv_aload_n hx hb dX11_back_28 rfl (lv_at hl 0 rfl) ?_
        refine gf_X11_17 C hW rfl rfl rfl dX11_back_29 ?_
        refine lv_iload_n hx hb dX11_back_32 rfl (lv_at hl 1 rfl) ?_
        obtain ⟨hi4, hf⟩ := ck_of hf
        refine r_iald (n := 6277) C hW rfl rfl hi4 dX11_back_33 ?_
        obtain ⟨hi5, hf⟩ := ck_of hf
        refine r_iast (n := 7114) C hW rfl (fun _ => rfl) hi5 dX11_back_34 (fun H locs hW => ?_)
        refine lv_iinc (v := (v1 + (1 : Int32))) (lv' := [(1, .int (v1 + (1 : Int32))), (0, .ref (ad 0))]) hx hb dX11_back_35 hl (k := 1) rfl rfl (by decide) rfl (fun ls hl => ?_)
        refine lv_goto (tgt := 16) hx hb dX11_back_38 (by decide) ?_
        obtain rfl := Option.some.inj hf
        exact Kl1 _ rfl _ _ _ hW (lv_sub hl [1, 0] rfl)
    exact L16 (mst μ (0, 0) 0 (0 : Int32)) (0 : Int32) _ _ _ hf hW (lv_sub hl [1, 0] rfl)
  · have hf := (if_neg c1).symm.trans hf
    refine lv_iconst (v := 0) hx hb dX11_back_12 (by decide) ?_
    obtain rfl := Option.some.inj hf
    rw [hQ]
    exact r_zret C hr hk hW (Or.inl rfl) rfl rfl dX11_back_13
set_option maxHeartbeats 4000000 in
set_option maxRecDepth 100000 in
theorem c_X11_remembers {l : Launch} {D : va_G} {tc : Nat → ClassId} {ro : Ro} {ad : Nat → Nat} {μ : Mm} {res : Mm} (hf : f_X11_remembers μ = some res) : Ct l D tc ro (faM ad) (feM tc ad) yX11_remembers cX11_remembers 2 none (rmq 0 0) [.ref (ad 0)] μ none res := by
  refine Ct.of (by decide) (Nat.le_of_ble_eq_true rfl) (fun p e s m args below meth c C hr hk hW ls hl => ?_)
  have hx := C.1.1
  have hb := C.1.2.1
  obtain ⟨Q, hQ⟩ : ∃ Q, Q = MQ below (Ctq D (faM ad) (feM tc ad) none res s.heap.size) args s 0 0 (AF (faM ad) s.heap.size) := ⟨_, rfl⟩
  rw [← hQ]
  have hl : lv_has ls 2 [(0, .ref (ad 0))] := hl
  unfold f_X11_remembers at hf
  have J52 : ∀ (μ : Mm) (H : Heap) (locs : List Loc) (ls : Array Slot), f_X11_remembers_J52 μ = some res → Wd D (faM ad) (feM tc ad) s.heap μ H locs → lv_has ls 2 [(0, .ref (ad 0))] → W p l e (rmq 0 0) s m args below meth c H locs 0 0 Q (F0 m 52 ls []) := by
    intro μ H locs ls hf hW hl
    unfold f_X11_remembers_J52 at hf
    refine lv_iconst (v := 0) hx hb dX11_remembers_52 (by decide) ?_
    refine lv_istore_n (lv' := [(1, .int (0 : Int32)), (0, .ref (ad 0))]) hx hb dX11_remembers_53 rfl hl (by decide) rfl (fun ls hl => ?_)
    have L54 : ∀ (μ : Mm) (v1 : Int32) (H : Heap) (locs : List Loc) (ls : Array Slot), Wh (fun z : Mm × Int32 => f_X11_remembers_L54 z.1 z.2) (μ, v1) = some res → Wd D (faM ad) (feM tc ad) s.heap μ H locs → lv_has ls 2 [(0, .ref (ad 0)), (1, .int v1)] → W p l e (rmq 0 0) s m args below meth c H locs 0 0 Q (F0 m 54 ls []) := by
      intro μ v1 H locs ls hf hW hl
      refine Wh_rule hf (fun z : Mm × Int32 => ∀ (H : Heap) (locs : List Loc) (ls : Array Slot), Wd D (faM ad) (feM tc ad) s.heap z.1 H locs → lv_has ls 2 [(0, .ref (ad 0)), (1, .int z.2)] → W p l e (rmq 0 0) s m args below meth c H locs 0 0 Q (F0 m 54 ls [])) (fun z o1 hf Kl1 Kr1 => ?_) _ _ _ hW hl
      obtain ⟨μ, v1⟩ := z
      intro H locs ls hW hl
      have hf : f_X11_remembers_L54 μ v1 = some o1 := hf
      unfold f_X11_remembers_L54 at hf
      have hW : Wd D (faM ad) (feM tc ad) s.heap μ H locs := hW
      have hl : lv_has ls 2 [(0, .ref (ad 0)), (1, .int v1)] := hl
      refine lv_iload_n hx hb dX11_remembers_54 rfl (lv_at hl 1 rfl) ?_
      refine lv_sipush (v := 5440) hx hb dX11_remembers_55 (by decide) ?_
      refine lv_icmp_ge (tgt := 90) hx hb dX11_remembers_58 (by decide) (fun c1 => ?_) (fun c1 => ?_)
      · have hf := (if_pos c1).symm.trans hf
        obtain ⟨x9003, hf, hx9003⟩ := map_of hf
        have e9003 := Kr1 _ hx9003.symm
        subst e9003
        refine lv_aload_n hx hb dX11_remembers_90 rfl (lv_at hl 0 rfl) ?_
        refine gf_X11_13 C hW rfl rfl rfl dX11_remembers_91 ?_
        refine lv_bipush (v := 7) hx hb dX11_remembers_94 (by decide) ?_
        refine lv_iconst (v := 1) hx hb dX11_remembers_96 (by decide) ?_
        obtain ⟨hi2, hf⟩ := ck_of hf
        refine r_iast (n := 7114) C hW rfl (fun _ => rfl) hi2 dX11_remembers_97 (fun H locs hW => ?_)
        obtain rfl := Option.some.inj hf
        rw [hQ]
        exact r_vret C hr hk hW rfl rfl dX11_remembers_98
      · have hf := (if_neg c1).symm.trans hf
        refine lv_aload_n hx hb dX11_remembers_61 rfl (lv_at hl 0 rfl) ?_
        refine gf_X11_27 C hW rfl rfl rfl dX11_remembers_62 ?_
        refine lv_sipush (v := 5440) hx hb dX11_remembers_65 (by decide) ?_
        refine lv_aload_n hx hb dX11_remembers_68 rfl (lv_at hl 0 rfl) ?_
        refine gf_X11_99 C hW rfl rfl rfl dX11_remembers_69 ?_
        refine lv_iconst (v := 1) hx hb dX11_remembers_72 (by decide) ?_
        refine lv_isub hx hb dX11_remembers_73 ?_
        refine lv_imul hx hb dX11_remembers_74 ?_
        refine lv_iload_n hx hb dX11_remembers_75 rfl (lv_at hl 1 rfl) ?_
        refine lv_iadd hx hb dX11_remembers_76 ?_
        refine lv_aload_n hx hb dX11_remembers_77 rfl (lv_at hl 0 rfl) ?_
        refine gf_X11_13 C hW rfl rfl rfl dX11_remembers_78 ?_
        refine lv_iload_n hx hb dX11_remembers_81 rfl (lv_at hl 1 rfl) ?_
        obtain ⟨hi4, hf⟩ := ck_of hf
        refine r_iald (n := 7114) C hW rfl rfl hi4 dX11_remembers_82 ?_
        obtain ⟨hi5, hf⟩ := ck_of hf
        refine r_iast (n := 43520) C hW rfl (fun _ => rfl) hi5 dX11_remembers_83 (fun H locs hW => ?_)
        refine lv_iinc (v := (v1 + (1 : Int32))) (lv' := [(1, .int (v1 + (1 : Int32))), (0, .ref (ad 0))]) hx hb dX11_remembers_84 hl (k := 1) rfl rfl (by decide) rfl (fun ls hl => ?_)
        refine lv_goto (tgt := 54) hx hb dX11_remembers_87 (by decide) ?_
        obtain rfl := Option.some.inj hf
        exact Kl1 _ rfl _ _ _ hW (lv_sub hl [1, 0] rfl)
    exact L54 μ (0 : Int32) _ _ _ hf hW (lv_sub hl [1, 0] rfl)
  refine lv_aload_n hx hb dX11_remembers_0 rfl (lv_at hl 0 rfl) ?_
  refine gf_X11_99 C hW rfl rfl rfl dX11_remembers_1 ?_
  refine lv_bipush (v := 8) hx hb dX11_remembers_4 (by decide) ?_
  refine lv_icmp_ne (tgt := 42) hx hb dX11_remembers_6 (by decide) (fun c6 => ?_) (fun c6 => ?_)
  · have hf := (if_pos c6).symm.trans hf
    refine lv_aload_n hx hb dX11_remembers_42 rfl (lv_at hl 0 rfl) ?_
    refine lv_dup hx hb dX11_remembers_43 rfl ?_
    refine gf_X11_99 C hW rfl rfl rfl dX11_remembers_44 ?_
    refine lv_iconst (v := 1) hx hb dX11_remembers_47 (by decide) ?_
    refine lv_iadd hx hb dX11_remembers_48 ?_
    refine pf_X11_99 C hW rfl rfl (Nat.le_of_ble_eq_true rfl) rfl dX11_remembers_49 (fun H locs hW => ?_)
    exact J52 (mst μ (0, 0) 7 ((μ (0, 0) 7) + (1 : Int32))) _ _ _ hf hW (lv_sub hl [0] rfl)
  · have hf := (if_neg c6).symm.trans hf
    refine lv_iconst (v := 0) hx hb dX11_remembers_9 (by decide) ?_
    refine lv_istore_n (lv' := [(1, .int (0 : Int32)), (0, .ref (ad 0))]) hx hb dX11_remembers_10 rfl hl (by decide) rfl (fun ls hl => ?_)
    have L11 : ∀ (μ : Mm) (v1 : Int32) (H : Heap) (locs : List Loc) (ls : Array Slot), Wh (fun z : Mm × Int32 => f_X11_remembers_L11 z.1 z.2) (μ, v1) = some res → Wd D (faM ad) (feM tc ad) s.heap μ H locs → lv_has ls 2 [(0, .ref (ad 0)), (1, .int v1)] → W p l e (rmq 0 0) s m args below meth c H locs 0 0 Q (F0 m 11 ls []) := by
      intro μ v1 H locs ls hf hW hl
      refine Wh_rule hf (fun z : Mm × Int32 => ∀ (H : Heap) (locs : List Loc) (ls : Array Slot), Wd D (faM ad) (feM tc ad) s.heap z.1 H locs → lv_has ls 2 [(0, .ref (ad 0)), (1, .int z.2)] → W p l e (rmq 0 0) s m args below meth c H locs 0 0 Q (F0 m 11 ls [])) (fun z o1 hf Kl1 Kr1 => ?_) _ _ _ hW hl
      obtain ⟨μ, v1⟩ := z
      intro H locs ls hW hl
      have hf : f_X11_remembers_L11 μ v1 = some o1 := hf
      unfold f_X11_remembers_L11 at hf
      have hW : Wd D (faM ad) (feM tc ad) s.heap μ H locs := hW
      have hl : lv_has ls 2 [(0, .ref (ad 0)), (1, .int v1)] := hl
      refine lv_iload_n hx hb dX11_remembers_11 rfl (lv_at hl 1 rfl) ?_
      refine lv_ldc (v := 38080) hx hb C.1.2.2.2.1 (C.1.2.2.2.2 _ kw_2375) dX11_remembers_12 ?_
      refine lv_icmp_ge (tgt := 39) hx hb dX11_remembers_14 (by decide) (fun c7 => ?_) (fun c7 => ?_)
      · have hf := (if_pos c7).symm.trans hf
        obtain ⟨x9008, hf, hx9008⟩ := map_of hf
        have e9008 := Kr1 _ hx9008.symm
        subst e9008
        refine lv_goto (tgt := 52) hx hb dX11_remembers_39 (by decide) ?_
        exact J52 μ _ _ _ hf hW (lv_sub hl [0] rfl)
      · have hf := (if_neg c7).symm.trans hf
        refine lv_aload_n hx hb dX11_remembers_17 rfl (lv_at hl 0 rfl) ?_
        refine gf_X11_27 C hW rfl rfl rfl dX11_remembers_18 ?_
        refine lv_iload_n hx hb dX11_remembers_21 rfl (lv_at hl 1 rfl) ?_
        refine lv_aload_n hx hb dX11_remembers_22 rfl (lv_at hl 0 rfl) ?_
        refine gf_X11_27 C hW rfl rfl rfl dX11_remembers_23 ?_
        refine lv_iload_n hx hb dX11_remembers_26 rfl (lv_at hl 1 rfl) ?_
        refine lv_sipush (v := 5440) hx hb dX11_remembers_27 (by decide) ?_
        refine lv_iadd hx hb dX11_remembers_30 ?_
        obtain ⟨hi9, hf⟩ := ck_of hf
        refine r_iald (n := 43520) C hW rfl rfl hi9 dX11_remembers_31 ?_
        obtain ⟨hi10, hf⟩ := ck_of hf
        refine r_iast (n := 43520) C hW rfl (fun _ => rfl) hi10 dX11_remembers_32 (fun H locs hW => ?_)
        refine lv_iinc (v := (v1 + (1 : Int32))) (lv' := [(1, .int (v1 + (1 : Int32))), (0, .ref (ad 0))]) hx hb dX11_remembers_33 hl (k := 1) rfl rfl (by decide) rfl (fun ls hl => ?_)
        refine lv_goto (tgt := 11) hx hb dX11_remembers_36 (by decide) ?_
        obtain rfl := Option.some.inj hf
        exact Kl1 _ rfl _ _ _ hW (lv_sub hl [1, 0] rfl)
    exact L11 μ (0 : Int32) _ _ _ hf hW (lv_sub hl [1, 0] rfl)
set_option maxHeartbeats 4000000 in
set_option maxRecDepth 100000 in
theorem c_X11_undo {l : Launch} {D : va_G} {tc : Nat → ClassId} {ro : Ro} {ad : Nat → Nat} {μ : Mm} {res : Int32 × Mm} (hf : f_X11_undo μ = some res) : Ct l D tc ro (faM ad) (feM tc ad) yX11_undo cX11_undo 2 (some .boolean) (rmq 0 0) [.ref (ad 0)] μ (some (.int res.1)) res.2 := by
  refine Ct.of (by decide) (Nat.le_of_ble_eq_true rfl) (fun p e s m args below meth c C hr hk hW ls hl => ?_)
  have hx := C.1.1
  have hb := C.1.2.1
  obtain ⟨Q, hQ⟩ : ∃ Q, Q = MQ below (Ctq D (faM ad) (feM tc ad) (some (.int res.1)) res.2 s.heap.size) args s 0 0 (AF (faM ad) s.heap.size) := ⟨_, rfl⟩
  rw [← hQ]
  have hl : lv_has ls 2 [(0, .ref (ad 0))] := hl
  unfold f_X11_undo at hf
  refine lv_aload_n hx hb dX11_undo_0 rfl (lv_at hl 0 rfl) ?_
  refine lv_iconst (v := 0) hx hb dX11_undo_1 (by decide) ?_
  refine pf_X11_3 C hW rfl rfl (Nat.le_of_ble_eq_true rfl) rfl dX11_undo_2 (fun H locs hW => ?_)
  refine lv_aload_n hx hb dX11_undo_5 rfl (lv_at hl 0 rfl) ?_
  refine gf_X11_99 C hW rfl rfl rfl dX11_undo_6 ?_
  refine lv_if_ne (tgt := 14) hx hb dX11_undo_9 (by decide) (fun c1 => ?_) (fun c1 => ?_)
  · have hf := (if_pos c1).symm.trans hf
    refine lv_aload_n hx hb dX11_undo_14 rfl (lv_at hl 0 rfl) ?_
    refine lv_dup hx hb dX11_undo_15 rfl ?_
    refine gf_X11_99 C hW rfl rfl rfl dX11_undo_16 ?_
    refine lv_iconst (v := 1) hx hb dX11_undo_19 (by decide) ?_
    refine lv_isub hx hb dX11_undo_20 ?_
    refine pf_X11_99 C hW rfl rfl (Nat.le_of_ble_eq_true rfl) rfl dX11_undo_21 (fun H locs hW => ?_)
    refine lv_iconst (v := 0) hx hb dX11_undo_24 (by decide) ?_
    refine lv_istore_n (lv' := [(1, .int (0 : Int32)), (0, .ref (ad 0))]) hx hb dX11_undo_25 rfl hl (by decide) rfl (fun ls hl => ?_)
    have L26 : ∀ (μ : Mm) (v1 : Int32) (H : Heap) (locs : List Loc) (ls : Array Slot), Wh (fun z : Mm × Int32 => f_X11_undo_L26 z.1 z.2) (μ, v1) = some res → Wd D (faM ad) (feM tc ad) s.heap μ H locs → lv_has ls 2 [(0, .ref (ad 0)), (1, .int v1)] → W p l e (rmq 0 0) s m args below meth c H locs 0 0 Q (F0 m 26 ls []) := by
      intro μ v1 H locs ls hf hW hl
      refine Wh_rule hf (fun z : Mm × Int32 => ∀ (H : Heap) (locs : List Loc) (ls : Array Slot), Wd D (faM ad) (feM tc ad) s.heap z.1 H locs → lv_has ls 2 [(0, .ref (ad 0)), (1, .int z.2)] → W p l e (rmq 0 0) s m args below meth c H locs 0 0 Q (F0 m 26 ls [])) (fun z o1 hf Kl1 Kr1 => ?_) _ _ _ hW hl
      obtain ⟨μ, v1⟩ := z
      intro H locs ls hW hl
      have hf : f_X11_undo_L26 μ v1 = some o1 := hf
      unfold f_X11_undo_L26 at hf
      have hW : Wd D (faM ad) (feM tc ad) s.heap μ H locs := hW
      have hl : lv_has ls 2 [(0, .ref (ad 0)), (1, .int v1)] := hl
      refine lv_iload_n hx hb dX11_undo_26 rfl (lv_at hl 1 rfl) ?_
      refine lv_sipush (v := 5440) hx hb dX11_undo_27 (by decide) ?_
      refine lv_icmp_ge (tgt := 60) hx hb dX11_undo_30 (by decide) (fun c2 => ?_) (fun c2 => ?_)
      · have hf := (if_pos c2).symm.trans hf
        obtain ⟨x9004, hf, hx9004⟩ := map_of hf
        have e9004 := Kr1 _ hx9004.symm
        subst e9004
        refine lv_aload_n hx hb dX11_undo_60 rfl (lv_at hl 0 rfl) ?_
        refine gf_X11_13 C hW rfl rfl rfl dX11_undo_61 ?_
        refine lv_bipush (v := 7) hx hb dX11_undo_64 (by decide) ?_
        refine lv_iconst (v := 1) hx hb dX11_undo_66 (by decide) ?_
        obtain ⟨hi3, hf⟩ := ck_of hf
        refine r_iast (n := 7114) C hW rfl (fun _ => rfl) hi3 dX11_undo_67 (fun H locs hW => ?_)
        refine lv_iconst (v := 1) hx hb dX11_undo_68 (by decide) ?_
        obtain rfl := Option.some.inj hf
        rw [hQ]
        exact r_zret C hr hk hW (Or.inr rfl) rfl rfl dX11_undo_69
      · have hf := (if_neg c2).symm.trans hf
        refine lv_aload_n hx hb dX11_undo_33 rfl (lv_at hl 0 rfl) ?_
        refine gf_X11_13 C hW rfl rfl rfl dX11_undo_34 ?_
        refine lv_iload_n hx hb dX11_undo_37 rfl (lv_at hl 1 rfl) ?_
        refine lv_aload_n hx hb dX11_undo_38 rfl (lv_at hl 0 rfl) ?_
        refine gf_X11_27 C hW rfl rfl rfl dX11_undo_39 ?_
        refine lv_sipush (v := 5440) hx hb dX11_undo_42 (by decide) ?_
        refine lv_aload_n hx hb dX11_undo_45 rfl (lv_at hl 0 rfl) ?_
        refine gf_X11_99 C hW rfl rfl rfl dX11_undo_46 ?_
        refine lv_imul hx hb dX11_undo_49 ?_
        refine lv_iload_n hx hb dX11_undo_50 rfl (lv_at hl 1 rfl) ?_
        refine lv_iadd hx hb dX11_undo_51 ?_
        obtain ⟨hi5, hf⟩ := ck_of hf
        refine r_iald (n := 43520) C hW rfl rfl hi5 dX11_undo_52 ?_
        obtain ⟨hi6, hf⟩ := ck_of hf
        refine r_iast (n := 7114) C hW rfl (fun _ => rfl) hi6 dX11_undo_53 (fun H locs hW => ?_)
        refine lv_iinc (v := (v1 + (1 : Int32))) (lv' := [(1, .int (v1 + (1 : Int32))), (0, .ref (ad 0))]) hx hb dX11_undo_54 hl (k := 1) rfl rfl (by decide) rfl (fun ls hl => ?_)
        refine lv_goto (tgt := 26) hx hb dX11_undo_57 (by decide) ?_
        obtain rfl := Option.some.inj hf
        exact Kl1 _ rfl _ _ _ hW (lv_sub hl [1, 0] rfl)
    exact L26 (mst (mst μ (0, 0) 0 (0 : Int32)) (0, 0) 7 (((mst μ (0, 0) 0 (0 : Int32)) (0, 0) 7) - (1 : Int32))) (0 : Int32) _ _ _ hf hW (lv_sub hl [1, 0] rfl)
  · have hf := (if_neg c1).symm.trans hf
    refine lv_iconst (v := 0) hx hb dX11_undo_12 (by decide) ?_
    obtain rfl := Option.some.inj hf
    rw [hQ]
    exact r_zret C hr hk hW (Or.inl rfl) rfl rfl dX11_undo_13
set_option maxHeartbeats 4000000 in
set_option maxRecDepth 100000 in
theorem c_X11_values {l : Launch} {D : va_G} {tc : Nat → ClassId} {ro : Ro} {ad : Nat → Nat} {μ : Mm} {res : Int32} (hf : f_X11_values μ = some res) : Ct l D tc ro (faM ad) (feM tc ad) yX11_values cX11_values 1 (some .int) (rmq 0 0) [.ref (ad 0)] μ (some (.int res)) μ := by
  refine Ct.of (by decide) (Nat.le_of_ble_eq_true rfl) (fun p e s m args below meth c C hr hk hW ls hl => ?_)
  have hx := C.1.1
  have hb := C.1.2.1
  obtain ⟨Q, hQ⟩ : ∃ Q, Q = MQ below (Ctq D (faM ad) (feM tc ad) (some (.int res)) μ s.heap.size) args s 0 0 (AF (faM ad) s.heap.size) := ⟨_, rfl⟩
  rw [← hQ]
  have hl : lv_has ls 1 [(0, .ref (ad 0))] := hl
  unfold f_X11_values at hf
  refine lv_aload_n hx hb dX11_values_0 rfl (lv_at hl 0 rfl) ?_
  refine gf_X11_13 C hW rfl rfl rfl dX11_values_1 ?_
  refine lv_iconst (v := 0) hx hb dX11_values_4 (by decide) ?_
  obtain ⟨hi1, hf⟩ := ck_of hf
  refine r_iald (n := 7114) C hW rfl rfl hi1 dX11_values_5 ?_
  obtain rfl := Option.some.inj hf
  rw [hQ]
  exact r_iret C hr hk hW rfl rfl dX11_values_6
set_option maxHeartbeats 4000000 in
set_option maxRecDepth 100000 in
theorem c_X11_people {l : Launch} {D : va_G} {tc : Nat → ClassId} {ro : Ro} {ad : Nat → Nat} {μ : Mm} {res : Int32} (hf : f_X11_people μ = some res) : Ct l D tc ro (faM ad) (feM tc ad) yX11_people cX11_people 1 (some .int) (rmq 0 0) [.ref (ad 0)] μ (some (.int res)) μ := by
  refine Ct.of (by decide) (Nat.le_of_ble_eq_true rfl) (fun p e s m args below meth c C hr hk hW ls hl => ?_)
  have hx := C.1.1
  have hb := C.1.2.1
  obtain ⟨Q, hQ⟩ : ∃ Q, Q = MQ below (Ctq D (faM ad) (feM tc ad) (some (.int res)) μ s.heap.size) args s 0 0 (AF (faM ad) s.heap.size) := ⟨_, rfl⟩
  rw [← hQ]
  have hl : lv_has ls 1 [(0, .ref (ad 0))] := hl
  unfold f_X11_people at hf
  refine lv_aload_n hx hb dX11_people_0 rfl (lv_at hl 0 rfl) ?_
  refine gf_X11_13 C hW rfl rfl rfl dX11_people_1 ?_
  refine lv_iconst (v := 1) hx hb dX11_people_4 (by decide) ?_
  obtain ⟨hi1, hf⟩ := ck_of hf
  refine r_iald (n := 7114) C hW rfl rfl hi1 dX11_people_5 ?_
  obtain rfl := Option.some.inj hf
  rw [hQ]
  exact r_iret C hr hk hW rfl rfl dX11_people_6
set_option maxHeartbeats 4000000 in
set_option maxRecDepth 100000 in
theorem c_X11_worlds {l : Launch} {D : va_G} {tc : Nat → ClassId} {ro : Ro} {ad : Nat → Nat} {μ : Mm} {res : Int32} (hf : f_X11_worlds μ = some res) : Ct l D tc ro (faM ad) (feM tc ad) yX11_worlds cX11_worlds 1 (some .int) (rmq 0 0) [.ref (ad 0)] μ (some (.int res)) μ := by
  refine Ct.of (by decide) (Nat.le_of_ble_eq_true rfl) (fun p e s m args below meth c C hr hk hW ls hl => ?_)
  have hx := C.1.1
  have hb := C.1.2.1
  obtain ⟨Q, hQ⟩ : ∃ Q, Q = MQ below (Ctq D (faM ad) (feM tc ad) (some (.int res)) μ s.heap.size) args s 0 0 (AF (faM ad) s.heap.size) := ⟨_, rfl⟩
  rw [← hQ]
  have hl : lv_has ls 1 [(0, .ref (ad 0))] := hl
  unfold f_X11_worlds at hf
  refine lv_aload_n hx hb dX11_worlds_0 rfl (lv_at hl 0 rfl) ?_
  refine gf_X11_13 C hW rfl rfl rfl dX11_worlds_1 ?_
  refine lv_bipush (v := 10) hx hb dX11_worlds_4 (by decide) ?_
  obtain ⟨hi1, hf⟩ := ck_of hf
  refine r_iald (n := 7114) C hW rfl rfl hi1 dX11_worlds_6 ?_
  obtain rfl := Option.some.inj hf
  rw [hQ]
  exact r_iret C hr hk hW rfl rfl dX11_worlds_7
set_option maxHeartbeats 4000000 in
set_option maxRecDepth 100000 in
theorem c_X11_here {l : Launch} {D : va_G} {tc : Nat → ClassId} {ro : Ro} {ad : Nat → Nat} {μ : Mm} {res : Int32} (hf : f_X11_here μ = some res) : Ct l D tc ro (faM ad) (feM tc ad) yX11_here cX11_here 1 (some .int) (rmq 0 0) [.ref (ad 0)] μ (some (.int res)) μ := by
  refine Ct.of (by decide) (Nat.le_of_ble_eq_true rfl) (fun p e s m args below meth c C hr hk hW ls hl => ?_)
  have hx := C.1.1
  have hb := C.1.2.1
  obtain ⟨Q, hQ⟩ : ∃ Q, Q = MQ below (Ctq D (faM ad) (feM tc ad) (some (.int res)) μ s.heap.size) args s 0 0 (AF (faM ad) s.heap.size) := ⟨_, rfl⟩
  rw [← hQ]
  have hl : lv_has ls 1 [(0, .ref (ad 0))] := hl
  unfold f_X11_here at hf
  refine lv_aload_n hx hb dX11_here_0 rfl (lv_at hl 0 rfl) ?_
  refine gf_X11_13 C hW rfl rfl rfl dX11_here_1 ?_
  refine lv_bipush (v := 6) hx hb dX11_here_4 (by decide) ?_
  obtain ⟨hi1, hf⟩ := ck_of hf
  refine r_iald (n := 7114) C hW rfl rfl hi1 dX11_here_6 ?_
  obtain rfl := Option.some.inj hf
  rw [hQ]
  exact r_iret C hr hk hW rfl rfl dX11_here_7
set_option maxHeartbeats 4000000 in
set_option maxRecDepth 100000 in
theorem c_X11_isLeft {l : Launch} {D : va_G} {tc : Nat → ClassId} {ro : Ro} {ad : Nat → Nat} {μ : Mm} {v1 : Int32} {res : Int32} (hf : f_X11_isLeft μ v1 = some res) : Ct l D tc ro (faM ad) (feM tc ad) yX11_isLeft cX11_isLeft 2 (some .boolean) (rmq 0 0) [.ref (ad 0), .int v1] μ (some (.int res)) μ := by
  refine Ct.of (by decide) (Nat.le_of_ble_eq_true rfl) (fun p e s m args below meth c C hr hk hW ls hl => ?_)
  have hx := C.1.1
  have hb := C.1.2.1
  obtain ⟨Q, hQ⟩ : ∃ Q, Q = MQ below (Ctq D (faM ad) (feM tc ad) (some (.int res)) μ s.heap.size) args s 0 0 (AF (faM ad) s.heap.size) := ⟨_, rfl⟩
  rw [← hQ]
  have hl : lv_has ls 2 [(0, .ref (ad 0)), (1, .int v1)] := hl
  unfold f_X11_isLeft at hf
  refine lv_aload_n hx hb dX11_isLeft_0 rfl (lv_at hl 0 rfl) ?_
  refine gf_X11_13 C hW rfl rfl rfl dX11_isLeft_1 ?_
  refine lv_bipush (v := 20) hx hb dX11_isLeft_4 (by decide) ?_
  refine lv_iload_n hx hb dX11_isLeft_6 rfl (lv_at hl 1 rfl) ?_
  refine lv_iadd hx hb dX11_isLeft_7 ?_
  obtain ⟨hi1, hf⟩ := ck_of hf
  refine r_iald (n := 7114) C hW rfl rfl hi1 dX11_isLeft_8 ?_
  refine lv_iconst (v := 1) hx hb dX11_isLeft_9 (by decide) ?_
  refine lv_icmp_ne (tgt := 17) hx hb dX11_isLeft_10 (by decide) (fun c2 => ?_) (fun c2 => ?_)
  · have hf := (if_pos c2).symm.trans hf
    refine lv_iconst (v := 0) hx hb dX11_isLeft_17 (by decide) ?_
    obtain rfl := Option.some.inj hf
    rw [hQ]
    exact r_zret C hr hk hW (Or.inl rfl) rfl rfl dX11_isLeft_18
  · have hf := (if_neg c2).symm.trans hf
    refine lv_iconst (v := 1) hx hb dX11_isLeft_13 (by decide) ?_
    refine lv_goto (tgt := 18) hx hb dX11_isLeft_14 (by decide) ?_
    obtain rfl := Option.some.inj hf
    rw [hQ]
    exact r_zret C hr hk hW (Or.inr rfl) rfl rfl dX11_isLeft_18
set_option maxHeartbeats 4000000 in
set_option maxRecDepth 100000 in
theorem c_X11_label {l : Launch} {D : va_G} {tc : Nat → ClassId} {ro : Ro} {ad : Nat → Nat} {μ : Mm} {v1 v2 : Int32} {res : Int32} (hf : f_X11_label μ v1 v2 = some res) : Ct l D tc ro (faM ad) (feM tc ad) yX11_label cX11_label 3 (some .int) (rmq 0 0) [.ref (ad 0), .int v1, .int v2] μ (some (.int res)) μ := by
  refine Ct.of (by decide) (Nat.le_of_ble_eq_true rfl) (fun p e s m args below meth c C hr hk hW ls hl => ?_)
  have hx := C.1.1
  have hb := C.1.2.1
  obtain ⟨Q, hQ⟩ : ∃ Q, Q = MQ below (Ctq D (faM ad) (feM tc ad) (some (.int res)) μ s.heap.size) args s 0 0 (AF (faM ad) s.heap.size) := ⟨_, rfl⟩
  rw [← hQ]
  have hl : lv_has ls 3 [(0, .ref (ad 0)), (1, .int v1), (2, .int v2)] := hl
  unfold f_X11_label at hf
  refine lv_aload_n hx hb dX11_label_0 rfl (lv_at hl 0 rfl) ?_
  refine gf_X11_13 C hW rfl rfl rfl dX11_label_1 ?_
  refine lv_sipush (v := 532) hx hb dX11_label_4 (by decide) ?_
  refine lv_sipush (v := 512) hx hb dX11_label_7 (by decide) ?_
  refine lv_iload_n hx hb dX11_label_10 rfl (lv_at hl 1 rfl) ?_
  refine lv_imul hx hb dX11_label_11 ?_
  refine lv_iadd hx hb dX11_label_12 ?_
  refine lv_iload_n hx hb dX11_label_13 rfl (lv_at hl 2 rfl) ?_
  refine lv_iadd hx hb dX11_label_14 ?_
  obtain ⟨hi1, hf⟩ := ck_of hf
  refine r_iald (n := 7114) C hW rfl rfl hi1 dX11_label_15 ?_
  obtain rfl := Option.some.inj hf
  rw [hQ]
  exact r_iret C hr hk hW rfl rfl dX11_label_16
set_option maxHeartbeats 4000000 in
set_option maxRecDepth 100000 in
theorem c_X11_isSeeing {l : Launch} {D : va_G} {tc : Nat → ClassId} {ro : Ro} {ad : Nat → Nat} {μ : Mm} {v1 v2 : Int32} {res : Int32} (hf : f_X11_isSeeing μ v1 v2 = some res) : Ct l D tc ro (faM ad) (feM tc ad) yX11_isSeeing cX11_isSeeing 3 (some .boolean) (rmq 1 21) [.ref (ad 0), .int v1, .int v2] μ (some (.int res)) μ := by
  refine Ct.of (by decide) (Nat.le_of_ble_eq_true rfl) (fun p e s m args below meth c C hr hk hW ls hl => ?_)
  have hx := C.1.1
  have hb := C.1.2.1
  obtain ⟨Q, hQ⟩ : ∃ Q, Q = MQ below (Ctq D (faM ad) (feM tc ad) (some (.int res)) μ s.heap.size) args s 0 0 (AF (faM ad) s.heap.size) := ⟨_, rfl⟩
  rw [← hQ]
  have hl : lv_has ls 3 [(0, .ref (ad 0)), (1, .int v1), (2, .int v2)] := hl
  unfold f_X11_isSeeing at hf
  refine lv_aload_n hx hb dX11_isSeeing_0 rfl (lv_at hl 0 rfl) ?_
  refine gf_X11_13 C hW rfl rfl rfl dX11_isSeeing_1 ?_
  refine lv_bipush (v := 11) hx hb dX11_isSeeing_4 (by decide) ?_
  refine lv_iload_n hx hb dX11_isSeeing_6 rfl (lv_at hl 1 rfl) ?_
  refine lv_iadd hx hb dX11_isSeeing_7 ?_
  obtain ⟨hi1, hf⟩ := ck_of hf
  refine r_iald (n := 7114) C hW rfl rfl hi1 dX11_isSeeing_8 ?_
  refine lv_iload_n hx hb dX11_isSeeing_9 rfl (lv_at hl 2 rfl) ?_
  obtain ⟨x10, h10, hf⟩ := bd_of hf
  refine r_callS C hW hl lk_X11_103 (c_X11_has h10) ⟨rfl, rfl⟩ ⟨Nat.le_of_ble_eq_true rfl, Nat.le_of_ble_eq_true rfl⟩ (As := [.int (μ (1, 0) ((11 : Int32) + v1).toNatClampNeg), .int v2]) (rest := []) rfl rfl (Nat.le_of_ble_eq_true rfl) dX11_isSeeing_10 ⟨Nat.zero_le _, Nat.zero_le _⟩ (fun H locs hW => ?_)
  show W p l e (rmq 1 21) s m args below meth c H locs 0 0 Q (F0 m 13 ls [.int x10])
  obtain ⟨hz3, hf⟩ := cb_of hf
  obtain rfl := Option.some.inj hf
  rw [hQ]
  exact r_zret C hr hk hW hz3 rfl rfl dX11_isSeeing_13
set_option maxHeartbeats 4000000 in
set_option maxRecDepth 100000 in
theorem c_X11_noPerson {l : Launch} {D : va_G} {tc : Nat → ClassId} {ro : Ro} {ad : Nat → Nat} {μ : Mm} {v1 : Int32} {res : Int32} (hf : f_X11_noPerson μ v1 = some res) : Ct l D tc ro (faM ad) (feM tc ad) yX11_noPerson cX11_noPerson 2 (some .boolean) (rmq 1 22) [.ref (ad 0), .int v1] μ (some (.int res)) μ := by
  refine Ct.of (by decide) (Nat.le_of_ble_eq_true rfl) (fun p e s m args below meth c C hr hk hW ls hl => ?_)
  have hx := C.1.1
  have hb := C.1.2.1
  obtain ⟨Q, hQ⟩ : ∃ Q, Q = MQ below (Ctq D (faM ad) (feM tc ad) (some (.int res)) μ s.heap.size) args s 0 0 (AF (faM ad) s.heap.size) := ⟨_, rfl⟩
  rw [← hQ]
  have hl : lv_has ls 2 [(0, .ref (ad 0)), (1, .int v1)] := hl
  unfold f_X11_noPerson at hf
  refine lv_iload_n hx hb dX11_noPerson_0 rfl (lv_at hl 1 rfl) ?_
  refine lv_iconst (v := 0) hx hb dX11_noPerson_1 (by decide) ?_
  refine lv_aload_n hx hb dX11_noPerson_2 rfl (lv_at hl 0 rfl) ?_
  obtain ⟨x3, h3, hf⟩ := bd_of hf
  refine r_callV C hW hl lk_X11_107 (c_X11_people h3) ⟨rfl, rfl⟩ ⟨Nat.le_of_ble_eq_true rfl, Nat.le_of_ble_eq_true rfl⟩ rfl rfl rfl (As := []) (rest := [.int (0 : Int32), .int v1]) rfl rfl (Nat.le_of_ble_eq_true rfl) dX11_noPerson_3 ⟨Nat.zero_le _, Nat.zero_le _⟩ (fun H locs hW => ?_)
  show W p l e (rmq 1 22) s m args below meth c H locs 0 0 Q (F0 m 6 ls [.int x3, .int (0 : Int32), .int v1])
  refine lv_iconst (v := 1) hx hb dX11_noPerson_6 (by decide) ?_
  refine lv_isub hx hb dX11_noPerson_7 ?_
  obtain ⟨x8, h8, hf⟩ := bd_of hf
  refine r_callS C hW hl lk_X11_111 (c_X11_in h8) ⟨rfl, rfl⟩ ⟨Nat.le_of_ble_eq_true rfl, Nat.le_of_ble_eq_true rfl⟩ (As := [.int v1, .int (0 : Int32), .int (x3 - (1 : Int32))]) (rest := []) rfl rfl (Nat.le_of_ble_eq_true rfl) dX11_noPerson_8 ⟨Nat.zero_le _, Nat.zero_le _⟩ (fun H locs hW => ?_)
  show W p l e (rmq 1 22) s m args below meth c H locs 0 0 Q (F0 m 11 ls [.int x8])
  refine lv_if_ne (tgt := 18) hx hb dX11_noPerson_11 (by decide) (fun c3 => ?_) (fun c3 => ?_)
  · have hf := (if_pos c3).symm.trans hf
    refine lv_iconst (v := 0) hx hb dX11_noPerson_18 (by decide) ?_
    obtain rfl := Option.some.inj hf
    rw [hQ]
    exact r_zret C hr hk hW (Or.inl rfl) rfl rfl dX11_noPerson_19
  · have hf := (if_neg c3).symm.trans hf
    refine lv_iconst (v := 1) hx hb dX11_noPerson_14 (by decide) ?_
    refine lv_goto (tgt := 19) hx hb dX11_noPerson_15 (by decide) ?_
    obtain rfl := Option.some.inj hf
    rw [hQ]
    exact r_zret C hr hk hW (Or.inr rfl) rfl rfl dX11_noPerson_19
set_option maxHeartbeats 4000000 in
set_option maxRecDepth 100000 in
theorem c_X11_noWorld {l : Launch} {D : va_G} {tc : Nat → ClassId} {ro : Ro} {ad : Nat → Nat} {μ : Mm} {v1 : Int32} {res : Int32} (hf : f_X11_noWorld μ v1 = some res) : Ct l D tc ro (faM ad) (feM tc ad) yX11_noWorld cX11_noWorld 2 (some .boolean) (rmq 1 22) [.ref (ad 0), .int v1] μ (some (.int res)) μ := by
  refine Ct.of (by decide) (Nat.le_of_ble_eq_true rfl) (fun p e s m args below meth c C hr hk hW ls hl => ?_)
  have hx := C.1.1
  have hb := C.1.2.1
  obtain ⟨Q, hQ⟩ : ∃ Q, Q = MQ below (Ctq D (faM ad) (feM tc ad) (some (.int res)) μ s.heap.size) args s 0 0 (AF (faM ad) s.heap.size) := ⟨_, rfl⟩
  rw [← hQ]
  have hl : lv_has ls 2 [(0, .ref (ad 0)), (1, .int v1)] := hl
  unfold f_X11_noWorld at hf
  refine lv_iload_n hx hb dX11_noWorld_0 rfl (lv_at hl 1 rfl) ?_
  refine lv_iconst (v := 0) hx hb dX11_noWorld_1 (by decide) ?_
  refine lv_aload_n hx hb dX11_noWorld_2 rfl (lv_at hl 0 rfl) ?_
  obtain ⟨x3, h3, hf⟩ := bd_of hf
  refine r_callV C hW hl lk_X11_115 (c_X11_worlds h3) ⟨rfl, rfl⟩ ⟨Nat.le_of_ble_eq_true rfl, Nat.le_of_ble_eq_true rfl⟩ rfl rfl rfl (As := []) (rest := [.int (0 : Int32), .int v1]) rfl rfl (Nat.le_of_ble_eq_true rfl) dX11_noWorld_3 ⟨Nat.zero_le _, Nat.zero_le _⟩ (fun H locs hW => ?_)
  show W p l e (rmq 1 22) s m args below meth c H locs 0 0 Q (F0 m 6 ls [.int x3, .int (0 : Int32), .int v1])
  refine lv_iconst (v := 1) hx hb dX11_noWorld_6 (by decide) ?_
  refine lv_isub hx hb dX11_noWorld_7 ?_
  obtain ⟨x8, h8, hf⟩ := bd_of hf
  refine r_callS C hW hl lk_X11_111 (c_X11_in h8) ⟨rfl, rfl⟩ ⟨Nat.le_of_ble_eq_true rfl, Nat.le_of_ble_eq_true rfl⟩ (As := [.int v1, .int (0 : Int32), .int (x3 - (1 : Int32))]) (rest := []) rfl rfl (Nat.le_of_ble_eq_true rfl) dX11_noWorld_8 ⟨Nat.zero_le _, Nat.zero_le _⟩ (fun H locs hW => ?_)
  show W p l e (rmq 1 22) s m args below meth c H locs 0 0 Q (F0 m 11 ls [.int x8])
  refine lv_if_ne (tgt := 18) hx hb dX11_noWorld_11 (by decide) (fun c3 => ?_) (fun c3 => ?_)
  · have hf := (if_pos c3).symm.trans hf
    refine lv_iconst (v := 0) hx hb dX11_noWorld_18 (by decide) ?_
    obtain rfl := Option.some.inj hf
    rw [hQ]
    exact r_zret C hr hk hW (Or.inl rfl) rfl rfl dX11_noWorld_19
  · have hf := (if_neg c3).symm.trans hf
    refine lv_iconst (v := 1) hx hb dX11_noWorld_14 (by decide) ?_
    refine lv_goto (tgt := 19) hx hb dX11_noWorld_15 (by decide) ?_
    obtain rfl := Option.some.inj hf
    rw [hQ]
    exact r_zret C hr hk hW (Or.inr rfl) rfl rfl dX11_noWorld_19
set_option maxHeartbeats 4000000 in
set_option maxRecDepth 100000 in
theorem c_X11_noticeIn {l : Launch} {D : va_G} {tc : Nat → ClassId} {ro : Ro} {ad : Nat → Nat} {μ : Mm} {v1 v2 : Int32} {res : Int32} (hf : f_X11_noticeIn μ v1 v2 = some res) : Ct l D tc ro (faM ad) (feM tc ad) yX11_noticeIn cX11_noticeIn 5 (some .int) (rmq 1 20) [.ref (ad 0), .int v1, .int v2] μ (some (.int res)) μ := by
  refine Ct.of (by decide) (Nat.le_of_ble_eq_true rfl) (fun p e s m args below meth c C hr hk hW ls hl => ?_)
  have hx := C.1.1
  have hb := C.1.2.1
  obtain ⟨Q, hQ⟩ : ∃ Q, Q = MQ below (Ctq D (faM ad) (feM tc ad) (some (.int res)) μ s.heap.size) args s 0 0 (AF (faM ad) s.heap.size) := ⟨_, rfl⟩
  rw [← hQ]
  have hl : lv_has ls 5 [(0, .ref (ad 0)), (1, .int v1), (2, .int v2)] := hl
  unfold f_X11_noticeIn at hf
  refine lv_iload_n hx hb dX11_noticeIn_0 rfl (lv_at hl 2 rfl) ?_
  refine lv_istore_n (lv' := [(3, .int v2), (0, .ref (ad 0)), (1, .int v1), (2, .int v2)]) hx hb dX11_noticeIn_1 rfl hl (by decide) rfl (fun ls hl => ?_)
  refine lv_aload_n hx hb dX11_noticeIn_2 rfl (lv_at hl 1 rfl) ?_
  obtain ⟨x3, h3, hf⟩ := bd_of hf
  refine r_callV C hW hl lk_X11_107 (c_X11_people h3) ⟨rfl, rfl⟩ ⟨Nat.le_of_ble_eq_true rfl, Nat.le_of_ble_eq_true rfl⟩ rfl rfl rfl (As := []) (rest := []) rfl rfl (Nat.le_of_ble_eq_true rfl) dX11_noticeIn_3 ⟨Nat.zero_le _, Nat.zero_le _⟩ (fun H locs hW => ?_)
  show W p l e (rmq 1 20) s m args below meth c H locs 0 0 Q (F0 m 6 ls [.int x3])
  refine lv_iconst (v := 1) hx hb dX11_noticeIn_6 (by decide) ?_
  refine lv_isub hx hb dX11_noticeIn_7 ?_
  refine lv_istore (lv' := [(4, .int (x3 - (1 : Int32))), (3, .int v2), (0, .ref (ad 0)), (1, .int v1), (2, .int v2)]) hx hb dX11_noticeIn_8 hl (by decide) rfl (fun ls hl => ?_)
  have L10 : ∀ (μ : Mm) (v1 v3 v4 : Int32) (H : Heap) (locs : List Loc) (ls : Array Slot), Wh (fun z : Int32 × Int32 => f_X11_noticeIn_L10 v1 μ z.1 z.2) (v3, v4) = some res → Wd D (faM ad) (feM tc ad) s.heap μ H locs → lv_has ls 5 [(0, .ref (ad 0)), (1, .int v1), (3, .int v3), (4, .int v4)] → W p l e (rmq 1 20) s m args below meth c H locs 0 0 Q (F0 m 10 ls []) := by
    intro μ v1 v3 v4 H locs ls hf hW hl
    refine Wh_rule hf (fun z : Int32 × Int32 => ∀ (H : Heap) (locs : List Loc) (ls : Array Slot), Wd D (faM ad) (feM tc ad) s.heap μ H locs → lv_has ls 5 [(0, .ref (ad 0)), (1, .int v1), (3, .int z.1), (4, .int z.2)] → W p l e (rmq 1 20) s m args below meth c H locs 0 0 Q (F0 m 10 ls [])) (fun z o1 hf Kl1 Kr1 => ?_) _ _ _ hW hl
    obtain ⟨v3, v4⟩ := z
    intro H locs ls hW hl
    have hf : f_X11_noticeIn_L10 v1 μ v3 v4 = some o1 := hf
    unfold f_X11_noticeIn_L10 at hf
    have hW : Wd D (faM ad) (feM tc ad) s.heap μ H locs := hW
    have hl : lv_has ls 5 [(0, .ref (ad 0)), (1, .int v1), (3, .int v3), (4, .int v4)] := hl
    refine lv_iload hx hb dX11_noticeIn_10 (lv_at hl 3 rfl) ?_
    refine lv_iload_n hx hb dX11_noticeIn_12 rfl (lv_at hl 1 rfl) ?_
    refine lv_icmp_le (tgt := 29) hx hb dX11_noticeIn_13 (by decide) (fun c2 => ?_) (fun c2 => ?_)
    · have hf := (if_pos c2).symm.trans hf
      obtain ⟨x9005, hf, hx9005⟩ := map_of hf
      have e9005 := Kr1 _ hx9005.symm
      subst e9005
      refine lv_iload_n hx hb dX11_noticeIn_29 rfl (lv_at hl 2 rfl) ?_
      refine lv_aload_n hx hb dX11_noticeIn_30 rfl (lv_at hl 0 rfl) ?_
      obtain ⟨x31, h31, hf⟩ := bd_of hf
      refine r_callV C hW hl lk_X11_118 (c_X11_values h31) ⟨rfl, rfl⟩ ⟨Nat.le_of_ble_eq_true rfl, Nat.le_of_ble_eq_true rfl⟩ rfl rfl rfl (As := []) (rest := [.int v3]) rfl rfl (Nat.le_of_ble_eq_true rfl) dX11_noticeIn_31 ⟨Nat.zero_le _, Nat.zero_le _⟩ (fun H locs hW => ?_)
      show W p l e (rmq 1 20) s m args below meth c H locs 0 0 Q (F0 m 34 ls [.int x31, .int v3])
      obtain ⟨hz4, hf⟩ := cd_of hf
      refine lv_irem hx hb dX11_noticeIn_34 hz4 ?_
      obtain rfl := Option.some.inj hf
      rw [hQ]
      exact r_iret C hr hk hW rfl rfl dX11_noticeIn_35
    · have hf := (if_neg c2).symm.trans hf
      refine lv_iload_n hx hb dX11_noticeIn_16 rfl (lv_at hl 2 rfl) ?_
      refine lv_aload_n hx hb dX11_noticeIn_17 rfl (lv_at hl 0 rfl) ?_
      obtain ⟨x18, h18, hf⟩ := bd_of hf
      refine r_callV C hW hl lk_X11_118 (c_X11_values h18) ⟨rfl, rfl⟩ ⟨Nat.le_of_ble_eq_true rfl, Nat.le_of_ble_eq_true rfl⟩ rfl rfl rfl (As := []) (rest := [.int v3]) rfl rfl (Nat.le_of_ble_eq_true rfl) dX11_noticeIn_18 ⟨Nat.zero_le _, Nat.zero_le _⟩ (fun H locs hW => ?_)
      show W p l e (rmq 1 20) s m args below meth c H locs 0 0 Q (F0 m 21 ls [.int x18, .int v3])
      obtain ⟨hz7, hf⟩ := cd_of hf
      refine lv_idiv hx hb dX11_noticeIn_21 hz7 ?_
      refine lv_istore_n (lv' := [(3, .int (v3 / x18)), (0, .ref (ad 0)), (1, .int v1), (4, .int v4)]) hx hb dX11_noticeIn_22 rfl hl (by decide) rfl (fun ls hl => ?_)
      refine lv_iinc (v := (v4 + (-1 : Int32))) (lv' := [(4, .int (v4 + (-1 : Int32))), (3, .int (v3 / x18)), (0, .ref (ad 0)), (1, .int v1)]) hx hb dX11_noticeIn_23 hl (k := 3) rfl rfl (by decide) rfl (fun ls hl => ?_)
      refine lv_goto (tgt := 10) hx hb dX11_noticeIn_26 (by decide) ?_
      obtain rfl := Option.some.inj hf
      exact Kl1 _ rfl _ _ _ hW (lv_sub hl [2, 3, 1, 0] rfl)
  exact L10 μ v1 v2 (x3 - (1 : Int32)) _ _ _ hf hW (lv_sub hl [2, 3, 1, 0] rfl)
set_option maxHeartbeats 4000000 in
set_option maxRecDepth 100000 in
theorem c_X11_notice {l : Launch} {D : va_G} {tc : Nat → ClassId} {ro : Ro} {ad : Nat → Nat} {μ : Mm} {v1 : Int32} {res : Int32} (hf : f_X11_notice μ v1 = some res) : Ct l D tc ro (faM ad) (feM tc ad) yX11_notice cX11_notice 2 (some .int) (rmq 2 44) [.ref (ad 0), .int v1] μ (some (.int res)) μ := by
  refine Ct.of (by decide) (Nat.le_of_ble_eq_true rfl) (fun p e s m args below meth c C hr hk hW ls hl => ?_)
  have hx := C.1.1
  have hb := C.1.2.1
  obtain ⟨Q, hQ⟩ : ∃ Q, Q = MQ below (Ctq D (faM ad) (feM tc ad) (some (.int res)) μ s.heap.size) args s 0 0 (AF (faM ad) s.heap.size) := ⟨_, rfl⟩
  rw [← hQ]
  have hl : lv_has ls 2 [(0, .ref (ad 0)), (1, .int v1)] := hl
  unfold f_X11_notice at hf
  refine lv_aload_n hx hb dX11_notice_0 rfl (lv_at hl 0 rfl) ?_
  refine lv_iload_n hx hb dX11_notice_1 rfl (lv_at hl 1 rfl) ?_
  refine lv_aload_n hx hb dX11_notice_2 rfl (lv_at hl 0 rfl) ?_
  obtain ⟨x3, h3, hf⟩ := bd_of hf
  refine r_callV C hW hl lk_X11_121 (c_X11_here h3) ⟨rfl, rfl⟩ ⟨Nat.le_of_ble_eq_true rfl, Nat.le_of_ble_eq_true rfl⟩ rfl rfl rfl (As := []) (rest := [.int v1, .ref (ad 0)]) rfl rfl (Nat.le_of_ble_eq_true rfl) dX11_notice_3 ⟨Nat.zero_le _, Nat.zero_le _⟩ (fun H locs hW => ?_)
  show W p l e (rmq 2 44) s m args below meth c H locs 0 0 Q (F0 m 6 ls [.int x3, .int v1, .ref (ad 0)])
  obtain ⟨x6, h6, hf⟩ := bd_of hf
  refine r_callV C hW hl lk_X11_124 (c_X11_noticeIn h6) ⟨rfl, rfl⟩ ⟨Nat.le_of_ble_eq_true rfl, Nat.le_of_ble_eq_true rfl⟩ rfl rfl rfl (As := [.int v1, .int x3]) (rest := []) rfl rfl (Nat.le_of_ble_eq_true rfl) dX11_notice_6 ⟨Nat.zero_le _, Nat.zero_le _⟩ (fun H locs hW => ?_)
  show W p l e (rmq 2 44) s m args below meth c H locs 0 0 Q (F0 m 9 ls [.int x6])
  obtain rfl := Option.some.inj hf
  rw [hQ]
  exact r_iret C hr hk hW rfl rfl dX11_notice_9
set_option maxHeartbeats 4000000 in
set_option maxRecDepth 100000 in
theorem c_X11_lays {l : Launch} {D : va_G} {tc : Nat → ClassId} {ro : Ro} {ad : Nat → Nat} {μ : Mm} {v1 v2 : Int32} {res : Mm} (hf : f_X11_lays μ v1 v2 = some res) : Ct l D tc ro (faM ad) (feM tc ad) yX11_lays cX11_lays 4 none (rmq 2 44) [.ref (ad 0), .int v1, .int v2] μ none res := by
  refine Ct.of (by decide) (Nat.le_of_ble_eq_true rfl) (fun p e s m args below meth c C hr hk hW ls hl => ?_)
  have hx := C.1.1
  have hb := C.1.2.1
  obtain ⟨Q, hQ⟩ : ∃ Q, Q = MQ below (Ctq D (faM ad) (feM tc ad) none res s.heap.size) args s 0 0 (AF (faM ad) s.heap.size) := ⟨_, rfl⟩
  rw [← hQ]
  have hl : lv_has ls 4 [(0, .ref (ad 0)), (1, .int v1), (2, .int v2)] := hl
  unfold f_X11_lays at hf
  refine lv_iconst (v := 0) hx hb dX11_lays_0 (by decide) ?_
  refine lv_istore_n (lv' := [(3, .int (0 : Int32)), (0, .ref (ad 0)), (1, .int v1), (2, .int v2)]) hx hb dX11_lays_1 rfl hl (by decide) rfl (fun ls hl => ?_)
  have L2 : ∀ (μ : Mm) (v1 v2 v3 : Int32) (H : Heap) (locs : List Loc) (ls : Array Slot), Wh (fun z : Mm × Int32 => f_X11_lays_L2 v1 v2 z.1 z.2) (μ, v3) = some res → Wd D (faM ad) (feM tc ad) s.heap μ H locs → lv_has ls 4 [(0, .ref (ad 0)), (1, .int v1), (2, .int v2), (3, .int v3)] → W p l e (rmq 2 44) s m args below meth c H locs 0 0 Q (F0 m 2 ls []) := by
    intro μ v1 v2 v3 H locs ls hf hW hl
    refine Wh_rule hf (fun z : Mm × Int32 => ∀ (H : Heap) (locs : List Loc) (ls : Array Slot), Wd D (faM ad) (feM tc ad) s.heap z.1 H locs → lv_has ls 4 [(0, .ref (ad 0)), (1, .int v1), (2, .int v2), (3, .int z.2)] → W p l e (rmq 2 44) s m args below meth c H locs 0 0 Q (F0 m 2 ls [])) (fun z o1 hf Kl1 Kr1 => ?_) _ _ _ hW hl
    obtain ⟨μ, v3⟩ := z
    intro H locs ls hW hl
    have hf : f_X11_lays_L2 v1 v2 μ v3 = some o1 := hf
    unfold f_X11_lays_L2 at hf
    have hW : Wd D (faM ad) (feM tc ad) s.heap μ H locs := hW
    have hl : lv_has ls 4 [(0, .ref (ad 0)), (1, .int v1), (2, .int v2), (3, .int v3)] := hl
    refine lv_iload_n hx hb dX11_lays_2 rfl (lv_at hl 3 rfl) ?_
    refine lv_sipush (v := 512) hx hb dX11_lays_3 (by decide) ?_
    refine lv_icmp_ge (tgt := 22) hx hb dX11_lays_6 (by decide) (fun c1 => ?_) (fun c1 => ?_)
    · have hf := (if_pos c1).symm.trans hf
      obtain ⟨x9011, hf, hx9011⟩ := map_of hf
      have e9011 := Kr1 _ hx9011.symm
      subst e9011
      refine lv_iconst (v := 0) hx hb dX11_lays_22 (by decide) ?_
      refine lv_istore_n (lv' := [(3, .int (0 : Int32)), (0, .ref (ad 0)), (1, .int v1), (2, .int v2)]) hx hb dX11_lays_23 rfl hl (by decide) rfl (fun ls hl => ?_)
      have L24 : ∀ (μ : Mm) (v1 v2 v3 : Int32) (H : Heap) (locs : List Loc) (ls : Array Slot), Wh (fun z : Mm × Int32 => f_X11_lays_L24 v1 v2 z.1 z.2) (μ, v3) = some res → Wd D (faM ad) (feM tc ad) s.heap μ H locs → lv_has ls 4 [(0, .ref (ad 0)), (1, .int v1), (2, .int v2), (3, .int v3)] → W p l e (rmq 2 44) s m args below meth c H locs 0 0 Q (F0 m 24 ls []) := by
        intro μ v1 v2 v3 H locs ls hf hW hl
        refine Wh_rule hf (fun z : Mm × Int32 => ∀ (H : Heap) (locs : List Loc) (ls : Array Slot), Wd D (faM ad) (feM tc ad) s.heap z.1 H locs → lv_has ls 4 [(0, .ref (ad 0)), (1, .int v1), (2, .int v2), (3, .int z.2)] → W p l e (rmq 2 44) s m args below meth c H locs 0 0 Q (F0 m 24 ls [])) (fun z o1 hf Kl1 Kr1 => ?_) _ _ _ hW hl
        obtain ⟨μ, v3⟩ := z
        intro H locs ls hW hl
        have hf : f_X11_lays_L24 v1 v2 μ v3 = some o1 := hf
        unfold f_X11_lays_L24 at hf
        have hW : Wd D (faM ad) (feM tc ad) s.heap μ H locs := hW
        have hl : lv_has ls 4 [(0, .ref (ad 0)), (1, .int v1), (2, .int v2), (3, .int v3)] := hl
        refine lv_iload_n hx hb dX11_lays_24 rfl (lv_at hl 3 rfl) ?_
        refine lv_aload_n hx hb dX11_lays_25 rfl (lv_at hl 0 rfl) ?_
        obtain ⟨x26, h26, hf⟩ := bd_of hf
        refine r_callV C hW hl lk_X11_115 (c_X11_worlds h26) ⟨rfl, rfl⟩ ⟨Nat.le_of_ble_eq_true rfl, Nat.le_of_ble_eq_true rfl⟩ rfl rfl rfl (As := []) (rest := [.int v3]) rfl rfl (Nat.le_of_ble_eq_true rfl) dX11_lays_26 ⟨Nat.zero_le _, Nat.zero_le _⟩ (fun H locs hW => ?_)
        show W p l e (rmq 2 44) s m args below meth c H locs 0 0 Q (F0 m 29 ls [.int x26, .int v3])
        refine lv_icmp_ge (tgt := 68) hx hb dX11_lays_29 (by decide) (fun c3 => ?_) (fun c3 => ?_)
        · have hf := (if_pos c3).symm.trans hf
          obtain ⟨x9004, hf, hx9004⟩ := map_of hf
          have e9004 := Kr1 _ hx9004.symm
          subst e9004
          obtain rfl := Option.some.inj hf
          rw [hQ]
          exact r_vret C hr hk hW rfl rfl dX11_lays_68
        · have hf := (if_neg c3).symm.trans hf
          refine lv_aload_n hx hb dX11_lays_32 rfl (lv_at hl 0 rfl) ?_
          refine lv_iload_n hx hb dX11_lays_33 rfl (lv_at hl 3 rfl) ?_
          obtain ⟨x34, h34, hf⟩ := bd_of hf
          refine r_callV C hW hl lk_X11_128 (c_X11_isLeft h34) ⟨rfl, rfl⟩ ⟨Nat.le_of_ble_eq_true rfl, Nat.le_of_ble_eq_true rfl⟩ rfl rfl rfl (As := [.int v3]) (rest := []) rfl rfl (Nat.le_of_ble_eq_true rfl) dX11_lays_34 ⟨Nat.zero_le _, Nat.zero_le _⟩ (fun H locs hW => ?_)
          show W p l e (rmq 2 44) s m args below meth c H locs 0 0 Q (F0 m 37 ls [.int x34])
          refine lv_if_eq (tgt := 62) hx hb dX11_lays_37 (by decide) (fun c6 => ?_) (fun c6 => ?_)
          · have hf := (if_pos c6).symm.trans hf
            refine lv_iinc (v := (v3 + (1 : Int32))) (lv' := [(3, .int (v3 + (1 : Int32))), (0, .ref (ad 0)), (1, .int v1), (2, .int v2)]) hx hb dX11_lays_62 hl (k := 3) rfl rfl (by decide) rfl (fun ls hl => ?_)
            refine lv_goto (tgt := 24) hx hb dX11_lays_65 (by decide) ?_
            obtain rfl := Option.some.inj hf
            exact Kl1 _ rfl _ _ _ hW (lv_sub hl [1, 2, 3, 0] rfl)
          · have hf := (if_neg c6).symm.trans hf
            refine lv_aload_n hx hb dX11_lays_40 rfl (lv_at hl 0 rfl) ?_
            refine gf_X11_30 C hW rfl rfl rfl dX11_lays_41 ?_
            refine lv_aload_n hx hb dX11_lays_44 rfl (lv_at hl 0 rfl) ?_
            refine lv_iload_n hx hb dX11_lays_45 rfl (lv_at hl 1 rfl) ?_
            refine lv_iload_n hx hb dX11_lays_46 rfl (lv_at hl 3 rfl) ?_
            obtain ⟨x47, h47, hf⟩ := bd_of hf
            refine r_callV C hW hl lk_X11_132 (c_X11_label h47) ⟨rfl, rfl⟩ ⟨Nat.le_of_ble_eq_true rfl, Nat.le_of_ble_eq_true rfl⟩ rfl rfl rfl (As := [.int v1, .int v3]) (rest := [.ref (ad 8)]) rfl rfl (Nat.le_of_ble_eq_true rfl) dX11_lays_47 ⟨Nat.zero_le _, Nat.zero_le _⟩ (fun H locs hW => ?_)
            show W p l e (rmq 2 44) s m args below meth c H locs 0 0 Q (F0 m 50 ls [.int x47, .ref (ad 8)])
            refine lv_dup2_11 hx hb dX11_lays_50 rfl rfl ?_
            obtain ⟨hi8, hf⟩ := ck_of hf
            refine r_iald (n := 512) C hW rfl rfl hi8 dX11_lays_51 ?_
            refine lv_iconst (v := 1) hx hb dX11_lays_52 (by decide) ?_
            refine lv_aload_n hx hb dX11_lays_53 rfl (lv_at hl 0 rfl) ?_
            refine lv_iload_n hx hb dX11_lays_54 rfl (lv_at hl 2 rfl) ?_
            refine lv_iload_n hx hb dX11_lays_55 rfl (lv_at hl 3 rfl) ?_
            obtain ⟨x56, h56, hf⟩ := bd_of hf
            refine r_callV C hW hl lk_X11_124 (c_X11_noticeIn h56) ⟨rfl, rfl⟩ ⟨Nat.le_of_ble_eq_true rfl, Nat.le_of_ble_eq_true rfl⟩ rfl rfl rfl (As := [.int v2, .int v3]) (rest := [.int (1 : Int32), .int (μ (8, 0) x47.toNatClampNeg), .int x47, .ref (ad 8)]) rfl rfl (Nat.le_of_ble_eq_true rfl) dX11_lays_56 ⟨Nat.zero_le _, Nat.zero_le _⟩ (fun H locs hW => ?_)
            show W p l e (rmq 2 44) s m args below meth c H locs 0 0 Q (F0 m 59 ls [.int x56, .int (1 : Int32), .int (μ (8, 0) x47.toNatClampNeg), .int x47, .ref (ad 8)])
            refine lv_ishl hx hb dX11_lays_59 ?_
            refine lv_ior hx hb dX11_lays_60 ?_
            obtain ⟨hi10, hf⟩ := ck_of hf
            refine r_iast (n := 512) C hW rfl (fun _ => rfl) hi10 dX11_lays_61 (fun H locs hW => ?_)
            refine lv_iinc (v := (v3 + (1 : Int32))) (lv' := [(3, .int (v3 + (1 : Int32))), (0, .ref (ad 0)), (1, .int v1), (2, .int v2)]) hx hb dX11_lays_62 hl (k := 3) rfl rfl (by decide) rfl (fun ls hl => ?_)
            refine lv_goto (tgt := 24) hx hb dX11_lays_65 (by decide) ?_
            obtain rfl := Option.some.inj hf
            exact Kl1 _ rfl _ _ _ hW (lv_sub hl [1, 2, 3, 0] rfl)
      exact L24 μ v1 v2 (0 : Int32) _ _ _ hf hW (lv_sub hl [1, 2, 3, 0] rfl)
    · have hf := (if_neg c1).symm.trans hf
      refine lv_aload_n hx hb dX11_lays_9 rfl (lv_at hl 0 rfl) ?_
      refine gf_X11_30 C hW rfl rfl rfl dX11_lays_10 ?_
      refine lv_iload_n hx hb dX11_lays_13 rfl (lv_at hl 3 rfl) ?_
      refine lv_iconst (v := 0) hx hb dX11_lays_14 (by decide) ?_
      obtain ⟨hi12, hf⟩ := ck_of hf
      refine r_iast (n := 512) C hW rfl (fun _ => rfl) hi12 dX11_lays_15 (fun H locs hW => ?_)
      refine lv_iinc (v := (v3 + (1 : Int32))) (lv' := [(3, .int (v3 + (1 : Int32))), (0, .ref (ad 0)), (1, .int v1), (2, .int v2)]) hx hb dX11_lays_16 hl (k := 3) rfl rfl (by decide) rfl (fun ls hl => ?_)
      refine lv_goto (tgt := 2) hx hb dX11_lays_19 (by decide) ?_
      obtain rfl := Option.some.inj hf
      exact Kl1 _ rfl _ _ _ hW (lv_sub hl [1, 2, 3, 0] rfl)
  exact L2 μ v1 v2 (0 : Int32) _ _ _ hf hW (lv_sub hl [1, 2, 3, 0] rfl)
