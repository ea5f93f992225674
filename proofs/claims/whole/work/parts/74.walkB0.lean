set_option maxHeartbeats 4000000 in
set_option maxRecDepth 100000 in
theorem c_X1_at {l : Launch} {D : va_G} {tc : Nat → ClassId} {ro : Ro} {oa : Ky → Nat} {aa : Nat → Nat} {sh : Sh} {ln : Nat → Nat} {cl0 : Nat} {μ : Mm} {v1 : Int32} {res : Int32} (hwf : WfS sh) (hc0 : cex sh cl0 = true) (hf : f_X1_at sh ln cl0 μ v1 = some res) : Ct l D tc ro (faB oa aa sh) (feB tc oa aa sh ln) yX1_at cX1_at 2 (some .int) (rmq 0 0) [.ref (oa (11, cl0)), .int v1] μ (some (.int res)) μ := by
  refine Ct.of (by decide) (Nat.le_of_ble_eq_true rfl) (fun p e s m args below meth c A C hr hk hW ls hl => ?_)
  have hx := C.1.1
  have hb := C.1.2.1
  obtain ⟨Q, hQ⟩ : ∃ Q, Q = MQ below (Ctq D (faB oa aa sh) (feB tc oa aa sh ln) (some (.int res)) μ A) args s 0 0 A := ⟨_, rfl⟩
  rw [← hQ]
  have hl : lv_has ls 2 [(0, .ref (oa (11, cl0))), (1, .int v1)] := hl
  unfold f_X1_at at hf
  refine lv_iload_n hx hb dX1_at_0 rfl (lv_at hl 1 rfl) ?_
  refine lv_if_lt (tgt := 22) hx hb dX1_at_1 (by decide) (fun c1 => ?_) (fun c1 => ?_)
  · have hf := (if_pos c1).symm.trans hf
    refine lv_iconst (v := 0) hx hb dX1_at_22 (by decide) ?_
    obtain rfl := Option.some.inj hf
    rw [hQ]
    exact r_iret C hr hk hW rfl rfl dX1_at_23
  · have hf := (if_neg c1).symm.trans hf
    refine lv_iload_n hx hb dX1_at_4 rfl (lv_at hl 1 rfl) ?_
    refine lv_aload_n hx hb dX1_at_5 rfl (lv_at hl 0 rfl) ?_
    refine gf_X1_13 C hW hc0 dX1_at_6 ?_
    refine r_alen (k := ((12, cl0) : Ky)) (t := 0) (v := (nI (ln cl0))) C hW (faB_12 hc0) rfl rfl rfl dX1_at_9 ?_
    refine lv_icmp_ge (tgt := 22) hx hb dX1_at_10 (by decide) (fun c2 => ?_) (fun c2 => ?_)
    · have hf := (if_pos c2).symm.trans hf
      refine lv_iconst (v := 0) hx hb dX1_at_22 (by decide) ?_
      obtain rfl := Option.some.inj hf
      rw [hQ]
      exact r_iret C hr hk hW rfl rfl dX1_at_23
    · have hf := (if_neg c2).symm.trans hf
      refine lv_aload_n hx hb dX1_at_13 rfl (lv_at hl 0 rfl) ?_
      refine gf_X1_13 C hW hc0 dX1_at_14 ?_
      refine lv_iload_n hx hb dX1_at_17 rfl (lv_at hl 1 rfl) ?_
      obtain ⟨hi3, hf⟩ := ck_of hf
      refine r_iald (k := ((12, cl0) : Ky)) (n := ln cl0) C hW (faB_12 hc0) rfl hi3 dX1_at_18 ?_
      refine lv_goto (tgt := 23) hx hb dX1_at_19 (by decide) ?_
      obtain rfl := Option.some.inj hf
      rw [hQ]
      exact r_iret C hr hk hW rfl rfl dX1_at_23
set_option maxHeartbeats 4000000 in
set_option maxRecDepth 100000 in
theorem c_X1_put {l : Launch} {D : va_G} {tc : Nat → ClassId} {ro : Ro} {oa : Ky → Nat} {aa : Nat → Nat} {sh : Sh} {ln : Nat → Nat} {cl0 : Nat} {μ : Mm} {v1 v2 : Int32} {res : Mm} (hwf : WfS sh) (hc0 : cex sh cl0 = true) (hf : f_X1_put sh ln cl0 μ v1 v2 = some res) : Ct l D tc ro (faB oa aa sh) (feB tc oa aa sh ln) yX1_put cX1_put 3 none (rmq 0 0) [.ref (oa (11, cl0)), .int v1, .int v2] μ none res := by
  refine Ct.of (by decide) (Nat.le_of_ble_eq_true rfl) (fun p e s m args below meth c A C hr hk hW ls hl => ?_)
  have hx := C.1.1
  have hb := C.1.2.1
  obtain ⟨Q, hQ⟩ : ∃ Q, Q = MQ below (Ctq D (faB oa aa sh) (feB tc oa aa sh ln) none res A) args s 0 0 A := ⟨_, rfl⟩
  rw [← hQ]
  have hl : lv_has ls 3 [(0, .ref (oa (11, cl0))), (1, .int v1), (2, .int v2)] := hl
  unfold f_X1_put at hf
  refine lv_iload_n hx hb dX1_put_0 rfl (lv_at hl 1 rfl) ?_
  refine lv_if_lt (tgt := 20) hx hb dX1_put_1 (by decide) (fun c1 => ?_) (fun c1 => ?_)
  · have hf := (if_pos c1).symm.trans hf
    obtain rfl := Option.some.inj hf
    rw [hQ]
    exact r_vret C hr hk hW rfl rfl dX1_put_20
  · have hf := (if_neg c1).symm.trans hf
    refine lv_iload_n hx hb dX1_put_4 rfl (lv_at hl 1 rfl) ?_
    refine lv_aload_n hx hb dX1_put_5 rfl (lv_at hl 0 rfl) ?_
    refine gf_X1_13 C hW hc0 dX1_put_6 ?_
    refine r_alen (k := ((12, cl0) : Ky)) (t := 0) (v := (nI (ln cl0))) C hW (faB_12 hc0) rfl rfl rfl dX1_put_9 ?_
    refine lv_icmp_ge (tgt := 20) hx hb dX1_put_10 (by decide) (fun c2 => ?_) (fun c2 => ?_)
    · have hf := (if_pos c2).symm.trans hf
      obtain rfl := Option.some.inj hf
      rw [hQ]
      exact r_vret C hr hk hW rfl rfl dX1_put_20
    · have hf := (if_neg c2).symm.trans hf
      refine lv_aload_n hx hb dX1_put_13 rfl (lv_at hl 0 rfl) ?_
      refine gf_X1_13 C hW hc0 dX1_put_14 ?_
      refine lv_iload_n hx hb dX1_put_17 rfl (lv_at hl 1 rfl) ?_
      refine lv_iload_n hx hb dX1_put_18 rfl (lv_at hl 2 rfl) ?_
      obtain ⟨hi3, hf⟩ := ck_of hf
      refine r_iast (k := ((12, cl0) : Ky)) (n := ln cl0) C hW (faB_12 hc0) (fun _ => rfl) hi3 dX1_put_19 (fun H locs hW => ?_)
      obtain rfl := Option.some.inj hf
      rw [hQ]
      exact r_vret C hr hk hW rfl rfl dX1_put_20
set_option maxHeartbeats 4000000 in
set_option maxRecDepth 100000 in
theorem c_X1_addBits {l : Launch} {D : va_G} {tc : Nat → ClassId} {ro : Ro} {oa : Ky → Nat} {aa : Nat → Nat} {sh : Sh} {ln : Nat → Nat} {cl0 : Nat} {μ : Mm} {v1 v2 : Int32} {res : Mm} (hwf : WfS sh) (hc0 : cex sh cl0 = true) (hf : f_X1_addBits sh ln cl0 μ v1 v2 = some res) : Ct l D tc ro (faB oa aa sh) (feB tc oa aa sh ln) yX1_addBits cX1_addBits 3 none (rmq 1 22) [.ref (oa (11, cl0)), .int v1, .int v2] μ none res := by
  refine Ct.of (by decide) (Nat.le_of_ble_eq_true rfl) (fun p e s m args below meth c A C hr hk hW ls hl => ?_)
  have hx := C.1.1
  have hb := C.1.2.1
  obtain ⟨Q, hQ⟩ : ∃ Q, Q = MQ below (Ctq D (faB oa aa sh) (feB tc oa aa sh ln) none res A) args s 0 0 A := ⟨_, rfl⟩
  rw [← hQ]
  have hl : lv_has ls 3 [(0, .ref (oa (11, cl0))), (1, .int v1), (2, .int v2)] := hl
  unfold f_X1_addBits at hf
  refine lv_aload_n hx hb dX1_addBits_0 rfl (lv_at hl 0 rfl) ?_
  refine lv_iload_n hx hb dX1_addBits_1 rfl (lv_at hl 1 rfl) ?_
  refine lv_aload_n hx hb dX1_addBits_2 rfl (lv_at hl 0 rfl) ?_
  refine lv_iload_n hx hb dX1_addBits_3 rfl (lv_at hl 1 rfl) ?_
  obtain ⟨x4, h4, hf⟩ := bd_of hf
  refine r_callV (k := ((11, cl0) : Ky)) C hW hl lk_X1_19 (c_X1_at hwf hc0 h4) ⟨rfl, rfl⟩ ⟨Nat.le_of_ble_eq_true rfl, Nat.le_of_ble_eq_true rfl⟩ rfl (faB_11 hc0) rfl (As := [.int v1]) (rest := [.int v1, .ref (oa (11, cl0))]) rfl rfl (Nat.le_of_ble_eq_true rfl) dX1_addBits_4 ⟨Nat.zero_le _, Nat.zero_le _⟩ (fun H locs hW => ?_)
  show W p l e (rmq 1 22) s m args below meth c H locs 0 0 Q (F0 m 7 ls [.int x4, .int v1, .ref (oa (11, cl0))])
  refine lv_iload_n hx hb dX1_addBits_7 rfl (lv_at hl 2 rfl) ?_
  refine lv_ior hx hb dX1_addBits_8 ?_
  obtain ⟨x9, h9, hf⟩ := bd_of hf
  refine r_callV (k := ((11, cl0) : Ky)) C hW hl lk_X1_23 (c_X1_put hwf hc0 h9) ⟨rfl, rfl⟩ ⟨Nat.le_of_ble_eq_true rfl, Nat.le_of_ble_eq_true rfl⟩ rfl (faB_11 hc0) rfl (As := [.int v1, .int (x4 ||| v2)]) (rest := []) rfl rfl (Nat.le_of_ble_eq_true rfl) dX1_addBits_9 ⟨Nat.zero_le _, Nat.zero_le _⟩ (fun H locs hW => ?_)
  show W p l e (rmq 1 22) s m args below meth c H locs 0 0 Q (F0 m 12 ls [])
  obtain rfl := Option.some.inj hf
  rw [hQ]
  exact r_vret C hr hk hW rfl rfl dX1_addBits_12
set_option maxHeartbeats 4000000 in
set_option maxRecDepth 100000 in
theorem c_X1_grow {l : Launch} {D : va_G} {tc : Nat → ClassId} {ro : Ro} {oa : Ky → Nat} {aa : Nat → Nat} {sh : Sh} {ln : Nat → Nat} {cl0 : Nat} {μ : Mm} {v1 : Int32} {res : Mm} (hwf : WfS sh) (hc0 : cex sh cl0 = true) (hf : f_X1_grow sh ln cl0 μ v1 = some res) : Ct l D tc ro (faB oa aa sh) (feB tc oa aa sh ln) yX1_grow cX1_grow 2 none (rmq 0 0) [.ref (oa (11, cl0)), .int v1] μ none res := by
  refine Ct.of (by decide) (Nat.le_of_ble_eq_true rfl) (fun p e s m args below meth c A C hr hk hW ls hl => ?_)
  have hx := C.1.1
  have hb := C.1.2.1
  obtain ⟨Q, hQ⟩ : ∃ Q, Q = MQ below (Ctq D (faB oa aa sh) (feB tc oa aa sh ln) none res A) args s 0 0 A := ⟨_, rfl⟩
  rw [← hQ]
  have hl : lv_has ls 2 [(0, .ref (oa (11, cl0))), (1, .int v1)] := hl
  unfold f_X1_grow at hf
  refine lv_iload_n hx hb dX1_grow_0 rfl (lv_at hl 1 rfl) ?_
  refine lv_aload_n hx hb dX1_grow_1 rfl (lv_at hl 0 rfl) ?_
  refine gf_X1_13 C hW hc0 dX1_grow_2 ?_
  refine r_alen (k := ((12, cl0) : Ky)) (t := 0) (v := (nI (ln cl0))) C hW (faB_12 hc0) rfl rfl rfl dX1_grow_5 ?_
  refine lv_icmp_le (tgt := 21) hx hb dX1_grow_6 (by decide) (fun c1 => ?_) (fun c1 => ?_)
  · have hf := (if_pos c1).symm.trans hf
    obtain rfl := Option.some.inj hf
    rw [hQ]
    exact r_vret C hr hk hW rfl rfl dX1_grow_21
  · have hf := (if_neg c1).symm.trans hf
    refine lv_aload_n hx hb dX1_grow_9 rfl (lv_at hl 0 rfl) ?_
    refine lv_aload_n hx hb dX1_grow_10 rfl (lv_at hl 0 rfl) ?_
    refine gf_X1_13 C hW hc0 dX1_grow_11 ?_
    refine lv_iload_n hx hb dX1_grow_14 rfl (lv_at hl 1 rfl) ?_
    cases hf
set_option maxHeartbeats 4000000 in
set_option maxRecDepth 100000 in
theorem c_J7_rangeCheck_23922 {l : Launch} {D : va_G} {tc : Nat → ClassId} {ro : Ro} {fa : Fa} {fe : Fe} {μ : Mm} {v0 v1 v2 : Int32} {res : Unit} (hf : f_J7_rangeCheck_23922 v0 v1 v2 = some res) : Ct l D tc ro fa fe yJ7_rangeCheck_23922 cJ7_rangeCheck_23922 3 none (rmq 0 0) [.int v0, .int v1, .int v2] μ none μ := by
  refine Ct.of (by decide) (Nat.le_of_ble_eq_true rfl) (fun p e s m args below meth c A C hr hk hW ls hl => ?_)
  have hx := C.1.1
  have hb := C.1.2.1
  obtain ⟨Q, hQ⟩ : ∃ Q, Q = MQ below (Ctq D fa fe none μ A) args s 0 0 A := ⟨_, rfl⟩
  rw [← hQ]
  have hl : lv_has ls 3 [(0, .int v0), (1, .int v1), (2, .int v2)] := hl
  unfold f_J7_rangeCheck_23922 at hf
  refine lv_iload_n hx hb dJ7_rangeCheck_23922_0 rfl (lv_at hl 1 rfl) ?_
  refine lv_iload_n hx hb dJ7_rangeCheck_23922_1 rfl (lv_at hl 2 rfl) ?_
  refine lv_icmp_le (tgt := 46) hx hb dJ7_rangeCheck_23922_2 (by decide) (fun c1 => ?_) (fun c1 => ?_)
  · have hf := (if_pos c1).symm.trans hf
    refine lv_iload_n hx hb dJ7_rangeCheck_23922_46 rfl (lv_at hl 1 rfl) ?_
    refine lv_if_ge (tgt := 59) hx hb dJ7_rangeCheck_23922_47 (by decide) (fun c2 => ?_) (fun c2 => ?_)
    · have hf := (if_pos c2).symm.trans hf
      refine lv_iload_n hx hb dJ7_rangeCheck_23922_59 rfl (lv_at hl 2 rfl) ?_
      refine lv_iload_n hx hb dJ7_rangeCheck_23922_60 rfl (lv_at hl 0 rfl) ?_
      refine lv_icmp_le (tgt := 73) hx hb dJ7_rangeCheck_23922_61 (by decide) (fun c3 => ?_) (fun c3 => ?_)
      · have hf := (if_pos c3).symm.trans hf
        obtain rfl := Option.some.inj hf
        rw [hQ]
        exact r_vret C hr hk hW rfl rfl dJ7_rangeCheck_23922_73
      · have hf := (if_neg c3).symm.trans hf
        cases hf
    · have hf := (if_neg c2).symm.trans hf
      cases hf
  · have hf := (if_neg c1).symm.trans hf
    cases hf
set_option maxHeartbeats 4000000 in
set_option maxRecDepth 100000 in
theorem c_J7_fill_fda19 {l : Launch} {D : va_G} {tc : Nat → ClassId} {ro : Ro} {fa : Fa} {fe : Fe} {n0 : Nat} {k0 : Ky} {a0 : Nat} {μ : Mm} {v1 v2 v3 : Int32} {res : Mm} (ha0 : fa k0 = some a0) (he0 : ∀ r, fe k0 r = .inl (tc 0, n0, .inl r)) (hf : f_J7_fill_fda19 n0 k0 μ v1 v2 v3 = some res) : Ct l D tc ro fa fe yJ7_fill_fda19 cJ7_fill_fda19 5 none (rmq 1 22) [.ref a0, .int v1, .int v2, .int v3] μ none res := by
  refine Ct.of (by decide) (Nat.le_of_ble_eq_true rfl) (fun p e s m args below meth c A C hr hk hW ls hl => ?_)
  have hx := C.1.1
  have hb := C.1.2.1
  obtain ⟨Q, hQ⟩ : ∃ Q, Q = MQ below (Ctq D fa fe none res A) args s 0 0 A := ⟨_, rfl⟩
  rw [← hQ]
  have hl : lv_has ls 5 [(0, .ref a0), (1, .int v1), (2, .int v2), (3, .int v3)] := hl
  unfold f_J7_fill_fda19 at hf
  refine lv_aload_n hx hb dJ7_fill_fda19_0 rfl (lv_at hl 0 rfl) ?_
  refine r_alen (k := (k0 : Ky)) (t := 0) (v := (nI (n0))) C hW ha0 (he0 _) rfl rfl dJ7_fill_fda19_1 ?_
  refine lv_iload_n hx hb dJ7_fill_fda19_2 rfl (lv_at hl 1 rfl) ?_
  refine lv_iload_n hx hb dJ7_fill_fda19_3 rfl (lv_at hl 2 rfl) ?_
  obtain ⟨x4, h4, hf⟩ := bd_of hf
  refine r_callS C hW hl lk_J7_13 (c_J7_rangeCheck_23922 h4) ⟨rfl, rfl⟩ ⟨Nat.le_of_ble_eq_true rfl, Nat.le_of_ble_eq_true rfl⟩ (As := [.int (nI (n0)), .int v1, .int v2]) (rest := []) rfl rfl (Nat.le_of_ble_eq_true rfl) dJ7_fill_fda19_4 ⟨Nat.zero_le _, Nat.zero_le _⟩ (fun H locs hW => ?_)
  show W p l e (rmq 1 22) s m args below meth c H locs 0 0 Q (F0 m 7 ls [])
  refine lv_iload_n hx hb dJ7_fill_fda19_7 rfl (lv_at hl 1 rfl) ?_
  refine lv_istore (lv' := [(4, .int v1), (0, .ref a0), (1, .int v1), (2, .int v2), (3, .int v3)]) hx hb dJ7_fill_fda19_8 hl (by decide) rfl (fun ls hl => ?_)
  have L10 : ∀ (μ : Mm) (v4 : Int32) (H : Heap) (locs : List Loc) (ls : Array Slot), Wh (fun z : Mm × Int32 => f_J7_fill_fda19_L10 n0 k0 v2 v3 z.1 z.2) (μ, v4) = some res → Wd D fa fe A s.heap μ H locs → lv_has ls 5 [(0, .ref a0), (2, .int v2), (3, .int v3), (4, .int v4)] → W p l e (rmq 1 22) s m args below meth c H locs 0 0 Q (F0 m 10 ls []) := by
    intro μ v4 H locs ls hf hW hl
    refine Wh_rule hf (fun z : Mm × Int32 => ∀ (H : Heap) (locs : List Loc) (ls : Array Slot), Wd D fa fe A s.heap z.1 H locs → lv_has ls 5 [(0, .ref a0), (2, .int v2), (3, .int v3), (4, .int z.2)] → W p l e (rmq 1 22) s m args below meth c H locs 0 0 Q (F0 m 10 ls [])) (fun z o1 hf Kl1 Kr1 => ?_) _ _ _ hW hl
    obtain ⟨μ, v4⟩ := z
    intro H locs ls hW hl
    have hf : f_J7_fill_fda19_L10 n0 k0 v2 v3 μ v4 = some o1 := hf
    unfold f_J7_fill_fda19_L10 at hf
    have hW : Wd D fa fe A s.heap μ H locs := hW
    have hl : lv_has ls 5 [(0, .ref a0), (2, .int v2), (3, .int v3), (4, .int v4)] := hl
    refine lv_iload hx hb dJ7_fill_fda19_10 (lv_at hl 3 rfl) ?_
    refine lv_iload_n hx hb dJ7_fill_fda19_12 rfl (lv_at hl 1 rfl) ?_
    refine lv_icmp_ge (tgt := 27) hx hb dJ7_fill_fda19_13 (by decide) (fun c1 => ?_) (fun c1 => ?_)
    · have hf := (if_pos c1).symm.trans hf
      obtain ⟨x9002, hf, hx9002⟩ := map_of hf
      have e9002 := (Kr1 _ hx9002.symm).symm
      subst e9002
      obtain rfl := Option.some.inj hf
      rw [hQ]
      exact r_vret C hr hk hW rfl rfl dJ7_fill_fda19_27
    · have hf := (if_neg c1).symm.trans hf
      refine lv_aload_n hx hb dJ7_fill_fda19_16 rfl (lv_at hl 0 rfl) ?_
      refine lv_iload hx hb dJ7_fill_fda19_17 (lv_at hl 3 rfl) ?_
      refine lv_iload_n hx hb dJ7_fill_fda19_19 rfl (lv_at hl 2 rfl) ?_
      obtain ⟨hi3, hf⟩ := ck_of hf
      refine r_iast (k := (k0 : Ky)) (n := n0) C hW ha0 he0 hi3 dJ7_fill_fda19_20 (fun H locs hW => ?_)
      refine lv_iinc (v := (v4 + (1 : Int32))) (lv' := [(4, .int (v4 + (1 : Int32))), (0, .ref a0), (2, .int v2), (3, .int v3)]) hx hb dJ7_fill_fda19_21 hl (k := 3) rfl rfl (by decide) rfl (fun ls hl => ?_)
      refine lv_goto (tgt := 10) hx hb dJ7_fill_fda19_24 (by decide) ?_
      obtain rfl := Option.some.inj hf
      exact Kl1 _ rfl _ _ _ hW (lv_sub hl [1, 2, 3, 0] rfl)
  exact L10 μ v1 _ _ _ hf hW (lv_sub hl [1, 3, 4, 0] rfl)
set_option maxHeartbeats 4000000 in
set_option maxRecDepth 100000 in
theorem c_X1_fill {l : Launch} {D : va_G} {tc : Nat → ClassId} {ro : Ro} {oa : Ky → Nat} {aa : Nat → Nat} {sh : Sh} {ln : Nat → Nat} {cl0 : Nat} {μ : Mm} {v1 v2 : Int32} {res : Mm} (hwf : WfS sh) (hc0 : cex sh cl0 = true) (hf : f_X1_fill sh ln cl0 μ v1 v2 = some res) : Ct l D tc ro (faB oa aa sh) (feB tc oa aa sh ln) yX1_fill cX1_fill 3 none (rmq 2 46) [.ref (oa (11, cl0)), .int v1, .int v2] μ none res := by
  refine Ct.of (by decide) (Nat.le_of_ble_eq_true rfl) (fun p e s m args below meth c A C hr hk hW ls hl => ?_)
  have hx := C.1.1
  have hb := C.1.2.1
  obtain ⟨Q, hQ⟩ : ∃ Q, Q = MQ below (Ctq D (faB oa aa sh) (feB tc oa aa sh ln) none res A) args s 0 0 A := ⟨_, rfl⟩
  rw [← hQ]
  have hl : lv_has ls 3 [(0, .ref (oa (11, cl0))), (1, .int v1), (2, .int v2)] := hl
  unfold f_X1_fill at hf
  refine lv_aload_n hx hb dX1_fill_0 rfl (lv_at hl 0 rfl) ?_
  refine gf_X1_13 C hW hc0 dX1_fill_1 ?_
  refine lv_iconst (v := 0) hx hb dX1_fill_4 (by decide) ?_
  refine lv_iconst (v := 0) hx hb dX1_fill_5 (by decide) ?_
  refine lv_iload_n hx hb dX1_fill_6 rfl (lv_at hl 2 rfl) ?_
  refine lv_aload_n hx hb dX1_fill_7 rfl (lv_at hl 0 rfl) ?_
  refine gf_X1_13 C hW hc0 dX1_fill_8 ?_
  refine r_alen (k := ((12, cl0) : Ky)) (t := 0) (v := (nI (ln cl0))) C hW (faB_12 hc0) rfl rfl rfl dX1_fill_11 ?_
  refine r_mmin C hl kw_559 kw_560 kw_140 kw_561 (Nat.le_of_ble_eq_true rfl) (Nat.le_of_ble_eq_true rfl) ⟨Nat.zero_le _, Nat.zero_le _⟩ dX1_fill_12 ?_
  refine r_mmax C hl kw_190 kw_191 kw_140 kw_192 (Nat.le_of_ble_eq_true rfl) (Nat.le_of_ble_eq_true rfl) ⟨Nat.zero_le _, Nat.zero_le _⟩ dX1_fill_15 ?_
  refine lv_iload_n hx hb dX1_fill_18 rfl (lv_at hl 1 rfl) ?_
  obtain ⟨x19, h19, hf⟩ := bd_of hf
  refine r_callS C hW hl lk_X1_36 (c_J7_fill_fda19 (faB_12 hc0) (fun _ => rfl) h19) ⟨rfl, rfl⟩ ⟨Nat.le_of_ble_eq_true rfl, Nat.le_of_ble_eq_true rfl⟩ (As := [.ref (aa cl0), .int (0 : Int32), .int (if (0 : Int32) < (if (nI (ln cl0)) < v2 then (nI (ln cl0)) else v2) then (if (nI (ln cl0)) < v2 then (nI (ln cl0)) else v2) else (0 : Int32)), .int v1]) (rest := []) rfl rfl (Nat.le_of_ble_eq_true rfl) dX1_fill_19 ⟨Nat.zero_le _, Nat.zero_le _⟩ (fun H locs hW => ?_)
  show W p l e (rmq 2 46) s m args below meth c H locs 0 0 Q (F0 m 22 ls [])
  obtain rfl := Option.some.inj hf
  rw [hQ]
  exact r_vret C hr hk hW rfl rfl dX1_fill_22
set_option maxHeartbeats 4000000 in
set_option maxRecDepth 100000 in
theorem c_X1_become {l : Launch} {D : va_G} {tc : Nat → ClassId} {ro : Ro} {oa : Ky → Nat} {aa : Nat → Nat} {sh : Sh} {ln : Nat → Nat} {cl0 cl1 : Nat} {μ : Mm} {v2 : Int32} {res : Mm} (hwf : WfS sh) (hc0 : cex sh cl0 = true) (hc1 : cex sh cl1 = true) (hf : f_X1_become sh ln cl0 cl1 μ v2 = some res) : Ct l D tc ro (faB oa aa sh) (feB tc oa aa sh ln) yX1_become cX1_become 4 none (rmq 1 60) [.ref (oa (11, cl0)), .ref (oa (11, cl1)), .int v2] μ none res := by
  refine Ct.of (by decide) (Nat.le_of_ble_eq_true rfl) (fun p e s m args below meth c A C hr hk hW ls hl => ?_)
  have hx := C.1.1
  have hb := C.1.2.1
  obtain ⟨Q, hQ⟩ : ∃ Q, Q = MQ below (Ctq D (faB oa aa sh) (feB tc oa aa sh ln) none res A) args s 0 0 A := ⟨_, rfl⟩
  rw [← hQ]
  have hl : lv_has ls 4 [(0, .ref (oa (11, cl0))), (1, .ref (oa (11, cl1))), (2, .int v2)] := hl
  unfold f_X1_become at hf
  refine lv_aload_n hx hb dX1_become_0 rfl (lv_at hl 1 rfl) ?_
  refine lv_ifnonnull (tgt := 5) hx hb dX1_become_1 (by decide) ?_
  refine lv_iconst (v := 0) hx hb dX1_become_5 (by decide) ?_
  refine lv_iload_n hx hb dX1_become_6 rfl (lv_at hl 2 rfl) ?_
  refine lv_aload_n hx hb dX1_become_7 rfl (lv_at hl 1 rfl) ?_
  refine gf_X1_13 C hW hc1 dX1_become_8 ?_
  refine r_alen (k := ((12, cl1) : Ky)) (t := 0) (v := (nI (ln cl1))) C hW (faB_12 hc1) rfl rfl rfl dX1_become_11 ?_
  refine r_mmin C hl kw_559 kw_560 kw_140 kw_561 (Nat.le_of_ble_eq_true rfl) (Nat.le_of_ble_eq_true rfl) ⟨Nat.zero_le _, Nat.zero_le _⟩ dX1_become_12 ?_
  refine r_mmax C hl kw_190 kw_191 kw_140 kw_192 (Nat.le_of_ble_eq_true rfl) (Nat.le_of_ble_eq_true rfl) ⟨Nat.zero_le _, Nat.zero_le _⟩ dX1_become_15 ?_
  refine lv_istore_n (lv' := [(3, .int (if (0 : Int32) < (if (nI (ln cl1)) < v2 then (nI (ln cl1)) else v2) then (if (nI (ln cl1)) < v2 then (nI (ln cl1)) else v2) else (0 : Int32))), (0, .ref (oa (11, cl0))), (1, .ref (oa (11, cl1))), (2, .int v2)]) hx hb dX1_become_18 rfl hl (by decide) rfl (fun ls hl => ?_)
  refine lv_aload_n hx hb dX1_become_19 rfl (lv_at hl 1 rfl) ?_
  refine lv_iload_n hx hb dX1_become_20 rfl (lv_at hl 0 rfl) ?_
  obtain ⟨x21, h21, hf⟩ := bd_of hf
  refine r_callV (k := ((11, cl0) : Ky)) C hW hl lk_X1_40 (c_X1_grow hwf hc0 h21) ⟨rfl, rfl⟩ ⟨Nat.le_of_ble_eq_true rfl, Nat.le_of_ble_eq_true rfl⟩ rfl (faB_11 hc0) rfl (As := [.int (if (0 : Int32) < (if (nI (ln cl1)) < v2 then (nI (ln cl1)) else v2) then (if (nI (ln cl1)) < v2 then (nI (ln cl1)) else v2) else (0 : Int32))]) (rest := []) rfl rfl (Nat.le_of_ble_eq_true rfl) dX1_become_21 ⟨Nat.zero_le _, Nat.zero_le _⟩ (fun H locs hW => ?_)
  show W p l e (rmq 1 60) s m args below meth c H locs 0 0 Q (F0 m 24 ls [])
  refine lv_aload_n hx hb dX1_become_24 rfl (lv_at hl 2 rfl) ?_
  refine gf_X1_13 C hW hc1 dX1_become_25 ?_
  refine lv_iconst (v := 0) hx hb dX1_become_28 (by decide) ?_
  refine lv_aload_n hx hb dX1_become_29 rfl (lv_at hl 1 rfl) ?_
  refine gf_X1_13 C hW hc0 dX1_become_30 ?_
  refine lv_iconst (v := 0) hx hb dX1_become_33 (by decide) ?_
  refine lv_iload_n hx hb dX1_become_34 rfl (lv_at hl 0 rfl) ?_
  obtain ⟨hi1, hf⟩ := cc_of hf
  refine r_copy (k := ((12, cl1) : Ky)) (k2 := ((12, cl0) : Ky)) (n1 := ln cl1) (n2 := ln cl0) C hW hl kw_580 kw_579 kw_578 kw_150 (Nat.le_of_ble_eq_true rfl) (Nat.le_of_ble_eq_true rfl) (faB_12 hc1) (fun _ => rfl) (faB_12 hc0) (fun _ => rfl) hi1 dX1_become_35 (fun H locs hW => ?_)
  obtain rfl := Option.some.inj hf
  rw [hQ]
  exact r_vret C hr hk hW rfl rfl dX1_become_38
set_option maxHeartbeats 4000000 in
set_option maxRecDepth 100000 in
theorem c_X2_lines {l : Launch} {D : va_G} {tc : Nat → ClassId} {ro : Ro} {oa : Ky → Nat} {aa : Nat → Nat} {sh : Sh} {ln : Nat → Nat} {i0 : Nat} {μ : Mm} {res : Int32} (hwf : WfS sh) (hi0 : i0 < sh 4 2) (hf : f_X2_lines sh ln i0 μ = some res) : Ct l D tc ro (faB oa aa sh) (feB tc oa aa sh ln) yX2_lines cX2_lines 1 (some .int) (rmq 0 0) [.ref (oa (14, i0))] μ (some (.int res)) μ := by
  refine Ct.of (by decide) (Nat.le_of_ble_eq_true rfl) (fun p e s m args below meth c A C hr hk hW ls hl => ?_)
  have hx := C.1.1
  have hb := C.1.2.1
  obtain ⟨Q, hQ⟩ : ∃ Q, Q = MQ below (Ctq D (faB oa aa sh) (feB tc oa aa sh ln) (some (.int res)) μ A) args s 0 0 A := ⟨_, rfl⟩
  rw [← hQ]
  have hl : lv_has ls 1 [(0, .ref (oa (14, i0)))] := hl
  unfold f_X2_lines at hf
  refine lv_aload_n hx hb dX2_lines_0 rfl (lv_at hl 0 rfl) ?_
  refine gf_X2_13 C hW hi0 dX2_lines_1 ?_
  obtain rfl := Option.some.inj hf
  rw [hQ]
  exact r_iret C hr hk hW rfl rfl dX2_lines_4
set_option maxHeartbeats 4000000 in
set_option maxRecDepth 100000 in
theorem c_X2_joined {l : Launch} {D : va_G} {tc : Nat → ClassId} {ro : Ro} {oa : Ky → Nat} {aa : Nat → Nat} {sh : Sh} {ln : Nat → Nat} {μ : Mm} {v0 v1 v2 : Int32} {res : Int32} (hf : f_X2_joined v0 v1 v2 = some res) : Ct l D tc ro (faB oa aa sh) (feB tc oa aa sh ln) yX2_joined cX2_joined 3 (some .int) (rmq 0 0) [.int v0, .int v1, .int v2] μ (some (.int res)) μ := by
  refine Ct.of (by decide) (Nat.le_of_ble_eq_true rfl) (fun p e s m args below meth c A C hr hk hW ls hl => ?_)
  have hx := C.1.1
  have hb := C.1.2.1
  obtain ⟨Q, hQ⟩ : ∃ Q, Q = MQ below (Ctq D (faB oa aa sh) (feB tc oa aa sh ln) (some (.int res)) μ A) args s 0 0 A := ⟨_, rfl⟩
  rw [← hQ]
  have hl : lv_has ls 3 [(0, .int v0), (1, .int v1), (2, .int v2)] := hl
  unfold f_X2_joined at hf
  refine lv_iload_n hx hb dX2_joined_0 rfl (lv_at hl 0 rfl) ?_
  by_cases c2 : v0 = (2000 : Int32)
  · have hf := (if_pos c2).symm.trans hf
    refine lv_tableIn (off := 35) (tgt := 36) hx hb dX2_joined_1 (by rw [c2]; decide) (by rw [c2]; decide) (by rw [c2]; rfl) (by decide) ?_
    refine lv_iload_n hx hb dX2_joined_36 rfl (lv_at hl 1 rfl) ?_
    refine lv_iload_n hx hb dX2_joined_37 rfl (lv_at hl 2 rfl) ?_
    refine lv_iadd hx hb dX2_joined_38 ?_
    obtain rfl := Option.some.inj hf
    rw [hQ]
    exact r_iret C hr hk hW rfl rfl dX2_joined_39
  · have hf := (if_neg c2).symm.trans hf
    have n2 := lv_neT c2 (a := 2000) (by decide)
    by_cases c3 : v0 = (2001 : Int32)
    · have hf := (if_pos c3).symm.trans hf
      refine lv_tableIn (off := 39) (tgt := 40) hx hb dX2_joined_1 (by rw [c3]; decide) (by rw [c3]; decide) (by rw [c3]; rfl) (by decide) ?_
      refine lv_iload_n hx hb dX2_joined_40 rfl (lv_at hl 1 rfl) ?_
      refine lv_iload_n hx hb dX2_joined_41 rfl (lv_at hl 2 rfl) ?_
      refine lv_icmp_ge (tgt := 49) hx hb dX2_joined_42 (by decide) (fun c4 => ?_) (fun c4 => ?_)
      · have hf := (if_pos c4).symm.trans hf
        refine lv_iconst (v := 0) hx hb dX2_joined_49 (by decide) ?_
        obtain rfl := Option.some.inj hf
        rw [hQ]
        exact r_iret C hr hk hW rfl rfl dX2_joined_50
      · have hf := (if_neg c4).symm.trans hf
        refine lv_iconst (v := 1) hx hb dX2_joined_45 (by decide) ?_
        refine lv_goto (tgt := 50) hx hb dX2_joined_46 (by decide) ?_
        obtain rfl := Option.some.inj hf
        rw [hQ]
        exact r_iret C hr hk hW rfl rfl dX2_joined_50
    · have hf := (if_neg c3).symm.trans hf
      have n3 := lv_neT c3 (a := 2001) (by decide)
      by_cases c5 : v0 = (2002 : Int32)
      · have hf := (if_pos c5).symm.trans hf
        refine lv_tableIn (off := 50) (tgt := 51) hx hb dX2_joined_1 (by rw [c5]; decide) (by rw [c5]; decide) (by rw [c5]; rfl) (by decide) ?_
        refine lv_iload_n hx hb dX2_joined_51 rfl (lv_at hl 1 rfl) ?_
        refine lv_iload_n hx hb dX2_joined_52 rfl (lv_at hl 2 rfl) ?_
        refine lv_icmp_le (tgt := 60) hx hb dX2_joined_53 (by decide) (fun c6 => ?_) (fun c6 => ?_)
        · have hf := (if_pos c6).symm.trans hf
          refine lv_iconst (v := 0) hx hb dX2_joined_60 (by decide) ?_
          obtain rfl := Option.some.inj hf
          rw [hQ]
          exact r_iret C hr hk hW rfl rfl dX2_joined_61
        · have hf := (if_neg c6).symm.trans hf
          refine lv_iconst (v := 1) hx hb dX2_joined_56 (by decide) ?_
          refine lv_goto (tgt := 61) hx hb dX2_joined_57 (by decide) ?_
          obtain rfl := Option.some.inj hf
          rw [hQ]
          exact r_iret C hr hk hW rfl rfl dX2_joined_61
      · have hf := (if_neg c5).symm.trans hf
        have n5 := lv_neT c5 (a := 2002) (by decide)
        by_cases c7 : v0 = (2003 : Int32)
        · have hf := (if_pos c7).symm.trans hf
          refine lv_tableIn (off := 65) (tgt := 66) hx hb dX2_joined_1 (by rw [c7]; decide) (by rw [c7]; decide) (by rw [c7]; rfl) (by decide) ?_
          refine lv_iload_n hx hb dX2_joined_66 rfl (lv_at hl 1 rfl) ?_
          refine lv_iload_n hx hb dX2_joined_67 rfl (lv_at hl 2 rfl) ?_
          refine lv_ior hx hb dX2_joined_68 ?_
          obtain rfl := Option.some.inj hf
          rw [hQ]
          exact r_iret C hr hk hW rfl rfl dX2_joined_69
        · have hf := (if_neg c7).symm.trans hf
          have n7 := lv_neT c7 (a := 2003) (by decide)
          by_cases c8 : v0 = (2004 : Int32)
          · have hf := (if_pos c8).symm.trans hf
            refine lv_tableIn (off := 61) (tgt := 62) hx hb dX2_joined_1 (by rw [c8]; decide) (by rw [c8]; decide) (by rw [c8]; rfl) (by decide) ?_
            refine lv_iload_n hx hb dX2_joined_62 rfl (lv_at hl 1 rfl) ?_
            refine lv_iload_n hx hb dX2_joined_63 rfl (lv_at hl 2 rfl) ?_
            refine lv_iand hx hb dX2_joined_64 ?_
            obtain rfl := Option.some.inj hf
            rw [hQ]
            exact r_iret C hr hk hW rfl rfl dX2_joined_65
          · have hf := (if_neg c8).symm.trans hf
            have n8 := lv_neT c8 (a := 2004) (by decide)
            refine lv_tableOut (tgt := 66) hx hb dX2_joined_1 (by omega) (by decide) ?_
            refine lv_iload_n hx hb dX2_joined_66 rfl (lv_at hl 1 rfl) ?_
            refine lv_iload_n hx hb dX2_joined_67 rfl (lv_at hl 2 rfl) ?_
            refine lv_ior hx hb dX2_joined_68 ?_
            obtain rfl := Option.some.inj hf
            rw [hQ]
            exact r_iret C hr hk hW rfl rfl dX2_joined_69
set_option maxHeartbeats 4000000 in
set_option maxRecDepth 100000 in
theorem c_X2_total {l : Launch} {D : va_G} {tc : Nat → ClassId} {ro : Ro} {oa : Ky → Nat} {aa : Nat → Nat} {sh : Sh} {ln : Nat → Nat} {i0 cl1 cl2 : Nat} {μ : Mm} {res : Int32 × Mm} (hwf : WfS sh) (hi0 : i0 < sh 4 2) (hc1 : cex sh cl1 = true) (hc2 : cex sh cl2 = true) (hf : f_X2_total sh ln i0 cl1 cl2 μ = some res) : Ct l D tc ro (faB oa aa sh) (feB tc oa aa sh ln) yX2_total cX2_total 9 (some .int) (rmq 1 22) [.ref (oa (14, i0)), .ref (oa (11, cl1)), .ref (oa (11, cl2))] μ (some (.int res.1)) res.2 := by
  refine Ct.of (by decide) (Nat.le_of_ble_eq_true rfl) (fun p e s m args below meth c A C hr hk hW ls hl => ?_)
  have hx := C.1.1
  have hb := C.1.2.1
  obtain ⟨Q, hQ⟩ : ∃ Q, Q = MQ below (Ctq D (faB oa aa sh) (feB tc oa aa sh ln) (some (.int res.1)) res.2 A) args s 0 0 A := ⟨_, rfl⟩
  rw [← hQ]
  have hl : lv_has ls 9 [(0, .ref (oa (14, i0))), (1, .ref (oa (11, cl1))), (2, .ref (oa (11, cl2)))] := hl
  unfold f_X2_total at hf
  refine lv_iconst (v := 0) hx hb dX2_total_0 (by decide) ?_
  refine lv_istore_n (lv' := [(3, .int (0 : Int32)), (0, .ref (oa (14, i0))), (1, .ref (oa (11, cl1))), (2, .ref (oa (11, cl2)))]) hx hb dX2_total_1 rfl hl (by decide) rfl (fun ls hl => ?_)
  refine lv_iconst (v := 0) hx hb dX2_total_2 (by decide) ?_
  refine lv_istore (lv' := [(4, .int (0 : Int32)), (3, .int (0 : Int32)), (0, .ref (oa (14, i0))), (1, .ref (oa (11, cl1))), (2, .ref (oa (11, cl2)))]) hx hb dX2_total_3 hl (by decide) rfl (fun ls hl => ?_)
  refine lv_iconst (v := 0) hx hb dX2_total_5 (by decide) ?_
  refine lv_istore (lv' := [(5, .int (0 : Int32)), (4, .int (0 : Int32)), (3, .int (0 : Int32)), (0, .ref (oa (14, i0))), (1, .ref (oa (11, cl1))), (2, .ref (oa (11, cl2)))]) hx hb dX2_total_6 hl (by decide) rfl (fun ls hl => ?_)
  have L8 : ∀ (μ : Mm) (v3 v4 v5 : Int32) (H : Heap) (locs : List Loc) (ls : Array Slot), Wh (fun z : Mm × Int32 × Int32 × Int32 => f_X2_total_L8 sh ln i0 cl1 cl2 z.1 z.2.1 z.2.2.1 z.2.2.2) (μ, v3, v4, v5) = some res → Wd D (faB oa aa sh) (feB tc oa aa sh ln) A s.heap μ H locs → lv_has ls 9 [(0, .ref (oa (14, i0))), (1, .ref (oa (11, cl1))), (2, .ref (oa (11, cl2))), (3, .int v3), (4, .int v4), (5, .int v5)] → W p l e (rmq 1 22) s m args below meth c H locs 0 0 Q (F0 m 8 ls []) := by
    intro μ v3 v4 v5 H locs ls hf hW hl
    refine Wh_rule hf (fun z : Mm × Int32 × Int32 × Int32 => ∀ (H : Heap) (locs : List Loc) (ls : Array Slot), Wd D (faB oa aa sh) (feB tc oa aa sh ln) A s.heap z.1 H locs → lv_has ls 9 [(0, .ref (oa (14, i0))), (1, .ref (oa (11, cl1))), (2, .ref (oa (11, cl2))), (3, .int z.2.1), (4, .int z.2.2.1), (5, .int z.2.2.2)] → W p l e (rmq 1 22) s m args below meth c H locs 0 0 Q (F0 m 8 ls [])) (fun z o1 hf Kl1 Kr1 => ?_) _ _ _ hW hl
    obtain ⟨μ, v3, v4, v5⟩ := z
    intro H locs ls hW hl
    have hf : f_X2_total_L8 sh ln i0 cl1 cl2 μ v3 v4 v5 = some o1 := hf
    unfold f_X2_total_L8 at hf
    have hW : Wd D (faB oa aa sh) (feB tc oa aa sh ln) A s.heap μ H locs := hW
    have hl : lv_has ls 9 [(0, .ref (oa (14, i0))), (1, .ref (oa (11, cl1))), (2, .ref (oa (11, cl2))), (3, .int v3), (4, .int v4), (5, .int v5)] := hl
    refine lv_iload hx hb dX2_total_8 (lv_at hl 5 rfl) ?_
    refine lv_aload_n hx hb dX2_total_10 rfl (lv_at hl 0 rfl) ?_
    refine gf_X2_7 C hW hi0 dX2_total_11 ?_
    refine r_alen (k := ((15, i0) : Ky)) (t := 0) (v := (nI (sh 1 i0))) C hW (faB_15 hi0) rfl rfl rfl dX2_total_14 ?_
    refine lv_icmp_ge (tgt := 183) hx hb dX2_total_15 (by decide) (fun c1 => ?_) (fun c1 => ?_)
    · have hf := (if_pos c1).symm.trans hf
      obtain ⟨x9002, hf, hx9002⟩ := map_of hf
      have e9002 := (Kr1 _ hx9002.symm).symm
      subst e9002
      refine lv_iload_n hx hb dX2_total_183 rfl (lv_at hl 3 rfl) ?_
      obtain rfl := Option.some.inj hf
      rw [hQ]
      exact r_iret C hr hk hW rfl rfl dX2_total_184
    · have hf := (if_neg c1).symm.trans hf
      refine lv_aload_n hx hb dX2_total_18 rfl (lv_at hl 0 rfl) ?_
      refine gf_X2_7 C hW hi0 dX2_total_19 ?_
      refine lv_iload hx hb dX2_total_22 (lv_at hl 5 rfl) ?_
      obtain ⟨hi3, hf⟩ := ck_of hf
      refine r_iald (k := ((15, i0) : Ky)) (n := sh 1 i0) C hW (faB_15 hi0) rfl hi3 dX2_total_24 ?_
      refine lv_istore (lv' := [(6, .int (μ (15, i0) v5.toNatClampNeg)), (0, .ref (oa (14, i0))), (1, .ref (oa (11, cl1))), (2, .ref (oa (11, cl2))), (3, .int v3), (4, .int v4), (5, .int v5)]) hx hb dX2_total_25 hl (by decide) rfl (fun ls hl => ?_)
      refine lv_iload hx hb dX2_total_27 (lv_at hl 0 rfl) ?_
      refine lv_sipush (v := 1000) hx hb dX2_total_29 (by decide) ?_
      refine lv_icmp_ge (tgt := 49) hx hb dX2_total_32 (by decide) (fun c4 => ?_) (fun c4 => ?_)
      · have hf := (if_pos c4).symm.trans hf
        refine lv_iload hx hb dX2_total_49 (lv_at hl 0 rfl) ?_
        refine lv_sipush (v := 2000) hx hb dX2_total_51 (by decide) ?_
        refine lv_icmp_ge (tgt := 79) hx hb dX2_total_54 (by decide) (fun c5 => ?_) (fun c5 => ?_)
        · have hf := (if_pos c5).symm.trans hf
          refine lv_iload hx hb dX2_total_79 (lv_at hl 0 rfl) ?_
          refine lv_sipush (v := 2003) hx hb dX2_total_81 (by decide) ?_
          refine lv_icmp_ne (tgt := 108) hx hb dX2_total_84 (by decide) (fun c6 => ?_) (fun c6 => ?_)
          · have hf := (if_neg c6).symm.trans hf
            refine lv_aload_n hx hb dX2_total_108 rfl (lv_at hl 3 rfl) ?_
            refine lv_iload hx hb dX2_total_109 (lv_at hl 5 rfl) ?_
            refine lv_iconst (v := 2) hx hb dX2_total_111 (by decide) ?_
            refine lv_isub hx hb dX2_total_112 ?_
            obtain ⟨x113, h113, hf⟩ := bd_of hf
            refine r_callV (k := ((11, cl2) : Ky)) C hW hl lk_X2_23 (c_X1_at hwf hc2 h113) ⟨rfl, rfl⟩ ⟨Nat.le_of_ble_eq_true rfl, Nat.le_of_ble_eq_true rfl⟩ rfl (faB_11 hc2) rfl (As := [.int (v4 - (2 : Int32))]) (rest := []) rfl rfl (Nat.le_of_ble_eq_true rfl) dX2_total_113 ⟨Nat.zero_le _, Nat.zero_le _⟩ (fun H locs hW => ?_)
            show W p l e (rmq 1 22) s m args below meth c H locs 0 0 Q (F0 m 116 ls [.int x113])
            refine lv_istore (lv' := [(7, .int x113), (6, .int (μ (15, i0) v5.toNatClampNeg)), (0, .ref (oa (14, i0))), (1, .ref (oa (11, cl1))), (2, .ref (oa (11, cl2))), (3, .int v3), (4, .int v4), (5, .int v5)]) hx hb dX2_total_116 hl (by decide) rfl (fun ls hl => ?_)
            refine lv_aload_n hx hb dX2_total_118 rfl (lv_at hl 4 rfl) ?_
            refine lv_iload hx hb dX2_total_119 (lv_at hl 6 rfl) ?_
            refine lv_iconst (v := 1) hx hb dX2_total_121 (by decide) ?_
            refine lv_isub hx hb dX2_total_122 ?_
            obtain ⟨x123, h123, hf⟩ := bd_of hf
            refine r_callV (k := ((11, cl2) : Ky)) C hW hl lk_X2_23 (c_X1_at hwf hc2 h123) ⟨rfl, rfl⟩ ⟨Nat.le_of_ble_eq_true rfl, Nat.le_of_ble_eq_true rfl⟩ rfl (faB_11 hc2) rfl (As := [.int (v4 - (1 : Int32))]) (rest := []) rfl rfl (Nat.le_of_ble_eq_true rfl) dX2_total_123 ⟨Nat.zero_le _, Nat.zero_le _⟩ (fun H locs hW => ?_)
            show W p l e (rmq 1 22) s m args below meth c H locs 0 0 Q (F0 m 126 ls [.int x123])
            refine lv_istore (lv' := [(8, .int x123), (7, .int x113), (6, .int (μ (15, i0) v5.toNatClampNeg)), (0, .ref (oa (14, i0))), (1, .ref (oa (11, cl1))), (2, .ref (oa (11, cl2))), (3, .int v3), (4, .int v4), (5, .int v5)]) hx hb dX2_total_126 hl (by decide) rfl (fun ls hl => ?_)
            refine lv_iload hx hb dX2_total_128 (lv_at hl 2 rfl) ?_
            refine lv_sipush (v := 2006) hx hb dX2_total_130 (by decide) ?_
            refine lv_icmp_ne (tgt := 157) hx hb dX2_total_133 (by decide) (fun c7 => ?_) (fun c7 => ?_)
            · have hf := (if_neg c7).symm.trans hf
              refine lv_aload_n hx hb dX2_total_157 rfl (lv_at hl 5 rfl) ?_
              refine lv_iload hx hb dX2_total_158 (lv_at hl 7 rfl) ?_
              refine lv_iconst (v := 2) hx hb dX2_total_160 (by decide) ?_
              refine lv_isub hx hb dX2_total_161 ?_
              refine lv_iload hx hb dX2_total_162 (lv_at hl 2 rfl) ?_
              refine lv_iload hx hb dX2_total_164 (lv_at hl 1 rfl) ?_
              refine lv_iload hx hb dX2_total_166 (lv_at hl 0 rfl) ?_
              obtain ⟨x168, h168, hf⟩ := bd_of hf
              refine r_callS C hW hl lk_X2_27 (c_X2_joined h168) ⟨rfl, rfl⟩ ⟨Nat.le_of_ble_eq_true rfl, Nat.le_of_ble_eq_true rfl⟩ (As := [.int (μ (15, i0) v5.toNatClampNeg), .int x113, .int x123]) (rest := [.int (v4 - (2 : Int32)), .ref (oa (11, cl2))]) rfl rfl (Nat.le_of_ble_eq_true rfl) dX2_total_168 ⟨Nat.zero_le _, Nat.zero_le _⟩ (fun H locs hW => ?_)
              show W p l e (rmq 1 22) s m args below meth c H locs 0 0 Q (F0 m 171 ls [.int x168, .int (v4 - (2 : Int32)), .ref (oa (11, cl2))])
              obtain ⟨x171, h171, hf⟩ := bd_of hf
              refine r_callV (k := ((11, cl2) : Ky)) C hW hl lk_X2_17 (c_X1_put hwf hc2 h171) ⟨rfl, rfl⟩ ⟨Nat.le_of_ble_eq_true rfl, Nat.le_of_ble_eq_true rfl⟩ rfl (faB_11 hc2) rfl (As := [.int (v4 - (2 : Int32)), .int x168]) (rest := []) rfl rfl (Nat.le_of_ble_eq_true rfl) dX2_total_171 ⟨Nat.zero_le _, Nat.zero_le _⟩ (fun H locs hW => ?_)
              show W p l e (rmq 1 22) s m args below meth c H locs 0 0 Q (F0 m 174 ls [])
              refine lv_iinc (v := (v4 + (-1 : Int32))) (lv' := [(4, .int (v4 + (-1 : Int32))), (8, .int x123), (7, .int x113), (6, .int (μ (15, i0) v5.toNatClampNeg)), (0, .ref (oa (14, i0))), (1, .ref (oa (11, cl1))), (2, .ref (oa (11, cl2))), (3, .int v3), (5, .int v5)]) hx hb dX2_total_174 hl (k := 7) rfl rfl (by decide) rfl (fun ls hl => ?_)
              refine lv_iinc (v := (v5 + (1 : Int32))) (lv' := [(5, .int (v5 + (1 : Int32))), (4, .int (v4 + (-1 : Int32))), (8, .int x123), (7, .int x113), (6, .int (μ (15, i0) v5.toNatClampNeg)), (0, .ref (oa (14, i0))), (1, .ref (oa (11, cl1))), (2, .ref (oa (11, cl2))), (3, .int v3)]) hx hb dX2_total_177 hl (k := 8) rfl rfl (by decide) rfl (fun ls hl => ?_)
              refine lv_goto (tgt := 8) hx hb dX2_total_180 (by decide) ?_
              obtain rfl := Option.some.inj hf
              exact Kl1 _ rfl _ _ _ hW (lv_sub hl [5, 6, 7, 8, 1, 0] rfl)
            · have hf := (if_pos c7).symm.trans hf
              refine lv_iload_n hx hb dX2_total_136 rfl (lv_at hl 6 rfl) ?_
              refine lv_iload hx hb dX2_total_137 (lv_at hl 1 rfl) ?_
              refine lv_iconst (v := 1) hx hb dX2_total_139 (by decide) ?_
              refine lv_icmp_ne (tgt := 148) hx hb dX2_total_140 (by decide) (fun c8 => ?_) (fun c8 => ?_)
              · have hf := (if_neg c8).symm.trans hf
                refine lv_iconst (v := 0) hx hb dX2_total_148 (by decide) ?_
                refine lv_iadd hx hb dX2_total_149 ?_
                refine lv_istore_n (lv' := [(3, .int (v3 + (0 : Int32))), (8, .int x123), (7, .int x113), (6, .int (μ (15, i0) v5.toNatClampNeg)), (0, .ref (oa (14, i0))), (1, .ref (oa (11, cl1))), (2, .ref (oa (11, cl2))), (4, .int v4), (5, .int v5)]) hx hb dX2_total_150 rfl hl (by decide) rfl (fun ls hl => ?_)
                refine lv_iinc (v := (v4 + (-2 : Int32))) (lv' := [(4, .int (v4 + (-2 : Int32))), (3, .int (v3 + (0 : Int32))), (8, .int x123), (7, .int x113), (6, .int (μ (15, i0) v5.toNatClampNeg)), (0, .ref (oa (14, i0))), (1, .ref (oa (11, cl1))), (2, .ref (oa (11, cl2))), (5, .int v5)]) hx hb dX2_total_151 hl (k := 7) rfl rfl (by decide) rfl (fun ls hl => ?_)
                refine lv_goto (tgt := 177) hx hb dX2_total_154 (by decide) ?_
                refine lv_iinc (v := (v5 + (1 : Int32))) (lv' := [(5, .int (v5 + (1 : Int32))), (4, .int (v4 + (-2 : Int32))), (3, .int (v3 + (0 : Int32))), (8, .int x123), (7, .int x113), (6, .int (μ (15, i0) v5.toNatClampNeg)), (0, .ref (oa (14, i0))), (1, .ref (oa (11, cl1))), (2, .ref (oa (11, cl2)))]) hx hb dX2_total_177 hl (k := 8) rfl rfl (by decide) rfl (fun ls hl => ?_)
                refine lv_goto (tgt := 8) hx hb dX2_total_180 (by decide) ?_
                obtain rfl := Option.some.inj hf
                exact Kl1 _ rfl _ _ _ hW (lv_sub hl [6, 7, 8, 2, 1, 0] rfl)
              · have hf := (if_pos c8).symm.trans hf
                refine lv_iload hx hb dX2_total_143 (lv_at hl 0 rfl) ?_
                refine lv_goto (tgt := 149) hx hb dX2_total_145 (by decide) ?_
                refine lv_iadd hx hb dX2_total_149 ?_
                refine lv_istore_n (lv' := [(3, .int (v3 + x123)), (8, .int x123), (7, .int x113), (6, .int (μ (15, i0) v5.toNatClampNeg)), (0, .ref (oa (14, i0))), (1, .ref (oa (11, cl1))), (2, .ref (oa (11, cl2))), (4, .int v4), (5, .int v5)]) hx hb dX2_total_150 rfl hl (by decide) rfl (fun ls hl => ?_)
                refine lv_iinc (v := (v4 + (-2 : Int32))) (lv' := [(4, .int (v4 + (-2 : Int32))), (3, .int (v3 + x123)), (8, .int x123), (7, .int x113), (6, .int (μ (15, i0) v5.toNatClampNeg)), (0, .ref (oa (14, i0))), (1, .ref (oa (11, cl1))), (2, .ref (oa (11, cl2))), (5, .int v5)]) hx hb dX2_total_151 hl (k := 7) rfl rfl (by decide) rfl (fun ls hl => ?_)
                refine lv_goto (tgt := 177) hx hb dX2_total_154 (by decide) ?_
                refine lv_iinc (v := (v5 + (1 : Int32))) (lv' := [(5, .int (v5 + (1 : Int32))), (4, .int (v4 + (-2 : Int32))), (3, .int (v3 + x123)), (8, .int x123), (7, .int x113), (6, .int (μ (15, i0) v5.toNatClampNeg)), (0, .ref (oa (14, i0))), (1, .ref (oa (11, cl1))), (2, .ref (oa (11, cl2)))]) hx hb dX2_total_177 hl (k := 8) rfl rfl (by decide) rfl (fun ls hl => ?_)
                refine lv_goto (tgt := 8) hx hb dX2_total_180 (by decide) ?_
                obtain rfl := Option.some.inj hf
                exact Kl1 _ rfl _ _ _ hW (lv_sub hl [6, 7, 8, 2, 1, 0] rfl)
          · have hf := (if_pos c6).symm.trans hf
            refine lv_aload_n hx hb dX2_total_87 rfl (lv_at hl 3 rfl) ?_
            refine lv_iload hx hb dX2_total_88 (lv_at hl 5 rfl) ?_
            refine lv_iconst (v := 1) hx hb dX2_total_90 (by decide) ?_
            refine lv_isub hx hb dX2_total_91 ?_
            refine lv_iconst (v := 1) hx hb dX2_total_92 (by decide) ?_
            refine lv_aload_n hx hb dX2_total_93 rfl (lv_at hl 3 rfl) ?_
            refine lv_iload hx hb dX2_total_94 (lv_at hl 5 rfl) ?_
            refine lv_iconst (v := 1) hx hb dX2_total_96 (by decide) ?_
            refine lv_isub hx hb dX2_total_97 ?_
            obtain ⟨x98, h98, hf⟩ := bd_of hf
            refine r_callV (k := ((11, cl2) : Ky)) C hW hl lk_X2_23 (c_X1_at hwf hc2 h98) ⟨rfl, rfl⟩ ⟨Nat.le_of_ble_eq_true rfl, Nat.le_of_ble_eq_true rfl⟩ rfl (faB_11 hc2) rfl (As := [.int (v4 - (1 : Int32))]) (rest := [.int (1 : Int32), .int (v4 - (1 : Int32)), .ref (oa (11, cl2))]) rfl rfl (Nat.le_of_ble_eq_true rfl) dX2_total_98 ⟨Nat.zero_le _, Nat.zero_le _⟩ (fun H locs hW => ?_)
            show W p l e (rmq 1 22) s m args below meth c H locs 0 0 Q (F0 m 101 ls [.int x98, .int (1 : Int32), .int (v4 - (1 : Int32)), .ref (oa (11, cl2))])
            refine lv_isub hx hb dX2_total_101 ?_
            obtain ⟨x102, h102, hf⟩ := bd_of hf
            refine r_callV (k := ((11, cl2) : Ky)) C hW hl lk_X2_17 (c_X1_put hwf hc2 h102) ⟨rfl, rfl⟩ ⟨Nat.le_of_ble_eq_true rfl, Nat.le_of_ble_eq_true rfl⟩ rfl (faB_11 hc2) rfl (As := [.int (v4 - (1 : Int32)), .int ((1 : Int32) - x98)]) (rest := []) rfl rfl (Nat.le_of_ble_eq_true rfl) dX2_total_102 ⟨Nat.zero_le _, Nat.zero_le _⟩ (fun H locs hW => ?_)
            show W p l e (rmq 1 22) s m args below meth c H locs 0 0 Q (F0 m 105 ls [])
            refine lv_goto (tgt := 177) hx hb dX2_total_105 (by decide) ?_
            refine lv_iinc (v := (v5 + (1 : Int32))) (lv' := [(5, .int (v5 + (1 : Int32))), (6, .int (μ (15, i0) v5.toNatClampNeg)), (0, .ref (oa (14, i0))), (1, .ref (oa (11, cl1))), (2, .ref (oa (11, cl2))), (3, .int v3), (4, .int v4)]) hx hb dX2_total_177 hl (k := 6) rfl rfl (by decide) rfl (fun ls hl => ?_)
            refine lv_goto (tgt := 8) hx hb dX2_total_180 (by decide) ?_
            obtain rfl := Option.some.inj hf
            exact Kl1 _ rfl _ _ _ hW (lv_sub hl [2, 3, 4, 5, 6, 0] rfl)
        · have hf := (if_neg c5).symm.trans hf
          refine lv_aload_n hx hb dX2_total_57 rfl (lv_at hl 3 rfl) ?_
          refine lv_iload hx hb dX2_total_58 (lv_at hl 5 rfl) ?_
          refine lv_aload_n hx hb dX2_total_60 rfl (lv_at hl 2 rfl) ?_
          refine lv_iload hx hb dX2_total_61 (lv_at hl 0 rfl) ?_
          refine lv_sipush (v := 1000) hx hb dX2_total_63 (by decide) ?_
          refine lv_isub hx hb dX2_total_66 ?_
          obtain ⟨x67, h67, hf⟩ := bd_of hf
          refine r_callV (k := ((11, cl1) : Ky)) C hW hl lk_X2_23 (c_X1_at hwf hc1 h67) ⟨rfl, rfl⟩ ⟨Nat.le_of_ble_eq_true rfl, Nat.le_of_ble_eq_true rfl⟩ rfl (faB_11 hc1) rfl (As := [.int ((μ (15, i0) v5.toNatClampNeg) - (1000 : Int32))]) (rest := [.int v4, .ref (oa (11, cl2))]) rfl rfl (Nat.le_of_ble_eq_true rfl) dX2_total_67 ⟨Nat.zero_le _, Nat.zero_le _⟩ (fun H locs hW => ?_)
          show W p l e (rmq 1 22) s m args below meth c H locs 0 0 Q (F0 m 70 ls [.int x67, .int v4, .ref (oa (11, cl2))])
          obtain ⟨x70, h70, hf⟩ := bd_of hf
          refine r_callV (k := ((11, cl2) : Ky)) C hW hl lk_X2_17 (c_X1_put hwf hc2 h70) ⟨rfl, rfl⟩ ⟨Nat.le_of_ble_eq_true rfl, Nat.le_of_ble_eq_true rfl⟩ rfl (faB_11 hc2) rfl (As := [.int v4, .int x67]) (rest := []) rfl rfl (Nat.le_of_ble_eq_true rfl) dX2_total_70 ⟨Nat.zero_le _, Nat.zero_le _⟩ (fun H locs hW => ?_)
          show W p l e (rmq 1 22) s m args below meth c H locs 0 0 Q (F0 m 73 ls [])
          refine lv_iinc (v := (v4 + (1 : Int32))) (lv' := [(4, .int (v4 + (1 : Int32))), (6, .int (μ (15, i0) v5.toNatClampNeg)), (0, .ref (oa (14, i0))), (1, .ref (oa (11, cl1))), (2, .ref (oa (11, cl2))), (3, .int v3), (5, .int v5)]) hx hb dX2_total_73 hl (k := 5) rfl rfl (by decide) rfl (fun ls hl => ?_)
          refine lv_goto (tgt := 177) hx hb dX2_total_76 (by decide) ?_
          refine lv_iinc (v := (v5 + (1 : Int32))) (lv' := [(5, .int (v5 + (1 : Int32))), (4, .int (v4 + (1 : Int32))), (6, .int (μ (15, i0) v5.toNatClampNeg)), (0, .ref (oa (14, i0))), (1, .ref (oa (11, cl1))), (2, .ref (oa (11, cl2))), (3, .int v3)]) hx hb dX2_total_177 hl (k := 6) rfl rfl (by decide) rfl (fun ls hl => ?_)
          refine lv_goto (tgt := 8) hx hb dX2_total_180 (by decide) ?_
          obtain rfl := Option.some.inj hf
          exact Kl1 _ rfl _ _ _ hW (lv_sub hl [3, 4, 5, 6, 1, 0] rfl)
      · have hf := (if_neg c4).symm.trans hf
        refine lv_aload_n hx hb dX2_total_35 rfl (lv_at hl 3 rfl) ?_
        refine lv_iload hx hb dX2_total_36 (lv_at hl 5 rfl) ?_
        refine lv_iload hx hb dX2_total_38 (lv_at hl 0 rfl) ?_
        obtain ⟨x40, h40, hf⟩ := bd_of hf
        refine r_callV (k := ((11, cl2) : Ky)) C hW hl lk_X2_17 (c_X1_put hwf hc2 h40) ⟨rfl, rfl⟩ ⟨Nat.le_of_ble_eq_true rfl, Nat.le_of_ble_eq_true rfl⟩ rfl (faB_11 hc2) rfl (As := [.int v4, .int (μ (15, i0) v5.toNatClampNeg)]) (rest := []) rfl rfl (Nat.le_of_ble_eq_true rfl) dX2_total_40 ⟨Nat.zero_le _, Nat.zero_le _⟩ (fun H locs hW => ?_)
        show W p l e (rmq 1 22) s m args below meth c H locs 0 0 Q (F0 m 43 ls [])
        refine lv_iinc (v := (v4 + (1 : Int32))) (lv' := [(4, .int (v4 + (1 : Int32))), (6, .int (μ (15, i0) v5.toNatClampNeg)), (0, .ref (oa (14, i0))), (1, .ref (oa (11, cl1))), (2, .ref (oa (11, cl2))), (3, .int v3), (5, .int v5)]) hx hb dX2_total_43 hl (k := 5) rfl rfl (by decide) rfl (fun ls hl => ?_)
        refine lv_goto (tgt := 177) hx hb dX2_total_46 (by decide) ?_
        refine lv_iinc (v := (v5 + (1 : Int32))) (lv' := [(5, .int (v5 + (1 : Int32))), (4, .int (v4 + (1 : Int32))), (6, .int (μ (15, i0) v5.toNatClampNeg)), (0, .ref (oa (14, i0))), (1, .ref (oa (11, cl1))), (2, .ref (oa (11, cl2))), (3, .int v3)]) hx hb dX2_total_177 hl (k := 6) rfl rfl (by decide) rfl (fun ls hl => ?_)
        refine lv_goto (tgt := 8) hx hb dX2_total_180 (by decide) ?_
        obtain rfl := Option.some.inj hf
        exact Kl1 _ rfl _ _ _ hW (lv_sub hl [3, 4, 5, 6, 1, 0] rfl)
  exact L8 μ (0 : Int32) (0 : Int32) (0 : Int32) _ _ _ hf hW (lv_sub hl [3, 4, 5, 2, 1, 0] rfl)
set_option maxHeartbeats 4000000 in
set_option maxRecDepth 100000 in
theorem c_X6_become {l : Launch} {D : va_G} {tc : Nat → ClassId} {ro : Ro} {oa : Ky → Nat} {aa : Nat → Nat} {sh : Sh} {ln : Nat → Nat} {j0 j1 : Nat} {μ : Mm} {res : Mm} (hwf : WfS sh) (hj0 : sh 2 j0 = 1) (hj1 : sh 2 j1 = 1) (hf : f_X6_become sh ln j0 j1 μ = some res) : Ct l D tc ro (faB oa aa sh) (feB tc oa aa sh ln) yX6_become cX6_become 2 none (rmq 2 83) [.ref (oa (13, j0)), .ref (oa (13, j1))] μ none res := by
  refine Ct.of (by decide) (Nat.le_of_ble_eq_true rfl) (fun p e s m args below meth c A C hr hk hW ls hl => ?_)
  have hx := C.1.1
  have hb := C.1.2.1
  obtain ⟨Q, hQ⟩ : ∃ Q, Q = MQ below (Ctq D (faB oa aa sh) (feB tc oa aa sh ln) none res A) args s 0 0 A := ⟨_, rfl⟩
  rw [← hQ]
  have hl : lv_has ls 2 [(0, .ref (oa (13, j0))), (1, .ref (oa (13, j1)))] := hl
  unfold f_X6_become at hf
  refine lv_aload_n hx hb dX6_become_0 rfl (lv_at hl 1 rfl) ?_
  refine lv_ifnull hx hb dX6_become_1 ?_
  refine lv_aload_n hx hb dX6_become_4 rfl (lv_at hl 1 rfl) ?_
  refine lv_aload_n hx hb dX6_become_5 rfl (lv_at hl 0 rfl) ?_
  refine lv_acmp_ne (rx := some (oa (13, j1))) (ry := some (oa (13, j0))) (tgt := 10) hx hb dX6_become_6 (by decide) (fun c1 => ?_) (fun c1 => ?_)
  · have e1 : ¬ j1 = j0 := fun q => c1 (by rw [q])
    have hf := (if_neg e1).symm.trans hf
    refine lv_aload_n hx hb dX6_become_10 rfl (lv_at hl 0 rfl) ?_
    refine lv_aload_n hx hb dX6_become_11 rfl (lv_at hl 1 rfl) ?_
    refine gf_X6_9 C hW hj1 dX6_become_12 ?_
    refine pf_X6_9 C hW hj0 dX6_become_15 (fun H locs hW => ?_)
    refine lv_aload_n hx hb dX6_become_18 rfl (lv_at hl 0 rfl) ?_
    refine lv_aload_n hx hb dX6_become_19 rfl (lv_at hl 1 rfl) ?_
    refine gf_X6_46 C hW hj1 dX6_become_20 ?_
    refine pf_X6_46 C hW hj0 dX6_become_23 (fun H locs hW => ?_)
    obtain ⟨μ2, hm2, hf⟩ := bd_of hf
    rw [Option.some.inj hm2] at hW
    refine lv_aload_n hx hb dX6_become_26 rfl (lv_at hl 0 rfl) ?_
    refine lv_aload_n hx hb dX6_become_27 rfl (lv_at hl 1 rfl) ?_
    refine gf_X6_15 C hW hj1 dX6_become_28 ?_
    refine pf_X6_15 C hW hj0 dX6_become_31 (fun H locs hW => ?_)
    refine lv_aload_n hx hb dX6_become_34 rfl (lv_at hl 0 rfl) ?_
    refine lv_aload_n hx hb dX6_become_35 rfl (lv_at hl 1 rfl) ?_
    refine gf_X6_49 C hW hj1 dX6_become_36 ?_
    refine pf_X6_49 C hW hj0 dX6_become_39 (fun H locs hW => ?_)
    obtain ⟨μ3, hm3, hf⟩ := bd_of hf
    rw [Option.some.inj hm3] at hW
    refine lv_aload_n hx hb dX6_become_42 rfl (lv_at hl 0 rfl) ?_
    refine lv_aload_n hx hb dX6_become_43 rfl (lv_at hl 1 rfl) ?_
    refine gf_X6_52 C hW hj1 dX6_become_44 ?_
    refine pf_X6_52 C hW hj0 dX6_become_47 (fun H locs hW => ?_)
    refine lv_aload_n hx hb dX6_become_50 rfl (lv_at hl 0 rfl) ?_
    refine lv_aload_n hx hb dX6_become_51 rfl (lv_at hl 1 rfl) ?_
    refine gf_X6_18 C hW hj1 dX6_become_52 ?_
    refine pf_X6_18 C hW hj0 dX6_become_55 (fun H locs hW => ?_)
    obtain ⟨μ4, hm4, hf⟩ := bd_of hf
    rw [Option.some.inj hm4] at hW
    refine lv_aload_n hx hb dX6_become_58 rfl (lv_at hl 0 rfl) ?_
    refine lv_aload_n hx hb dX6_become_59 rfl (lv_at hl 1 rfl) ?_
    refine gf_X6_55 C hW hj1 dX6_become_60 ?_
    refine pf_X6_55 C hW hj0 dX6_become_63 (fun H locs hW => ?_)
    refine lv_aload_n hx hb dX6_become_66 rfl (lv_at hl 0 rfl) ?_
    refine lv_aload_n hx hb dX6_become_67 rfl (lv_at hl 1 rfl) ?_
    refine gf_X6_58 C hW hj1 dX6_become_68 ?_
    obtain ⟨hz5, hf⟩ := cb_of hf
    refine pf_X6_58 C hW hj0 (by rcases hz5 with h | h <;> rw [h] <;> rfl) (by rcases hz5 with h | h <;> rw [h] <;> rfl) dX6_become_71 (fun H locs hW => ?_)
    obtain ⟨μ6, hm6, hf⟩ := bd_of hf
    rw [Option.some.inj hm6] at hW
    refine lv_aload_n hx hb dX6_become_74 rfl (lv_at hl 0 rfl) ?_
    refine lv_aload_n hx hb dX6_become_75 rfl (lv_at hl 1 rfl) ?_
    by_cases q7 : μ6 (13, j1) 8 = 0
    · have hf := (if_pos q7).symm.trans hf
      refine gn_X6_62 C hW hj1 q7 dX6_become_76 ?_
      refine pr_X6_62_null C hW hj0 dX6_become_79 (fun H locs hW => ?_)
      refine lv_aload_n hx hb dX6_become_82 rfl (lv_at hl 0 rfl) ?_
      refine lv_aload_n hx hb dX6_become_83 rfl (lv_at hl 1 rfl) ?_
      refine gf_X6_66 C hW hj1 dX6_become_84 ?_
      refine pf_X6_66 C hW hj0 dX6_become_87 (fun H locs hW => ?_)
      obtain ⟨μ9, hm9, hf⟩ := bd_of hf
      rw [Option.some.inj hm9] at hW
      refine lv_aload_n hx hb dX6_become_90 rfl (lv_at hl 0 rfl) ?_
      refine lv_aload_n hx hb dX6_become_91 rfl (lv_at hl 1 rfl) ?_
      refine gf_X6_69 C hW hj1 dX6_become_92 ?_
      refine pf_X6_69 C hW hj0 dX6_become_95 (fun H locs hW => ?_)
      refine lv_aload_n hx hb dX6_become_98 rfl (lv_at hl 0 rfl) ?_
      refine gf_X6_26 C hW hj0 dX6_become_99 ?_
      refine lv_aload_n hx hb dX6_become_102 rfl (lv_at hl 1 rfl) ?_
      refine gf_X6_26 C hW hj1 dX6_become_103 ?_
      refine lv_aload_n hx hb dX6_become_106 rfl (lv_at hl 0 rfl) ?_
      refine gf_X6_46 C hW hj0 dX6_become_107 ?_
      obtain ⟨x110, h110, hf⟩ := bd_of hf
      refine r_callV (k := ((11, 15 + 5 * j0 + 0) : Ky)) C hW hl lk_X6_72 (c_X1_become hwf (cex_st hj0 (by decide)) (cex_st hj1 (by decide)) h110) ⟨rfl, rfl⟩ ⟨Nat.le_of_ble_eq_true rfl, Nat.le_of_ble_eq_true rfl⟩ rfl (faB_11 (cex_st hj0 (by decide))) rfl (As := [.ref (oa (11, 15 + 5 * j1 + 0)), .int ((mst μ9 (13, j0) 15 (μ9 (13, j1) 15)) (13, j0) 1)]) (rest := []) rfl rfl (Nat.le_of_ble_eq_true rfl) dX6_become_110 ⟨Nat.zero_le _, Nat.zero_le _⟩ (fun H locs hW => ?_)
      show W p l e (rmq 2 83) s m args below meth c H locs 0 0 Q (F0 m 113 ls [])
      refine lv_aload_n hx hb dX6_become_113 rfl (lv_at hl 0 rfl) ?_
      refine gf_X6_30 C hW hj0 dX6_become_114 ?_
      refine lv_aload_n hx hb dX6_become_117 rfl (lv_at hl 1 rfl) ?_
      refine gf_X6_30 C hW hj1 dX6_become_118 ?_
      refine lv_aload_n hx hb dX6_become_121 rfl (lv_at hl 0 rfl) ?_
      refine gf_X6_46 C hW hj0 dX6_become_122 ?_
      obtain ⟨x125, h125, hf⟩ := bd_of hf
      refine r_callV (k := ((11, 15 + 5 * j0 + 1) : Ky)) C hW hl lk_X6_72 (c_X1_become hwf (cex_st hj0 (by decide)) (cex_st hj1 (by decide)) h125) ⟨rfl, rfl⟩ ⟨Nat.le_of_ble_eq_true rfl, Nat.le_of_ble_eq_true rfl⟩ rfl (faB_11 (cex_st hj0 (by decide))) rfl (As := [.ref (oa (11, 15 + 5 * j1 + 1)), .int (x110 (13, j0) 1)]) (rest := []) rfl rfl (Nat.le_of_ble_eq_true rfl) dX6_become_125 ⟨Nat.zero_le _, Nat.zero_le _⟩ (fun H locs hW => ?_)
      show W p l e (rmq 2 83) s m args below meth c H locs 0 0 Q (F0 m 128 ls [])
      refine lv_aload_n hx hb dX6_become_128 rfl (lv_at hl 0 rfl) ?_
      refine gf_X6_33 C hW hj0 dX6_become_129 ?_
      refine lv_aload_n hx hb dX6_become_132 rfl (lv_at hl 1 rfl) ?_
      refine gf_X6_33 C hW hj1 dX6_become_133 ?_
      refine lv_aload_n hx hb dX6_become_136 rfl (lv_at hl 0 rfl) ?_
      refine gf_X6_15 C hW hj0 dX6_become_137 ?_
      obtain ⟨x140, h140, hf⟩ := bd_of hf
      refine r_callV (k := ((11, 15 + 5 * j0 + 2) : Ky)) C hW hl lk_X6_72 (c_X1_become hwf (cex_st hj0 (by decide)) (cex_st hj1 (by decide)) h140) ⟨rfl, rfl⟩ ⟨Nat.le_of_ble_eq_true rfl, Nat.le_of_ble_eq_true rfl⟩ rfl (faB_11 (cex_st hj0 (by decide))) rfl (As := [.ref (oa (11, 15 + 5 * j1 + 2)), .int (x125 (13, j0) 2)]) (rest := []) rfl rfl (Nat.le_of_ble_eq_true rfl) dX6_become_140 ⟨Nat.zero_le _, Nat.zero_le _⟩ (fun H locs hW => ?_)
      show W p l e (rmq 2 83) s m args below meth c H locs 0 0 Q (F0 m 143 ls [])
      refine lv_aload_n hx hb dX6_become_143 rfl (lv_at hl 0 rfl) ?_
      refine gf_X6_36 C hW hj0 dX6_become_144 ?_
      refine lv_aload_n hx hb dX6_become_147 rfl (lv_at hl 1 rfl) ?_
      refine gf_X6_36 C hW hj1 dX6_become_148 ?_
      refine lv_aload_n hx hb dX6_become_151 rfl (lv_at hl 0 rfl) ?_
      refine gf_X6_46 C hW hj0 dX6_become_152 ?_
      refine lv_aload_n hx hb dX6_become_155 rfl (lv_at hl 0 rfl) ?_
      refine gf_X6_15 C hW hj0 dX6_become_156 ?_
      refine lv_imul hx hb dX6_become_159 ?_
      obtain ⟨x160, h160, hf⟩ := bd_of hf
      refine r_callV (k := ((11, 15 + 5 * j0 + 3) : Ky)) C hW hl lk_X6_72 (c_X1_become hwf (cex_st hj0 (by decide)) (cex_st hj1 (by decide)) h160) ⟨rfl, rfl⟩ ⟨Nat.le_of_ble_eq_true rfl, Nat.le_of_ble_eq_true rfl⟩ rfl (faB_11 (cex_st hj0 (by decide))) rfl (As := [.ref (oa (11, 15 + 5 * j1 + 3)), .int ((x140 (13, j0) 1) * (x140 (13, j0) 2))]) (rest := []) rfl rfl (Nat.le_of_ble_eq_true rfl) dX6_become_160 ⟨Nat.zero_le _, Nat.zero_le _⟩ (fun H locs hW => ?_)
      show W p l e (rmq 2 83) s m args below meth c H locs 0 0 Q (F0 m 163 ls [])
      refine lv_aload_n hx hb dX6_become_163 rfl (lv_at hl 0 rfl) ?_
      refine gf_X6_39 C hW hj0 dX6_become_164 ?_
      refine lv_aload_n hx hb dX6_become_167 rfl (lv_at hl 1 rfl) ?_
      refine gf_X6_39 C hW hj1 dX6_become_168 ?_
      refine lv_sipush (v := 300) hx hb dX6_become_171 (by decide) ?_
      obtain ⟨x174, h174, hf⟩ := bd_of hf
      refine r_callV (k := ((11, 15 + 5 * j0 + 4) : Ky)) C hW hl lk_X6_72 (c_X1_become hwf (cex_st hj0 (by decide)) (cex_st hj1 (by decide)) h174) ⟨rfl, rfl⟩ ⟨Nat.le_of_ble_eq_true rfl, Nat.le_of_ble_eq_true rfl⟩ rfl (faB_11 (cex_st hj0 (by decide))) rfl (As := [.ref (oa (11, 15 + 5 * j1 + 4)), .int (300 : Int32)]) (rest := []) rfl rfl (Nat.le_of_ble_eq_true rfl) dX6_become_174 ⟨Nat.zero_le _, Nat.zero_le _⟩ (fun H locs hW => ?_)
      show W p l e (rmq 2 83) s m args below meth c H locs 0 0 Q (F0 m 177 ls [])
      obtain rfl := Option.some.inj hf
      rw [hQ]
      exact r_vret C hr hk hW rfl rfl dX6_become_177
    · have hf := (if_neg q7).symm.trans hf
      refine gf_X6_62 C hW hj1 q7 dX6_become_76 ?_
      obtain ⟨hq7, hf⟩ := ce_of hf
      obtain ⟨hb10, hf⟩ := ce_of hf
      refine pr_X6_62_law C hW hj0 hb10 dX6_become_79 (fun H locs hW => ?_)
      refine lv_aload_n hx hb dX6_become_82 rfl (lv_at hl 0 rfl) ?_
      refine lv_aload_n hx hb dX6_become_83 rfl (lv_at hl 1 rfl) ?_
      refine gf_X6_66 C hW hj1 dX6_become_84 ?_
      refine pf_X6_66 C hW hj0 dX6_become_87 (fun H locs hW => ?_)
      obtain ⟨μ11, hm11, hf⟩ := bd_of hf
      rw [Option.some.inj hm11] at hW
      refine lv_aload_n hx hb dX6_become_90 rfl (lv_at hl 0 rfl) ?_
      refine lv_aload_n hx hb dX6_become_91 rfl (lv_at hl 1 rfl) ?_
      refine gf_X6_69 C hW hj1 dX6_become_92 ?_
      refine pf_X6_69 C hW hj0 dX6_become_95 (fun H locs hW => ?_)
      refine lv_aload_n hx hb dX6_become_98 rfl (lv_at hl 0 rfl) ?_
      refine gf_X6_26 C hW hj0 dX6_become_99 ?_
      refine lv_aload_n hx hb dX6_become_102 rfl (lv_at hl 1 rfl) ?_
      refine gf_X6_26 C hW hj1 dX6_become_103 ?_
      refine lv_aload_n hx hb dX6_become_106 rfl (lv_at hl 0 rfl) ?_
      refine gf_X6_46 C hW hj0 dX6_become_107 ?_
      obtain ⟨x110, h110, hf⟩ := bd_of hf
      refine r_callV (k := ((11, 15 + 5 * j0 + 0) : Ky)) C hW hl lk_X6_72 (c_X1_become hwf (cex_st hj0 (by decide)) (cex_st hj1 (by decide)) h110) ⟨rfl, rfl⟩ ⟨Nat.le_of_ble_eq_true rfl, Nat.le_of_ble_eq_true rfl⟩ rfl (faB_11 (cex_st hj0 (by decide))) rfl (As := [.ref (oa (11, 15 + 5 * j1 + 0)), .int ((mst μ11 (13, j0) 15 (μ11 (13, j1) 15)) (13, j0) 1)]) (rest := []) rfl rfl (Nat.le_of_ble_eq_true rfl) dX6_become_110 ⟨Nat.zero_le _, Nat.zero_le _⟩ (fun H locs hW => ?_)
      show W p l e (rmq 2 83) s m args below meth c H locs 0 0 Q (F0 m 113 ls [])
      refine lv_aload_n hx hb dX6_become_113 rfl (lv_at hl 0 rfl) ?_
      refine gf_X6_30 C hW hj0 dX6_become_114 ?_
      refine lv_aload_n hx hb dX6_become_117 rfl (lv_at hl 1 rfl) ?_
      refine gf_X6_30 C hW hj1 dX6_become_118 ?_
      refine lv_aload_n hx hb dX6_become_121 rfl (lv_at hl 0 rfl) ?_
      refine gf_X6_46 C hW hj0 dX6_become_122 ?_
      obtain ⟨x125, h125, hf⟩ := bd_of hf
      refine r_callV (k := ((11, 15 + 5 * j0 + 1) : Ky)) C hW hl lk_X6_72 (c_X1_become hwf (cex_st hj0 (by decide)) (cex_st hj1 (by decide)) h125) ⟨rfl, rfl⟩ ⟨Nat.le_of_ble_eq_true rfl, Nat.le_of_ble_eq_true rfl⟩ rfl (faB_11 (cex_st hj0 (by decide))) rfl (As := [.ref (oa (11, 15 + 5 * j1 + 1)), .int (x110 (13, j0) 1)]) (rest := []) rfl rfl (Nat.le_of_ble_eq_true rfl) dX6_become_125 ⟨Nat.zero_le _, Nat.zero_le _⟩ (fun H locs hW => ?_)
      show W p l e (rmq 2 83) s m args below meth c H locs 0 0 Q (F0 m 128 ls [])
      refine lv_aload_n hx hb dX6_become_128 rfl (lv_at hl 0 rfl) ?_
      refine gf_X6_33 C hW hj0 dX6_become_129 ?_
      refine lv_aload_n hx hb dX6_become_132 rfl (lv_at hl 1 rfl) ?_
      refine gf_X6_33 C hW hj1 dX6_become_133 ?_
      refine lv_aload_n hx hb dX6_become_136 rfl (lv_at hl 0 rfl) ?_
      refine gf_X6_15 C hW hj0 dX6_become_137 ?_
      obtain ⟨x140, h140, hf⟩ := bd_of hf
      refine r_callV (k := ((11, 15 + 5 * j0 + 2) : Ky)) C hW hl lk_X6_72 (c_X1_become hwf (cex_st hj0 (by decide)) (cex_st hj1 (by decide)) h140) ⟨rfl, rfl⟩ ⟨Nat.le_of_ble_eq_true rfl, Nat.le_of_ble_eq_true rfl⟩ rfl (faB_11 (cex_st hj0 (by decide))) rfl (As := [.ref (oa (11, 15 + 5 * j1 + 2)), .int (x125 (13, j0) 2)]) (rest := []) rfl rfl (Nat.le_of_ble_eq_true rfl) dX6_become_140 ⟨Nat.zero_le _, Nat.zero_le _⟩ (fun H locs hW => ?_)
      show W p l e (rmq 2 83) s m args below meth c H locs 0 0 Q (F0 m 143 ls [])
      refine lv_aload_n hx hb dX6_become_143 rfl (lv_at hl 0 rfl) ?_
      refine gf_X6_36 C hW hj0 dX6_become_144 ?_
      refine lv_aload_n hx hb dX6_become_147 rfl (lv_at hl 1 rfl) ?_
      refine gf_X6_36 C hW hj1 dX6_become_148 ?_
      refine lv_aload_n hx hb dX6_become_151 rfl (lv_at hl 0 rfl) ?_
      refine gf_X6_46 C hW hj0 dX6_become_152 ?_
      refine lv_aload_n hx hb dX6_become_155 rfl (lv_at hl 0 rfl) ?_
      refine gf_X6_15 C hW hj0 dX6_become_156 ?_
      refine lv_imul hx hb dX6_become_159 ?_
      obtain ⟨x160, h160, hf⟩ := bd_of hf
      refine r_callV (k := ((11, 15 + 5 * j0 + 3) : Ky)) C hW hl lk_X6_72 (c_X1_become hwf (cex_st hj0 (by decide)) (cex_st hj1 (by decide)) h160) ⟨rfl, rfl⟩ ⟨Nat.le_of_ble_eq_true rfl, Nat.le_of_ble_eq_true rfl⟩ rfl (faB_11 (cex_st hj0 (by decide))) rfl (As := [.ref (oa (11, 15 + 5 * j1 + 3)), .int ((x140 (13, j0) 1) * (x140 (13, j0) 2))]) (rest := []) rfl rfl (Nat.le_of_ble_eq_true rfl) dX6_become_160 ⟨Nat.zero_le _, Nat.zero_le _⟩ (fun H locs hW => ?_)
      show W p l e (rmq 2 83) s m args below meth c H locs 0 0 Q (F0 m 163 ls [])
      refine lv_aload_n hx hb dX6_become_163 rfl (lv_at hl 0 rfl) ?_
      refine gf_X6_39 C hW hj0 dX6_become_164 ?_
      refine lv_aload_n hx hb dX6_become_167 rfl (lv_at hl 1 rfl) ?_
      refine gf_X6_39 C hW hj1 dX6_become_168 ?_
      refine lv_sipush (v := 300) hx hb dX6_become_171 (by decide) ?_
      obtain ⟨x174, h174, hf⟩ := bd_of hf
      refine r_callV (k := ((11, 15 + 5 * j0 + 4) : Ky)) C hW hl lk_X6_72 (c_X1_become hwf (cex_st hj0 (by decide)) (cex_st hj1 (by decide)) h174) ⟨rfl, rfl⟩ ⟨Nat.le_of_ble_eq_true rfl, Nat.le_of_ble_eq_true rfl⟩ rfl (faB_11 (cex_st hj0 (by decide))) rfl (As := [.ref (oa (11, 15 + 5 * j1 + 4)), .int (300 : Int32)]) (rest := []) rfl rfl (Nat.le_of_ble_eq_true rfl) dX6_become_174 ⟨Nat.zero_le _, Nat.zero_le _⟩ (fun H locs hW => ?_)
      show W p l e (rmq 2 83) s m args below meth c H locs 0 0 Q (F0 m 177 ls [])
      obtain rfl := Option.some.inj hf
      rw [hQ]
      exact r_vret C hr hk hW rfl rfl dX6_become_177
  · have e1 := st_inj hW hj1 hj0 (Option.some.inj c1)
    have hf := (if_pos e1).symm.trans hf
    obtain rfl := Option.some.inj hf
    rw [hQ]
    exact r_vret C hr hk hW rfl rfl dX6_become_9
set_option maxHeartbeats 4000000 in
set_option maxRecDepth 100000 in
theorem c_X6_hasPerson {l : Launch} {D : va_G} {tc : Nat → ClassId} {ro : Ro} {oa : Ky → Nat} {aa : Nat → Nat} {sh : Sh} {ln : Nat → Nat} {j0 : Nat} {μ : Mm} {v1 : Int32} {res : Int32} (hwf : WfS sh) (hj0 : sh 2 j0 = 1) (hf : f_X6_hasPerson sh ln j0 μ v1 = some res) : Ct l D tc ro (faB oa aa sh) (feB tc oa aa sh ln) yX6_hasPerson cX6_hasPerson 2 (some .boolean) (rmq 0 0) [.ref (oa (13, j0)), .int v1] μ (some (.int res)) μ := by
  refine Ct.of (by decide) (Nat.le_of_ble_eq_true rfl) (fun p e s m args below meth c A C hr hk hW ls hl => ?_)
  have hx := C.1.1
  have hb := C.1.2.1
  obtain ⟨Q, hQ⟩ : ∃ Q, Q = MQ below (Ctq D (faB oa aa sh) (feB tc oa aa sh ln) (some (.int res)) μ A) args s 0 0 A := ⟨_, rfl⟩
  rw [← hQ]
  have hl : lv_has ls 2 [(0, .ref (oa (13, j0))), (1, .int v1)] := hl
  unfold f_X6_hasPerson at hf
  refine lv_iload_n hx hb dX6_hasPerson_0 rfl (lv_at hl 1 rfl) ?_
  refine lv_if_lt (tgt := 16) hx hb dX6_hasPerson_1 (by decide) (fun c1 => ?_) (fun c1 => ?_)
  · have hf := (if_pos c1).symm.trans hf
    refine lv_iconst (v := 0) hx hb dX6_hasPerson_16 (by decide) ?_
    obtain rfl := Option.some.inj hf
    rw [hQ]
    exact r_zret C hr hk hW (Or.inl rfl) rfl rfl dX6_hasPerson_17
  · have hf := (if_neg c1).symm.trans hf
    refine lv_iload_n hx hb dX6_hasPerson_4 rfl (lv_at hl 1 rfl) ?_
    refine lv_aload_n hx hb dX6_hasPerson_5 rfl (lv_at hl 0 rfl) ?_
    refine gf_X6_46 C hW hj0 dX6_hasPerson_6 ?_
    refine lv_icmp_ge (tgt := 16) hx hb dX6_hasPerson_9 (by decide) (fun c2 => ?_) (fun c2 => ?_)
    · have hf := (if_pos c2).symm.trans hf
      refine lv_iconst (v := 0) hx hb dX6_hasPerson_16 (by decide) ?_
      obtain rfl := Option.some.inj hf
      rw [hQ]
      exact r_zret C hr hk hW (Or.inl rfl) rfl rfl dX6_hasPerson_17
    · have hf := (if_neg c2).symm.trans hf
      refine lv_iconst (v := 1) hx hb dX6_hasPerson_12 (by decide) ?_
      refine lv_goto (tgt := 17) hx hb dX6_hasPerson_13 (by decide) ?_
      obtain rfl := Option.some.inj hf
      rw [hQ]
      exact r_zret C hr hk hW (Or.inr rfl) rfl rfl dX6_hasPerson_17
set_option maxHeartbeats 4000000 in
set_option maxRecDepth 100000 in
theorem c_X6_hasNotice {l : Launch} {D : va_G} {tc : Nat → ClassId} {ro : Ro} {oa : Ky → Nat} {aa : Nat → Nat} {sh : Sh} {ln : Nat → Nat} {j0 : Nat} {μ : Mm} {v1 : Int32} {res : Int32} (hwf : WfS sh) (hj0 : sh 2 j0 = 1) (hf : f_X6_hasNotice sh ln j0 μ v1 = some res) : Ct l D tc ro (faB oa aa sh) (feB tc oa aa sh ln) yX6_hasNotice cX6_hasNotice 2 (some .boolean) (rmq 0 0) [.ref (oa (13, j0)), .int v1] μ (some (.int res)) μ := by
  refine Ct.of (by decide) (Nat.le_of_ble_eq_true rfl) (fun p e s m args below meth c A C hr hk hW ls hl => ?_)
  have hx := C.1.1
  have hb := C.1.2.1
  obtain ⟨Q, hQ⟩ : ∃ Q, Q = MQ below (Ctq D (faB oa aa sh) (feB tc oa aa sh ln) (some (.int res)) μ A) args s 0 0 A := ⟨_, rfl⟩
  rw [← hQ]
  have hl : lv_has ls 2 [(0, .ref (oa (13, j0))), (1, .int v1)] := hl
  unfold f_X6_hasNotice at hf
  refine lv_iload_n hx hb dX6_hasNotice_0 rfl (lv_at hl 1 rfl) ?_
  refine lv_if_lt (tgt := 16) hx hb dX6_hasNotice_1 (by decide) (fun c1 => ?_) (fun c1 => ?_)
  · have hf := (if_pos c1).symm.trans hf
    refine lv_iconst (v := 0) hx hb dX6_hasNotice_16 (by decide) ?_
    obtain rfl := Option.some.inj hf
    rw [hQ]
    exact r_zret C hr hk hW (Or.inl rfl) rfl rfl dX6_hasNotice_17
  · have hf := (if_neg c1).symm.trans hf
    refine lv_iload_n hx hb dX6_hasNotice_4 rfl (lv_at hl 1 rfl) ?_
    refine lv_aload_n hx hb dX6_hasNotice_5 rfl (lv_at hl 0 rfl) ?_
    refine gf_X6_9 C hW hj0 dX6_hasNotice_6 ?_
    refine lv_icmp_ge (tgt := 16) hx hb dX6_hasNotice_9 (by decide) (fun c2 => ?_) (fun c2 => ?_)
    · have hf := (if_pos c2).symm.trans hf
      refine lv_iconst (v := 0) hx hb dX6_hasNotice_16 (by decide) ?_
      obtain rfl := Option.some.inj hf
      rw [hQ]
      exact r_zret C hr hk hW (Or.inl rfl) rfl rfl dX6_hasNotice_17
    · have hf := (if_neg c2).symm.trans hf
      refine lv_iconst (v := 1) hx hb dX6_hasNotice_12 (by decide) ?_
      refine lv_goto (tgt := 17) hx hb dX6_hasNotice_13 (by decide) ?_
      obtain rfl := Option.some.inj hf
      rw [hQ]
      exact r_zret C hr hk hW (Or.inr rfl) rfl rfl dX6_hasNotice_17
set_option maxHeartbeats 4000000 in
set_option maxRecDepth 100000 in
theorem c_X6_hasWorld {l : Launch} {D : va_G} {tc : Nat → ClassId} {ro : Ro} {oa : Ky → Nat} {aa : Nat → Nat} {sh : Sh} {ln : Nat → Nat} {j0 : Nat} {μ : Mm} {v1 : Int32} {res : Int32} (hwf : WfS sh) (hj0 : sh 2 j0 = 1) (hf : f_X6_hasWorld sh ln j0 μ v1 = some res) : Ct l D tc ro (faB oa aa sh) (feB tc oa aa sh ln) yX6_hasWorld cX6_hasWorld 2 (some .boolean) (rmq 0 0) [.ref (oa (13, j0)), .int v1] μ (some (.int res)) μ := by
  refine Ct.of (by decide) (Nat.le_of_ble_eq_true rfl) (fun p e s m args below meth c A C hr hk hW ls hl => ?_)
  have hx := C.1.1
  have hb := C.1.2.1
  obtain ⟨Q, hQ⟩ : ∃ Q, Q = MQ below (Ctq D (faB oa aa sh) (feB tc oa aa sh ln) (some (.int res)) μ A) args s 0 0 A := ⟨_, rfl⟩
  rw [← hQ]
  have hl : lv_has ls 2 [(0, .ref (oa (13, j0))), (1, .int v1)] := hl
  unfold f_X6_hasWorld at hf
  refine lv_iload_n hx hb dX6_hasWorld_0 rfl (lv_at hl 1 rfl) ?_
  refine lv_if_lt (tgt := 16) hx hb dX6_hasWorld_1 (by decide) (fun c1 => ?_) (fun c1 => ?_)
  · have hf := (if_pos c1).symm.trans hf
    refine lv_iconst (v := 0) hx hb dX6_hasWorld_16 (by decide) ?_
    obtain rfl := Option.some.inj hf
    rw [hQ]
    exact r_zret C hr hk hW (Or.inl rfl) rfl rfl dX6_hasWorld_17
  · have hf := (if_neg c1).symm.trans hf
    refine lv_iload_n hx hb dX6_hasWorld_4 rfl (lv_at hl 1 rfl) ?_
    refine lv_aload_n hx hb dX6_hasWorld_5 rfl (lv_at hl 0 rfl) ?_
    refine gf_X6_15 C hW hj0 dX6_hasWorld_6 ?_
    refine lv_icmp_ge (tgt := 16) hx hb dX6_hasWorld_9 (by decide) (fun c2 => ?_) (fun c2 => ?_)
    · have hf := (if_pos c2).symm.trans hf
      refine lv_iconst (v := 0) hx hb dX6_hasWorld_16 (by decide) ?_
      obtain rfl := Option.some.inj hf
      rw [hQ]
      exact r_zret C hr hk hW (Or.inl rfl) rfl rfl dX6_hasWorld_17
    · have hf := (if_neg c2).symm.trans hf
      refine lv_iconst (v := 1) hx hb dX6_hasWorld_12 (by decide) ?_
      refine lv_goto (tgt := 17) hx hb dX6_hasWorld_13 (by decide) ?_
      obtain rfl := Option.some.inj hf
      rw [hQ]
      exact r_zret C hr hk hW (Or.inr rfl) rfl rfl dX6_hasWorld_17
set_option maxHeartbeats 4000000 in
set_option maxRecDepth 100000 in
theorem c_X6_hasSight {l : Launch} {D : va_G} {tc : Nat → ClassId} {ro : Ro} {oa : Ky → Nat} {aa : Nat → Nat} {sh : Sh} {ln : Nat → Nat} {j0 : Nat} {μ : Mm} {v1 v2 : Int32} {res : Int32} (hwf : WfS sh) (hj0 : sh 2 j0 = 1) (hf : f_X6_hasSight sh ln j0 μ v1 v2 = some res) : Ct l D tc ro (faB oa aa sh) (feB tc oa aa sh ln) yX6_hasSight cX6_hasSight 3 (some .boolean) (rmq 1 21) [.ref (oa (13, j0)), .int v1, .int v2] μ (some (.int res)) μ := by
  refine Ct.of (by decide) (Nat.le_of_ble_eq_true rfl) (fun p e s m args below meth c A C hr hk hW ls hl => ?_)
  have hx := C.1.1
  have hb := C.1.2.1
  obtain ⟨Q, hQ⟩ : ∃ Q, Q = MQ below (Ctq D (faB oa aa sh) (feB tc oa aa sh ln) (some (.int res)) μ A) args s 0 0 A := ⟨_, rfl⟩
  rw [← hQ]
  have hl : lv_has ls 3 [(0, .ref (oa (13, j0))), (1, .int v1), (2, .int v2)] := hl
  unfold f_X6_hasSight at hf
  refine lv_aload_n hx hb dX6_hasSight_0 rfl (lv_at hl 0 rfl) ?_
  refine lv_iload_n hx hb dX6_hasSight_1 rfl (lv_at hl 2 rfl) ?_
  obtain ⟨x2, h2, hf⟩ := bd_of hf
  refine r_callV (k := ((13, j0) : Ky)) C hW hl lk_X6_76 (c_X6_hasPerson hwf hj0 h2) ⟨rfl, rfl⟩ ⟨Nat.le_of_ble_eq_true rfl, Nat.le_of_ble_eq_true rfl⟩ rfl (faB_13 hj0) rfl (As := [.int v2]) (rest := []) rfl rfl (Nat.le_of_ble_eq_true rfl) dX6_hasSight_2 ⟨Nat.zero_le _, Nat.zero_le _⟩ (fun H locs hW => ?_)
  show W p l e (rmq 1 21) s m args below meth c H locs 0 0 Q (F0 m 5 ls [.int x2])
  refine lv_if_eq (tgt := 28) hx hb dX6_hasSight_5 (by decide) (fun c1 => ?_) (fun c1 => ?_)
  · have hf := (if_pos c1).symm.trans hf
    refine lv_iconst (v := 0) hx hb dX6_hasSight_28 (by decide) ?_
    obtain rfl := Option.some.inj hf
    rw [hQ]
    exact r_zret C hr hk hW (Or.inl rfl) rfl rfl dX6_hasSight_29
  · have hf := (if_neg c1).symm.trans hf
    refine lv_aload_n hx hb dX6_hasSight_8 rfl (lv_at hl 0 rfl) ?_
    refine gf_X6_30 C hW hj0 dX6_hasSight_9 ?_
    refine lv_iload_n hx hb dX6_hasSight_12 rfl (lv_at hl 1 rfl) ?_
    obtain ⟨x13, h13, hf⟩ := bd_of hf
    refine r_callV (k := ((11, 15 + 5 * j0 + 1) : Ky)) C hW hl lk_X6_80 (c_X1_at hwf (cex_st hj0 (by decide)) h13) ⟨rfl, rfl⟩ ⟨Nat.le_of_ble_eq_true rfl, Nat.le_of_ble_eq_true rfl⟩ rfl (faB_11 (cex_st hj0 (by decide))) rfl (As := [.int v1]) (rest := []) rfl rfl (Nat.le_of_ble_eq_true rfl) dX6_hasSight_13 ⟨Nat.zero_le _, Nat.zero_le _⟩ (fun H locs hW => ?_)
    show W p l e (rmq 1 21) s m args below meth c H locs 0 0 Q (F0 m 16 ls [.int x13])
    refine lv_iload_n hx hb dX6_hasSight_16 rfl (lv_at hl 2 rfl) ?_
    refine lv_ishr hx hb dX6_hasSight_17 ?_
    refine lv_iconst (v := 1) hx hb dX6_hasSight_18 (by decide) ?_
    refine lv_iand hx hb dX6_hasSight_19 ?_
    refine lv_iconst (v := 1) hx hb dX6_hasSight_20 (by decide) ?_
    refine lv_icmp_ne (tgt := 28) hx hb dX6_hasSight_21 (by decide) (fun c2 => ?_) (fun c2 => ?_)
    · have hf := (if_neg c2).symm.trans hf
      refine lv_iconst (v := 0) hx hb dX6_hasSight_28 (by decide) ?_
      obtain rfl := Option.some.inj hf
      rw [hQ]
      exact r_zret C hr hk hW (Or.inl rfl) rfl rfl dX6_hasSight_29
    · have hf := (if_pos c2).symm.trans hf
      refine lv_iconst (v := 1) hx hb dX6_hasSight_24 (by decide) ?_
      refine lv_goto (tgt := 29) hx hb dX6_hasSight_25 (by decide) ?_
      obtain rfl := Option.some.inj hf
      rw [hQ]
      exact r_zret C hr hk hW (Or.inr rfl) rfl rfl dX6_hasSight_29
set_option maxHeartbeats 4000000 in
set_option maxRecDepth 100000 in
theorem c_X6_stands {l : Launch} {D : va_G} {tc : Nat → ClassId} {ro : Ro} {oa : Ky → Nat} {aa : Nat → Nat} {sh : Sh} {ln : Nat → Nat} {j0 : Nat} {μ : Mm} {v1 : Int32} {res : Int32} (hwf : WfS sh) (hj0 : sh 2 j0 = 1) (hf : f_X6_stands sh ln j0 μ v1 = some res) : Ct l D tc ro (faB oa aa sh) (feB tc oa aa sh ln) yX6_stands cX6_stands 2 (some .boolean) (rmq 1 21) [.ref (oa (13, j0)), .int v1] μ (some (.int res)) μ := by
  refine Ct.of (by decide) (Nat.le_of_ble_eq_true rfl) (fun p e s m args below meth c A C hr hk hW ls hl => ?_)
  have hx := C.1.1
  have hb := C.1.2.1
  obtain ⟨Q, hQ⟩ : ∃ Q, Q = MQ below (Ctq D (faB oa aa sh) (feB tc oa aa sh ln) (some (.int res)) μ A) args s 0 0 A := ⟨_, rfl⟩
  rw [← hQ]
  have hl : lv_has ls 2 [(0, .ref (oa (13, j0))), (1, .int v1)] := hl
  unfold f_X6_stands at hf
  refine lv_aload_n hx hb dX6_stands_0 rfl (lv_at hl 0 rfl) ?_
  refine gf_X6_33 C hW hj0 dX6_stands_1 ?_
  refine lv_iload_n hx hb dX6_stands_4 rfl (lv_at hl 1 rfl) ?_
  obtain ⟨x5, h5, hf⟩ := bd_of hf
  refine r_callV (k := ((11, 15 + 5 * j0 + 2) : Ky)) C hW hl lk_X6_80 (c_X1_at hwf (cex_st hj0 (by decide)) h5) ⟨rfl, rfl⟩ ⟨Nat.le_of_ble_eq_true rfl, Nat.le_of_ble_eq_true rfl⟩ rfl (faB_11 (cex_st hj0 (by decide))) rfl (As := [.int v1]) (rest := []) rfl rfl (Nat.le_of_ble_eq_true rfl) dX6_stands_5 ⟨Nat.zero_le _, Nat.zero_le _⟩ (fun H locs hW => ?_)
  show W p l e (rmq 1 21) s m args below meth c H locs 0 0 Q (F0 m 8 ls [.int x5])
  refine lv_iconst (v := 1) hx hb dX6_stands_8 (by decide) ?_
  refine lv_icmp_ne (tgt := 16) hx hb dX6_stands_9 (by decide) (fun c1 => ?_) (fun c1 => ?_)
  · have hf := (if_neg c1).symm.trans hf
    refine lv_iconst (v := 0) hx hb dX6_stands_16 (by decide) ?_
    obtain rfl := Option.some.inj hf
    rw [hQ]
    exact r_zret C hr hk hW (Or.inl rfl) rfl rfl dX6_stands_17
  · have hf := (if_pos c1).symm.trans hf
    refine lv_iconst (v := 1) hx hb dX6_stands_12 (by decide) ?_
    refine lv_goto (tgt := 17) hx hb dX6_stands_13 (by decide) ?_
    obtain rfl := Option.some.inj hf
    rw [hQ]
    exact r_zret C hr hk hW (Or.inr rfl) rfl rfl dX6_stands_17
set_option maxHeartbeats 4000000 in
set_option maxRecDepth 100000 in
theorem c_X6_seers {l : Launch} {D : va_G} {tc : Nat → ClassId} {ro : Ro} {oa : Ky → Nat} {aa : Nat → Nat} {sh : Sh} {ln : Nat → Nat} {j0 : Nat} {μ : Mm} {v1 : Int32} {res : Int32} (hwf : WfS sh) (hj0 : sh 2 j0 = 1) (hf : f_X6_seers sh ln j0 μ v1 = some res) : Ct l D tc ro (faB oa aa sh) (feB tc oa aa sh ln) yX6_seers cX6_seers 4 (some .int) (rmq 2 43) [.ref (oa (13, j0)), .int v1] μ (some (.int res)) μ := by
  refine Ct.of (by decide) (Nat.le_of_ble_eq_true rfl) (fun p e s m args below meth c A C hr hk hW ls hl => ?_)
  have hx := C.1.1
  have hb := C.1.2.1
  obtain ⟨Q, hQ⟩ : ∃ Q, Q = MQ below (Ctq D (faB oa aa sh) (feB tc oa aa sh ln) (some (.int res)) μ A) args s 0 0 A := ⟨_, rfl⟩
  rw [← hQ]
  have hl : lv_has ls 4 [(0, .ref (oa (13, j0))), (1, .int v1)] := hl
  unfold f_X6_seers at hf
  refine lv_iconst (v := 0) hx hb dX6_seers_0 (by decide) ?_
  refine lv_istore_n (lv' := [(2, .int (0 : Int32)), (0, .ref (oa (13, j0))), (1, .int v1)]) hx hb dX6_seers_1 rfl hl (by decide) rfl (fun ls hl => ?_)
  refine lv_iconst (v := 0) hx hb dX6_seers_2 (by decide) ?_
  refine lv_istore_n (lv' := [(3, .int (0 : Int32)), (2, .int (0 : Int32)), (0, .ref (oa (13, j0))), (1, .int v1)]) hx hb dX6_seers_3 rfl hl (by decide) rfl (fun ls hl => ?_)
  have L4 : ∀ (v2 v3 : Int32) (H : Heap) (locs : List Loc) (ls : Array Slot), Wh (fun z : Int32 × Int32 => f_X6_seers_L4 sh ln j0 v1 μ z.1 z.2) (v2, v3) = some res → Wd D (faB oa aa sh) (feB tc oa aa sh ln) A s.heap μ H locs → lv_has ls 4 [(0, .ref (oa (13, j0))), (1, .int v1), (2, .int v2), (3, .int v3)] → W p l e (rmq 2 43) s m args below meth c H locs 0 0 Q (F0 m 4 ls []) := by
    intro v2 v3 H locs ls hf hW hl
    refine Wh_rule hf (fun z : Int32 × Int32 => ∀ (H : Heap) (locs : List Loc) (ls : Array Slot), Wd D (faB oa aa sh) (feB tc oa aa sh ln) A s.heap μ H locs → lv_has ls 4 [(0, .ref (oa (13, j0))), (1, .int v1), (2, .int z.1), (3, .int z.2)] → W p l e (rmq 2 43) s m args below meth c H locs 0 0 Q (F0 m 4 ls [])) (fun z o1 hf Kl1 Kr1 => ?_) _ _ _ hW hl
    obtain ⟨v2, v3⟩ := z
    intro H locs ls hW hl
    have hf : f_X6_seers_L4 sh ln j0 v1 μ v2 v3 = some o1 := hf
    unfold f_X6_seers_L4 at hf
    have hW : Wd D (faB oa aa sh) (feB tc oa aa sh ln) A s.heap μ H locs := hW
    have hl : lv_has ls 4 [(0, .ref (oa (13, j0))), (1, .int v1), (2, .int v2), (3, .int v3)] := hl
    refine lv_iload_n hx hb dX6_seers_4 rfl (lv_at hl 3 rfl) ?_
    refine lv_aload_n hx hb dX6_seers_5 rfl (lv_at hl 0 rfl) ?_
    refine gf_X6_46 C hW hj0 dX6_seers_6 ?_
    refine lv_icmp_ge (tgt := 33) hx hb dX6_seers_9 (by decide) (fun c1 => ?_) (fun c1 => ?_)
    · have hf := (if_pos c1).symm.trans hf
      obtain ⟨x9002, hf, hx9002⟩ := map_of hf
      have e9002 := (Kr1 _ hx9002.symm).symm
      subst e9002
      refine lv_iload_n hx hb dX6_seers_33 rfl (lv_at hl 2 rfl) ?_
      obtain rfl := Option.some.inj hf
      rw [hQ]
      exact r_iret C hr hk hW rfl rfl dX6_seers_34
    · have hf := (if_neg c1).symm.trans hf
      refine lv_aload_n hx hb dX6_seers_12 rfl (lv_at hl 0 rfl) ?_
      refine lv_iload_n hx hb dX6_seers_13 rfl (lv_at hl 3 rfl) ?_
      refine lv_iload_n hx hb dX6_seers_14 rfl (lv_at hl 1 rfl) ?_
      obtain ⟨x15, h15, hf⟩ := bd_of hf
      refine r_callV (k := ((13, j0) : Ky)) C hW hl lk_X6_84 (c_X6_hasSight hwf hj0 h15) ⟨rfl, rfl⟩ ⟨Nat.le_of_ble_eq_true rfl, Nat.le_of_ble_eq_true rfl⟩ rfl (faB_13 hj0) rfl (As := [.int v3, .int v1]) (rest := []) rfl rfl (Nat.le_of_ble_eq_true rfl) dX6_seers_15 ⟨Nat.zero_le _, Nat.zero_le _⟩ (fun H locs hW => ?_)
      show W p l e (rmq 2 43) s m args below meth c H locs 0 0 Q (F0 m 18 ls [.int x15])
      refine lv_if_eq (tgt := 27) hx hb dX6_seers_18 (by decide) (fun c3 => ?_) (fun c3 => ?_)
      · have hf := (if_pos c3).symm.trans hf
        refine lv_iinc (v := (v3 + (1 : Int32))) (lv' := [(3, .int (v3 + (1 : Int32))), (0, .ref (oa (13, j0))), (1, .int v1), (2, .int v2)]) hx hb dX6_seers_27 hl (k := 3) rfl rfl (by decide) rfl (fun ls hl => ?_)
        refine lv_goto (tgt := 4) hx hb dX6_seers_30 (by decide) ?_
        obtain rfl := Option.some.inj hf
        exact Kl1 _ rfl _ _ _ hW (lv_sub hl [1, 2, 3, 0] rfl)
      · have hf := (if_neg c3).symm.trans hf
        refine lv_iload_n hx hb dX6_seers_21 rfl (lv_at hl 2 rfl) ?_
        refine lv_iconst (v := 1) hx hb dX6_seers_22 (by decide) ?_
        refine lv_iload_n hx hb dX6_seers_23 rfl (lv_at hl 3 rfl) ?_
        refine lv_ishl hx hb dX6_seers_24 ?_
        refine lv_ior hx hb dX6_seers_25 ?_
        refine lv_istore_n (lv' := [(2, .int (v2 ||| ((1 : Int32) <<< (v3 &&& 31)))), (0, .ref (oa (13, j0))), (1, .int v1), (3, .int v3)]) hx hb dX6_seers_26 rfl hl (by decide) rfl (fun ls hl => ?_)
        refine lv_iinc (v := (v3 + (1 : Int32))) (lv' := [(3, .int (v3 + (1 : Int32))), (2, .int (v2 ||| ((1 : Int32) <<< (v3 &&& 31)))), (0, .ref (oa (13, j0))), (1, .int v1)]) hx hb dX6_seers_27 hl (k := 3) rfl rfl (by decide) rfl (fun ls hl => ?_)
        refine lv_goto (tgt := 4) hx hb dX6_seers_30 (by decide) ?_
        obtain rfl := Option.some.inj hf
        exact Kl1 _ rfl _ _ _ hW (lv_sub hl [2, 3, 1, 0] rfl)
  exact L4 (0 : Int32) (0 : Int32) _ _ _ hf hW (lv_sub hl [2, 3, 1, 0] rfl)
set_option maxHeartbeats 4000000 in
set_option maxRecDepth 100000 in
theorem c_X6_figure {l : Launch} {D : va_G} {tc : Nat → ClassId} {ro : Ro} {oa : Ky → Nat} {aa : Nat → Nat} {sh : Sh} {ln : Nat → Nat} {j0 : Nat} {μ : Mm} {v1 v2 : Int32} {res : Int32} (hwf : WfS sh) (hj0 : sh 2 j0 = 1) (hf : f_X6_figure sh ln j0 μ v1 v2 = some res) : Ct l D tc ro (faB oa aa sh) (feB tc oa aa sh ln) yX6_figure cX6_figure 4 (some .int) (rmq 1 21) [.ref (oa (13, j0)), .int v1, .int v2] μ (some (.int res)) μ := by
  refine Ct.of (by decide) (Nat.le_of_ble_eq_true rfl) (fun p e s m args below meth c A C hr hk hW ls hl => ?_)
  have hx := C.1.1
  have hb := C.1.2.1
  obtain ⟨Q, hQ⟩ : ∃ Q, Q = MQ below (Ctq D (faB oa aa sh) (feB tc oa aa sh ln) (some (.int res)) μ A) args s 0 0 A := ⟨_, rfl⟩
  rw [← hQ]
  have hl : lv_has ls 4 [(0, .ref (oa (13, j0))), (1, .int v1), (2, .int v2)] := hl
  unfold f_X6_figure at hf
  refine lv_aload_n hx hb dX6_figure_0 rfl (lv_at hl 0 rfl) ?_
  refine gf_X6_26 C hW hj0 dX6_figure_1 ?_
  refine lv_iload_n hx hb dX6_figure_4 rfl (lv_at hl 2 rfl) ?_
  obtain ⟨x5, h5, hf⟩ := bd_of hf
  refine r_callV (k := ((11, 15 + 5 * j0 + 0) : Ky)) C hW hl lk_X6_80 (c_X1_at hwf (cex_st hj0 (by decide)) h5) ⟨rfl, rfl⟩ ⟨Nat.le_of_ble_eq_true rfl, Nat.le_of_ble_eq_true rfl⟩ rfl (faB_11 (cex_st hj0 (by decide))) rfl (As := [.int v2]) (rest := []) rfl rfl (Nat.le_of_ble_eq_true rfl) dX6_figure_5 ⟨Nat.zero_le _, Nat.zero_le _⟩ (fun H locs hW => ?_)
  show W p l e (rmq 1 21) s m args below meth c H locs 0 0 Q (F0 m 8 ls [.int x5])
  refine lv_istore_n (lv' := [(3, .int x5), (0, .ref (oa (13, j0))), (1, .int v1), (2, .int v2)]) hx hb dX6_figure_8 rfl hl (by decide) rfl (fun ls hl => ?_)
  refine lv_iload_n hx hb dX6_figure_9 rfl (lv_at hl 0 rfl) ?_
  refine lv_if_le (tgt := 31) hx hb dX6_figure_10 (by decide) (fun c1 => ?_) (fun c1 => ?_)
  · have hf := (if_pos c1).symm.trans hf
    refine lv_iconst (v := 0) hx hb dX6_figure_31 (by decide) ?_
    obtain rfl := Option.some.inj hf
    rw [hQ]
    exact r_iret C hr hk hW rfl rfl dX6_figure_32
  · have hf := (if_neg c1).symm.trans hf
    refine lv_aload_n hx hb dX6_figure_13 rfl (lv_at hl 1 rfl) ?_
    refine gf_X6_9 C hW hj0 dX6_figure_14 ?_
    refine lv_if_le (tgt := 31) hx hb dX6_figure_17 (by decide) (fun c2 => ?_) (fun c2 => ?_)
    · have hf := (if_pos c2).symm.trans hf
      refine lv_iconst (v := 0) hx hb dX6_figure_31 (by decide) ?_
      obtain rfl := Option.some.inj hf
      rw [hQ]
      exact r_iret C hr hk hW rfl rfl dX6_figure_32
    · have hf := (if_neg c2).symm.trans hf
      refine lv_iload_n hx hb dX6_figure_20 rfl (lv_at hl 2 rfl) ?_
      refine lv_iload_n hx hb dX6_figure_21 rfl (lv_at hl 0 rfl) ?_
      obtain ⟨hz3, hf⟩ := cd_of hf
      refine lv_idiv hx hb dX6_figure_22 hz3 ?_
      refine lv_aload_n hx hb dX6_figure_23 rfl (lv_at hl 1 rfl) ?_
      refine gf_X6_9 C hW hj0 dX6_figure_24 ?_
      obtain ⟨hz4, hf⟩ := cd_of hf
      refine lv_irem hx hb dX6_figure_27 hz4 ?_
      refine lv_goto (tgt := 32) hx hb dX6_figure_28 (by decide) ?_
      obtain rfl := Option.some.inj hf
      rw [hQ]
      exact r_iret C hr hk hW rfl rfl dX6_figure_32
set_option maxHeartbeats 4000000 in
set_option maxRecDepth 100000 in
theorem c_X6_many {l : Launch} {D : va_G} {tc : Nat → ClassId} {ro : Ro} {oa : Ky → Nat} {aa : Nat → Nat} {sh : Sh} {ln : Nat → Nat} {j0 : Nat} {μ : Mm} {v1 v2 : Int32} {res : Int32} (hwf : WfS sh) (hj0 : sh 2 j0 = 1) (hf : f_X6_many sh ln j0 μ v1 v2 = some res) : Ct l D tc ro (faB oa aa sh) (feB tc oa aa sh ln) yX6_many cX6_many 5 (some .int) (rmq 2 44) [.ref (oa (13, j0)), .int v1, .int v2] μ (some (.int res)) μ := by
  refine Ct.of (by decide) (Nat.le_of_ble_eq_true rfl) (fun p e s m args below meth c A C hr hk hW ls hl => ?_)
  have hx := C.1.1
  have hb := C.1.2.1
  obtain ⟨Q, hQ⟩ : ∃ Q, Q = MQ below (Ctq D (faB oa aa sh) (feB tc oa aa sh ln) (some (.int res)) μ A) args s 0 0 A := ⟨_, rfl⟩
  rw [← hQ]
  have hl : lv_has ls 5 [(0, .ref (oa (13, j0))), (1, .int v1), (2, .int v2)] := hl
  unfold f_X6_many at hf
  refine lv_iconst (v := 0) hx hb dX6_many_0 (by decide) ?_
  refine lv_istore_n (lv' := [(3, .int (0 : Int32)), (0, .ref (oa (13, j0))), (1, .int v1), (2, .int v2)]) hx hb dX6_many_1 rfl hl (by decide) rfl (fun ls hl => ?_)
  refine lv_iconst (v := 0) hx hb dX6_many_2 (by decide) ?_
  refine lv_istore (lv' := [(4, .int (0 : Int32)), (3, .int (0 : Int32)), (0, .ref (oa (13, j0))), (1, .int v1), (2, .int v2)]) hx hb dX6_many_3 hl (by decide) rfl (fun ls hl => ?_)
  have L5 : ∀ (v3 v4 : Int32) (H : Heap) (locs : List Loc) (ls : Array Slot), Wh (fun z : Int32 × Int32 => f_X6_many_L5 sh ln j0 v1 v2 μ z.1 z.2) (v3, v4) = some res → Wd D (faB oa aa sh) (feB tc oa aa sh ln) A s.heap μ H locs → lv_has ls 5 [(0, .ref (oa (13, j0))), (1, .int v1), (2, .int v2), (3, .int v3), (4, .int v4)] → W p l e (rmq 2 44) s m args below meth c H locs 0 0 Q (F0 m 5 ls []) := by
    intro v3 v4 H locs ls hf hW hl
    refine Wh_rule hf (fun z : Int32 × Int32 => ∀ (H : Heap) (locs : List Loc) (ls : Array Slot), Wd D (faB oa aa sh) (feB tc oa aa sh ln) A s.heap μ H locs → lv_has ls 5 [(0, .ref (oa (13, j0))), (1, .int v1), (2, .int v2), (3, .int z.1), (4, .int z.2)] → W p l e (rmq 2 44) s m args below meth c H locs 0 0 Q (F0 m 5 ls [])) (fun z o1 hf Kl1 Kr1 => ?_) _ _ _ hW hl
    obtain ⟨v3, v4⟩ := z
    intro H locs ls hW hl
    have hf : f_X6_many_L5 sh ln j0 v1 v2 μ v3 v4 = some o1 := hf
    unfold f_X6_many_L5 at hf
    have hW : Wd D (faB oa aa sh) (feB tc oa aa sh ln) A s.heap μ H locs := hW
    have hl : lv_has ls 5 [(0, .ref (oa (13, j0))), (1, .int v1), (2, .int v2), (3, .int v3), (4, .int v4)] := hl
    refine lv_iload hx hb dX6_many_5 (lv_at hl 4 rfl) ?_
    refine lv_aload_n hx hb dX6_many_7 rfl (lv_at hl 0 rfl) ?_
    refine gf_X6_46 C hW hj0 dX6_many_8 ?_
    refine lv_icmp_ge (tgt := 34) hx hb dX6_many_11 (by decide) (fun c1 => ?_) (fun c1 => ?_)
    · have hf := (if_pos c1).symm.trans hf
      obtain ⟨x9002, hf, hx9002⟩ := map_of hf
      have e9002 := (Kr1 _ hx9002.symm).symm
      subst e9002
      refine lv_iload_n hx hb dX6_many_34 rfl (lv_at hl 3 rfl) ?_
      obtain rfl := Option.some.inj hf
      rw [hQ]
      exact r_iret C hr hk hW rfl rfl dX6_many_35
    · have hf := (if_neg c1).symm.trans hf
      refine lv_aload_n hx hb dX6_many_14 rfl (lv_at hl 0 rfl) ?_
      refine lv_iload_n hx hb dX6_many_15 rfl (lv_at hl 1 rfl) ?_
      refine lv_iload hx hb dX6_many_16 (lv_at hl 4 rfl) ?_
      obtain ⟨x18, h18, hf⟩ := bd_of hf
      refine r_callV (k := ((13, j0) : Ky)) C hW hl lk_X6_88 (c_X6_figure hwf hj0 h18) ⟨rfl, rfl⟩ ⟨Nat.le_of_ble_eq_true rfl, Nat.le_of_ble_eq_true rfl⟩ rfl (faB_13 hj0) rfl (As := [.int v1, .int v4]) (rest := []) rfl rfl (Nat.le_of_ble_eq_true rfl) dX6_many_18 ⟨Nat.zero_le _, Nat.zero_le _⟩ (fun H locs hW => ?_)
      show W p l e (rmq 2 44) s m args below meth c H locs 0 0 Q (F0 m 21 ls [.int x18])
      refine lv_iload_n hx hb dX6_many_21 rfl (lv_at hl 2 rfl) ?_
      refine lv_icmp_ne (tgt := 28) hx hb dX6_many_22 (by decide) (fun c3 => ?_) (fun c3 => ?_)
      · have hf := (if_neg c3).symm.trans hf
        refine lv_iinc (v := (v4 + (1 : Int32))) (lv' := [(4, .int (v4 + (1 : Int32))), (0, .ref (oa (13, j0))), (1, .int v1), (2, .int v2), (3, .int v3)]) hx hb dX6_many_28 hl (k := 4) rfl rfl (by decide) rfl (fun ls hl => ?_)
        refine lv_goto (tgt := 5) hx hb dX6_many_31 (by decide) ?_
        obtain rfl := Option.some.inj hf
        exact Kl1 _ rfl _ _ _ hW (lv_sub hl [1, 2, 3, 4, 0] rfl)
      · have hf := (if_pos c3).symm.trans hf
        refine lv_iinc (v := (v3 + (1 : Int32))) (lv' := [(3, .int (v3 + (1 : Int32))), (0, .ref (oa (13, j0))), (1, .int v1), (2, .int v2), (4, .int v4)]) hx hb dX6_many_25 hl (k := 3) rfl rfl (by decide) rfl (fun ls hl => ?_)
        refine lv_iinc (v := (v4 + (1 : Int32))) (lv' := [(4, .int (v4 + (1 : Int32))), (3, .int (v3 + (1 : Int32))), (0, .ref (oa (13, j0))), (1, .int v1), (2, .int v2)]) hx hb dX6_many_28 hl (k := 4) rfl rfl (by decide) rfl (fun ls hl => ?_)
        refine lv_goto (tgt := 5) hx hb dX6_many_31 (by decide) ?_
        obtain rfl := Option.some.inj hf
        exact Kl1 _ rfl _ _ _ hW (lv_sub hl [2, 3, 4, 1, 0] rfl)
  exact L5 (0 : Int32) (0 : Int32) _ _ _ hf hW (lv_sub hl [2, 3, 4, 1, 0] rfl)
set_option maxHeartbeats 4000000 in
set_option maxRecDepth 100000 in
theorem c_X6_group {l : Launch} {D : va_G} {tc : Nat → ClassId} {ro : Ro} {oa : Ky → Nat} {aa : Nat → Nat} {sh : Sh} {ln : Nat → Nat} {j0 : Nat} {μ : Mm} {v1 v2 : Int32} {res : Int32} (hwf : WfS sh) (hj0 : sh 2 j0 = 1) (hf : f_X6_group sh ln j0 μ v1 v2 = some res) : Ct l D tc ro (faB oa aa sh) (feB tc oa aa sh ln) yX6_group cX6_group 3 (some .int) (rmq 1 21) [.ref (oa (13, j0)), .int v1, .int v2] μ (some (.int res)) μ := by
  refine Ct.of (by decide) (Nat.le_of_ble_eq_true rfl) (fun p e s m args below meth c A C hr hk hW ls hl => ?_)
  have hx := C.1.1
  have hb := C.1.2.1
  obtain ⟨Q, hQ⟩ : ∃ Q, Q = MQ below (Ctq D (faB oa aa sh) (feB tc oa aa sh ln) (some (.int res)) μ A) args s 0 0 A := ⟨_, rfl⟩
  rw [← hQ]
  have hl : lv_has ls 3 [(0, .ref (oa (13, j0))), (1, .int v1), (2, .int v2)] := hl
  unfold f_X6_group at hf
  refine lv_aload_n hx hb dX6_group_0 rfl (lv_at hl 0 rfl) ?_
  refine gf_X6_36 C hW hj0 dX6_group_1 ?_
  refine lv_iload_n hx hb dX6_group_4 rfl (lv_at hl 1 rfl) ?_
  refine lv_aload_n hx hb dX6_group_5 rfl (lv_at hl 0 rfl) ?_
  refine gf_X6_15 C hW hj0 dX6_group_6 ?_
  refine lv_imul hx hb dX6_group_9 ?_
  refine lv_iload_n hx hb dX6_group_10 rfl (lv_at hl 2 rfl) ?_
  refine lv_iadd hx hb dX6_group_11 ?_
  obtain ⟨x12, h12, hf⟩ := bd_of hf
  refine r_callV (k := ((11, 15 + 5 * j0 + 3) : Ky)) C hW hl lk_X6_80 (c_X1_at hwf (cex_st hj0 (by decide)) h12) ⟨rfl, rfl⟩ ⟨Nat.le_of_ble_eq_true rfl, Nat.le_of_ble_eq_true rfl⟩ rfl (faB_11 (cex_st hj0 (by decide))) rfl (As := [.int ((v1 * (μ (13, j0) 2)) + v2)]) (rest := []) rfl rfl (Nat.le_of_ble_eq_true rfl) dX6_group_12 ⟨Nat.zero_le _, Nat.zero_le _⟩ (fun H locs hW => ?_)
  show W p l e (rmq 1 21) s m args below meth c H locs 0 0 Q (F0 m 15 ls [.int x12])
  obtain rfl := Option.some.inj hf
  rw [hQ]
  exact r_iret C hr hk hW rfl rfl dX6_group_15
set_option maxHeartbeats 4000000 in
set_option maxRecDepth 100000 in
theorem c_X6_hasRoom {l : Launch} {D : va_G} {tc : Nat → ClassId} {ro : Ro} {oa : Ky → Nat} {aa : Nat → Nat} {sh : Sh} {ln : Nat → Nat} {j0 : Nat} {μ : Mm} {res : Int32} (hwf : WfS sh) (hj0 : sh 2 j0 = 1) (hf : f_X6_hasRoom sh ln j0 μ = some res) : Ct l D tc ro (faB oa aa sh) (feB tc oa aa sh ln) yX6_hasRoom cX6_hasRoom 1 (some .boolean) (rmq 0 0) [.ref (oa (13, j0))] μ (some (.int res)) μ := by
  refine Ct.of (by decide) (Nat.le_of_ble_eq_true rfl) (fun p e s m args below meth c A C hr hk hW ls hl => ?_)
  have hx := C.1.1
  have hb := C.1.2.1
  obtain ⟨Q, hQ⟩ : ∃ Q, Q = MQ below (Ctq D (faB oa aa sh) (feB tc oa aa sh ln) (some (.int res)) μ A) args s 0 0 A := ⟨_, rfl⟩
  rw [← hQ]
  have hl : lv_has ls 1 [(0, .ref (oa (13, j0)))] := hl
  unfold f_X6_hasRoom at hf
  refine lv_aload_n hx hb dX6_hasRoom_0 rfl (lv_at hl 0 rfl) ?_
  refine gf_X6_46 C hW hj0 dX6_hasRoom_1 ?_
  refine lv_bipush (v := 9) hx hb dX6_hasRoom_4 (by decide) ?_
  refine lv_icmp_ge (tgt := 28) hx hb dX6_hasRoom_6 (by decide) (fun c1 => ?_) (fun c1 => ?_)
  · have hf := (if_pos c1).symm.trans hf
    refine lv_iconst (v := 0) hx hb dX6_hasRoom_28 (by decide) ?_
    obtain rfl := Option.some.inj hf
    rw [hQ]
    exact r_zret C hr hk hW (Or.inl rfl) rfl rfl dX6_hasRoom_29
  · have hf := (if_neg c1).symm.trans hf
    refine lv_aload_n hx hb dX6_hasRoom_9 rfl (lv_at hl 0 rfl) ?_
    refine gf_X6_15 C hW hj0 dX6_hasRoom_10 ?_
    refine lv_aload_n hx hb dX6_hasRoom_13 rfl (lv_at hl 0 rfl) ?_
    refine gf_X6_9 C hW hj0 dX6_hasRoom_14 ?_
    refine lv_imul hx hb dX6_hasRoom_17 ?_
    refine lv_sipush (v := 512) hx hb dX6_hasRoom_18 (by decide) ?_
    refine lv_icmp_gt (tgt := 28) hx hb dX6_hasRoom_21 (by decide) (fun c2 => ?_) (fun c2 => ?_)
    · have hf := (if_pos c2).symm.trans hf
      refine lv_iconst (v := 0) hx hb dX6_hasRoom_28 (by decide) ?_
      obtain rfl := Option.some.inj hf
      rw [hQ]
      exact r_zret C hr hk hW (Or.inl rfl) rfl rfl dX6_hasRoom_29
    · have hf := (if_neg c2).symm.trans hf
      refine lv_iconst (v := 1) hx hb dX6_hasRoom_24 (by decide) ?_
      refine lv_goto (tgt := 29) hx hb dX6_hasRoom_25 (by decide) ?_
      obtain rfl := Option.some.inj hf
      rw [hQ]
      exact r_zret C hr hk hW (Or.inr rfl) rfl rfl dX6_hasRoom_29
set_option maxHeartbeats 4000000 in
set_option maxRecDepth 100000 in
theorem c_X6_join {l : Launch} {D : va_G} {tc : Nat → ClassId} {ro : Ro} {oa : Ky → Nat} {aa : Nat → Nat} {sh : Sh} {ln : Nat → Nat} {j0 : Nat} {μ : Mm} {v1 : Int32} {res : Mm} (hwf : WfS sh) (hj0 : sh 2 j0 = 1) (hf : f_X6_join sh ln j0 μ v1 = some res) : Ct l D tc ro (faB oa aa sh) (feB tc oa aa sh ln) yX6_join cX6_join 3 none (rmq 3 68) [.ref (oa (13, j0)), .int v1] μ none res := by
  refine Ct.of (by decide) (Nat.le_of_ble_eq_true rfl) (fun p e s m args below meth c A C hr hk hW ls hl => ?_)
  have hx := C.1.1
  have hb := C.1.2.1
  obtain ⟨Q, hQ⟩ : ∃ Q, Q = MQ below (Ctq D (faB oa aa sh) (feB tc oa aa sh ln) none res A) args s 0 0 A := ⟨_, rfl⟩
  rw [← hQ]
  have hl : lv_has ls 3 [(0, .ref (oa (13, j0))), (1, .int v1)] := hl
  unfold f_X6_join at hf
  refine lv_iconst (v := 0) hx hb dX6_join_0 (by decide) ?_
  refine lv_istore_n (lv' := [(2, .int (0 : Int32)), (0, .ref (oa (13, j0))), (1, .int v1)]) hx hb dX6_join_1 rfl hl (by decide) rfl (fun ls hl => ?_)
  have L2 : ∀ (μ : Mm) (v2 : Int32) (H : Heap) (locs : List Loc) (ls : Array Slot), Wh (fun z : Mm × Int32 => f_X6_join_L2 sh ln j0 v1 z.1 z.2) (μ, v2) = some res → Wd D (faB oa aa sh) (feB tc oa aa sh ln) A s.heap μ H locs → lv_has ls 3 [(0, .ref (oa (13, j0))), (1, .int v1), (2, .int v2)] → W p l e (rmq 3 68) s m args below meth c H locs 0 0 Q (F0 m 2 ls []) := by
    intro μ v2 H locs ls hf hW hl
    refine Wh_rule hf (fun z : Mm × Int32 => ∀ (H : Heap) (locs : List Loc) (ls : Array Slot), Wd D (faB oa aa sh) (feB tc oa aa sh ln) A s.heap z.1 H locs → lv_has ls 3 [(0, .ref (oa (13, j0))), (1, .int v1), (2, .int z.2)] → W p l e (rmq 3 68) s m args below meth c H locs 0 0 Q (F0 m 2 ls [])) (fun z o1 hf Kl1 Kr1 => ?_) _ _ _ hW hl
    obtain ⟨μ, v2⟩ := z
    intro H locs ls hW hl
    have hf : f_X6_join_L2 sh ln j0 v1 μ v2 = some o1 := hf
    unfold f_X6_join_L2 at hf
    have hW : Wd D (faB oa aa sh) (feB tc oa aa sh ln) A s.heap μ H locs := hW
    have hl : lv_has ls 3 [(0, .ref (oa (13, j0))), (1, .int v1), (2, .int v2)] := hl
    refine lv_iload_n hx hb dX6_join_2 rfl (lv_at hl 2 rfl) ?_
    refine lv_aload_n hx hb dX6_join_3 rfl (lv_at hl 0 rfl) ?_
    refine gf_X6_46 C hW hj0 dX6_join_4 ?_
    refine lv_icmp_ge (tgt := 37) hx hb dX6_join_7 (by decide) (fun c1 => ?_) (fun c1 => ?_)
    · have hf := (if_pos c1).symm.trans hf
      obtain ⟨x9003, hf, hx9003⟩ := map_of hf
      have e9003 := (Kr1 _ hx9003.symm).symm
      subst e9003
      refine lv_aload_n hx hb dX6_join_37 rfl (lv_at hl 0 rfl) ?_
      refine gf_X6_26 C hW hj0 dX6_join_38 ?_
      refine lv_aload_n hx hb dX6_join_41 rfl (lv_at hl 0 rfl) ?_
      refine gf_X6_46 C hW hj0 dX6_join_42 ?_
      refine lv_iconst (v := 1) hx hb dX6_join_45 (by decide) ?_
      obtain ⟨x46, h46, hf⟩ := bd_of hf
      refine r_callV (k := ((11, 15 + 5 * j0 + 0) : Ky)) C hW hl lk_X6_42 (c_X1_put hwf (cex_st hj0 (by decide)) h46) ⟨rfl, rfl⟩ ⟨Nat.le_of_ble_eq_true rfl, Nat.le_of_ble_eq_true rfl⟩ rfl (faB_11 (cex_st hj0 (by decide))) rfl (As := [.int (μ (13, j0) 1), .int (1 : Int32)]) (rest := []) rfl rfl (Nat.le_of_ble_eq_true rfl) dX6_join_46 ⟨Nat.zero_le _, Nat.zero_le _⟩ (fun H locs hW => ?_)
      show W p l e (rmq 3 68) s m args below meth c H locs 0 0 Q (F0 m 49 ls [])
      refine lv_aload_n hx hb dX6_join_49 rfl (lv_at hl 0 rfl) ?_
      refine gf_X6_30 C hW hj0 dX6_join_50 ?_
      refine lv_aload_n hx hb dX6_join_53 rfl (lv_at hl 0 rfl) ?_
      refine gf_X6_46 C hW hj0 dX6_join_54 ?_
      refine lv_iconst (v := 0) hx hb dX6_join_57 (by decide) ?_
      obtain ⟨x58, h58, hf⟩ := bd_of hf
      refine r_callV (k := ((11, 15 + 5 * j0 + 1) : Ky)) C hW hl lk_X6_42 (c_X1_put hwf (cex_st hj0 (by decide)) h58) ⟨rfl, rfl⟩ ⟨Nat.le_of_ble_eq_true rfl, Nat.le_of_ble_eq_true rfl⟩ rfl (faB_11 (cex_st hj0 (by decide))) rfl (As := [.int (x46 (13, j0) 1), .int (0 : Int32)]) (rest := []) rfl rfl (Nat.le_of_ble_eq_true rfl) dX6_join_58 ⟨Nat.zero_le _, Nat.zero_le _⟩ (fun H locs hW => ?_)
      show W p l e (rmq 3 68) s m args below meth c H locs 0 0 Q (F0 m 61 ls [])
      refine lv_aload_n hx hb dX6_join_61 rfl (lv_at hl 0 rfl) ?_
      refine lv_dup hx hb dX6_join_62 rfl ?_
      refine gf_X6_46 C hW hj0 dX6_join_63 ?_
      refine lv_iconst (v := 1) hx hb dX6_join_66 (by decide) ?_
      refine lv_iadd hx hb dX6_join_67 ?_
      refine pf_X6_46 C hW hj0 dX6_join_68 (fun H locs hW => ?_)
      refine lv_aload_n hx hb dX6_join_71 rfl (lv_at hl 0 rfl) ?_
      refine lv_dup hx hb dX6_join_72 rfl ?_
      refine gf_X6_15 C hW hj0 dX6_join_73 ?_
      refine lv_aload_n hx hb dX6_join_76 rfl (lv_at hl 0 rfl) ?_
      refine gf_X6_9 C hW hj0 dX6_join_77 ?_
      refine lv_imul hx hb dX6_join_80 ?_
      refine pf_X6_15 C hW hj0 dX6_join_81 (fun H locs hW => ?_)
      obtain ⟨μ2, hm2, hf⟩ := bd_of hf
      rw [Option.some.inj hm2] at hW
      refine lv_aload_n hx hb dX6_join_84 rfl (lv_at hl 0 rfl) ?_
      refine lv_aload_n hx hb dX6_join_85 rfl (lv_at hl 0 rfl) ?_
      refine gf_X6_49 C hW hj0 dX6_join_86 ?_
      refine lv_aload_n hx hb dX6_join_89 rfl (lv_at hl 0 rfl) ?_
      refine gf_X6_9 C hW hj0 dX6_join_90 ?_
      refine lv_imul hx hb dX6_join_93 ?_
      refine lv_iload_n hx hb dX6_join_94 rfl (lv_at hl 1 rfl) ?_
      refine lv_iadd hx hb dX6_join_95 ?_
      refine pf_X6_49 C hW hj0 dX6_join_96 (fun H locs hW => ?_)
      refine lv_aload_n hx hb dX6_join_99 rfl (lv_at hl 0 rfl) ?_
      refine gf_X6_33 C hW hj0 dX6_join_100 ?_
      refine lv_aload_n hx hb dX6_join_103 rfl (lv_at hl 0 rfl) ?_
      refine gf_X6_15 C hW hj0 dX6_join_104 ?_
      obtain ⟨x107, h107, hf⟩ := bd_of hf
      refine r_callV (k := ((11, 15 + 5 * j0 + 2) : Ky)) C hW hl lk_X6_92 (c_X1_grow hwf (cex_st hj0 (by decide)) h107) ⟨rfl, rfl⟩ ⟨Nat.le_of_ble_eq_true rfl, Nat.le_of_ble_eq_true rfl⟩ rfl (faB_11 (cex_st hj0 (by decide))) rfl (As := [.int ((mst μ2 (13, j0) 3 (((μ2 (13, j0) 3) * (μ2 (13, j0) 0)) + v1)) (13, j0) 2)]) (rest := []) rfl rfl (Nat.le_of_ble_eq_true rfl) dX6_join_107 ⟨Nat.zero_le _, Nat.zero_le _⟩ (fun H locs hW => ?_)
      show W p l e (rmq 3 68) s m args below meth c H locs 0 0 Q (F0 m 110 ls [])
      refine lv_aload_n hx hb dX6_join_110 rfl (lv_at hl 0 rfl) ?_
      refine gf_X6_33 C hW hj0 dX6_join_111 ?_
      refine lv_iconst (v := 1) hx hb dX6_join_114 (by decide) ?_
      refine lv_aload_n hx hb dX6_join_115 rfl (lv_at hl 0 rfl) ?_
      refine gf_X6_15 C hW hj0 dX6_join_116 ?_
      obtain ⟨x119, h119, hf⟩ := bd_of hf
      refine r_callV (k := ((11, 15 + 5 * j0 + 2) : Ky)) C hW hl lk_X6_95 (c_X1_fill hwf (cex_st hj0 (by decide)) h119) ⟨rfl, rfl⟩ ⟨Nat.le_of_ble_eq_true rfl, Nat.le_of_ble_eq_true rfl⟩ rfl (faB_11 (cex_st hj0 (by decide))) rfl (As := [.int (1 : Int32), .int (x107 (13, j0) 2)]) (rest := []) rfl rfl (Nat.le_of_ble_eq_true rfl) dX6_join_119 ⟨Nat.zero_le _, Nat.zero_le _⟩ (fun H locs hW => ?_)
      show W p l e (rmq 3 68) s m args below meth c H locs 0 0 Q (F0 m 122 ls [])
      refine lv_aload_n hx hb dX6_join_122 rfl (lv_at hl 0 rfl) ?_
      refine gf_X6_36 C hW hj0 dX6_join_123 ?_
      refine lv_aload_n hx hb dX6_join_126 rfl (lv_at hl 0 rfl) ?_
      refine gf_X6_46 C hW hj0 dX6_join_127 ?_
      refine lv_aload_n hx hb dX6_join_130 rfl (lv_at hl 0 rfl) ?_
      refine gf_X6_15 C hW hj0 dX6_join_131 ?_
      refine lv_imul hx hb dX6_join_134 ?_
      obtain ⟨x135, h135, hf⟩ := bd_of hf
      refine r_callV (k := ((11, 15 + 5 * j0 + 3) : Ky)) C hW hl lk_X6_92 (c_X1_grow hwf (cex_st hj0 (by decide)) h135) ⟨rfl, rfl⟩ ⟨Nat.le_of_ble_eq_true rfl, Nat.le_of_ble_eq_true rfl⟩ rfl (faB_11 (cex_st hj0 (by decide))) rfl (As := [.int ((x119 (13, j0) 1) * (x119 (13, j0) 2))]) (rest := []) rfl rfl (Nat.le_of_ble_eq_true rfl) dX6_join_135 ⟨Nat.zero_le _, Nat.zero_le _⟩ (fun H locs hW => ?_)
      show W p l e (rmq 3 68) s m args below meth c H locs 0 0 Q (F0 m 138 ls [])
      refine lv_aload_n hx hb dX6_join_138 rfl (lv_at hl 0 rfl) ?_
      refine gf_X6_36 C hW hj0 dX6_join_139 ?_
      refine lv_iconst (v := 0) hx hb dX6_join_142 (by decide) ?_
      refine lv_aload_n hx hb dX6_join_143 rfl (lv_at hl 0 rfl) ?_
      refine gf_X6_46 C hW hj0 dX6_join_144 ?_
      refine lv_aload_n hx hb dX6_join_147 rfl (lv_at hl 0 rfl) ?_
      refine gf_X6_15 C hW hj0 dX6_join_148 ?_
      refine lv_imul hx hb dX6_join_151 ?_
      obtain ⟨x152, h152, hf⟩ := bd_of hf
      refine r_callV (k := ((11, 15 + 5 * j0 + 3) : Ky)) C hW hl lk_X6_95 (c_X1_fill hwf (cex_st hj0 (by decide)) h152) ⟨rfl, rfl⟩ ⟨Nat.le_of_ble_eq_true rfl, Nat.le_of_ble_eq_true rfl⟩ rfl (faB_11 (cex_st hj0 (by decide))) rfl (As := [.int (0 : Int32), .int ((x135 (13, j0) 1) * (x135 (13, j0) 2))]) (rest := []) rfl rfl (Nat.le_of_ble_eq_true rfl) dX6_join_152 ⟨Nat.zero_le _, Nat.zero_le _⟩ (fun H locs hW => ?_)
      show W p l e (rmq 3 68) s m args below meth c H locs 0 0 Q (F0 m 155 ls [])
      obtain rfl := Option.some.inj hf
      rw [hQ]
      exact r_vret C hr hk hW rfl rfl dX6_join_155
    · have hf := (if_neg c1).symm.trans hf
      refine lv_aload_n hx hb dX6_join_10 rfl (lv_at hl 0 rfl) ?_
      refine gf_X6_26 C hW hj0 dX6_join_11 ?_
      refine lv_iload_n hx hb dX6_join_14 rfl (lv_at hl 2 rfl) ?_
      refine lv_aload_n hx hb dX6_join_15 rfl (lv_at hl 0 rfl) ?_
      refine gf_X6_26 C hW hj0 dX6_join_16 ?_
      refine lv_iload_n hx hb dX6_join_19 rfl (lv_at hl 2 rfl) ?_
      obtain ⟨x20, h20, hf⟩ := bd_of hf
      refine r_callV (k := ((11, 15 + 5 * j0 + 0) : Ky)) C hW hl lk_X6_80 (c_X1_at hwf (cex_st hj0 (by decide)) h20) ⟨rfl, rfl⟩ ⟨Nat.le_of_ble_eq_true rfl, Nat.le_of_ble_eq_true rfl⟩ rfl (faB_11 (cex_st hj0 (by decide))) rfl (As := [.int v2]) (rest := [.int v2, .ref (oa (11, 15 + 5 * j0 + 0))]) rfl rfl (Nat.le_of_ble_eq_true rfl) dX6_join_20 ⟨Nat.zero_le _, Nat.zero_le _⟩ (fun H locs hW => ?_)
      show W p l e (rmq 3 68) s m args below meth c H locs 0 0 Q (F0 m 23 ls [.int x20, .int v2, .ref (oa (11, 15 + 5 * j0 + 0))])
      refine lv_aload_n hx hb dX6_join_23 rfl (lv_at hl 0 rfl) ?_
      refine gf_X6_9 C hW hj0 dX6_join_24 ?_
      refine lv_imul hx hb dX6_join_27 ?_
      obtain ⟨x28, h28, hf⟩ := bd_of hf
      refine r_callV (k := ((11, 15 + 5 * j0 + 0) : Ky)) C hW hl lk_X6_42 (c_X1_put hwf (cex_st hj0 (by decide)) h28) ⟨rfl, rfl⟩ ⟨Nat.le_of_ble_eq_true rfl, Nat.le_of_ble_eq_true rfl⟩ rfl (faB_11 (cex_st hj0 (by decide))) rfl (As := [.int v2, .int (x20 * (μ (13, j0) 0))]) (rest := []) rfl rfl (Nat.le_of_ble_eq_true rfl) dX6_join_28 ⟨Nat.zero_le _, Nat.zero_le _⟩ (fun H locs hW => ?_)
      show W p l e (rmq 3 68) s m args below meth c H locs 0 0 Q (F0 m 31 ls [])
      refine lv_iinc (v := (v2 + (1 : Int32))) (lv' := [(2, .int (v2 + (1 : Int32))), (0, .ref (oa (13, j0))), (1, .int v1)]) hx hb dX6_join_31 hl (k := 2) rfl rfl (by decide) rfl (fun ls hl => ?_)
      refine lv_goto (tgt := 2) hx hb dX6_join_34 (by decide) ?_
      obtain rfl := Option.some.inj hf
      exact Kl1 _ rfl _ _ _ hW (lv_sub hl [1, 2, 0] rfl)
  exact L2 μ (0 : Int32) _ _ _ hf hW (lv_sub hl [1, 2, 0] rfl)
set_option maxHeartbeats 4000000 in
set_option maxRecDepth 100000 in
theorem c_X6_draw {l : Launch} {D : va_G} {tc : Nat → ClassId} {ro : Ro} {oa : Ky → Nat} {aa : Nat → Nat} {sh : Sh} {ln : Nat → Nat} {j0 : Nat} {μ : Mm} {res : Int32 × Mm} (hwf : WfS sh) (hj0 : sh 2 j0 = 1) (hf : f_X6_draw sh ln j0 μ = some res) : Ct l D tc ro (faB oa aa sh) (feB tc oa aa sh ln) yX6_draw cX6_draw 1 (some .int) (rmq 0 0) [.ref (oa (13, j0))] μ (some (.int res.1)) res.2 := by
  refine Ct.of (by decide) (Nat.le_of_ble_eq_true rfl) (fun p e s m args below meth c A C hr hk hW ls hl => ?_)
  have hx := C.1.1
  have hb := C.1.2.1
  obtain ⟨Q, hQ⟩ : ∃ Q, Q = MQ below (Ctq D (faB oa aa sh) (feB tc oa aa sh ln) (some (.int res.1)) res.2 A) args s 0 0 A := ⟨_, rfl⟩
  rw [← hQ]
  have hl : lv_has ls 1 [(0, .ref (oa (13, j0)))] := hl
  unfold f_X6_draw at hf
  refine lv_aload_n hx hb dX6_draw_0 rfl (lv_at hl 0 rfl) ?_
  refine lv_ldc (v := 1103515245) hx hb C.1.2.2.2.1 (C.1.2.2.2.2 _ kw_1653) dX6_draw_1 ?_
  refine lv_aload_n hx hb dX6_draw_3 rfl (lv_at hl 0 rfl) ?_
  refine gf_X6_18 C hW hj0 dX6_draw_4 ?_
  refine lv_imul hx hb dX6_draw_7 ?_
  refine lv_sipush (v := 12345) hx hb dX6_draw_8 (by decide) ?_
  refine lv_iadd hx hb dX6_draw_11 ?_
  refine pf_X6_18 C hW hj0 dX6_draw_12 (fun H locs hW => ?_)
  refine lv_aload_n hx hb dX6_draw_15 rfl (lv_at hl 0 rfl) ?_
  refine gf_X6_18 C hW hj0 dX6_draw_16 ?_
  refine lv_bipush (v := 16) hx hb dX6_draw_19 (by decide) ?_
  refine lv_iushr hx hb dX6_draw_21 rfl ?_
  refine lv_sipush (v := 32767) hx hb dX6_draw_22 (by decide) ?_
  refine lv_iand hx hb dX6_draw_25 ?_
  obtain rfl := Option.some.inj hf
  rw [hQ]
  exact r_iret C hr hk hW rfl rfl dX6_draw_26
set_option maxHeartbeats 4000000 in
set_option maxRecDepth 100000 in
theorem c_X6_note {l : Launch} {D : va_G} {tc : Nat → ClassId} {ro : Ro} {oa : Ky → Nat} {aa : Nat → Nat} {sh : Sh} {ln : Nat → Nat} {j0 : Nat} {μ : Mm} {v1 v2 v3 v4 v5 : Int32} {res : Mm} (hwf : WfS sh) (hj0 : sh 2 j0 = 1) (hf : f_X6_note sh ln j0 μ v1 v2 v3 v4 v5 = some res) : Ct l D tc ro (faB oa aa sh) (feB tc oa aa sh ln) yX6_note cX6_note 7 none (rmq 1 22) [.ref (oa (13, j0)), .int v1, .int v2, .int v3, .int v4, .int v5] μ none res := by
  refine Ct.of (by decide) (Nat.le_of_ble_eq_true rfl) (fun p e s m args below meth c A C hr hk hW ls hl => ?_)
  have hx := C.1.1
  have hb := C.1.2.1
  obtain ⟨Q, hQ⟩ : ∃ Q, Q = MQ below (Ctq D (faB oa aa sh) (feB tc oa aa sh ln) none res A) args s 0 0 A := ⟨_, rfl⟩
  rw [← hQ]
  have hl : lv_has ls 7 [(0, .ref (oa (13, j0))), (1, .int v1), (2, .int v2), (3, .int v3), (4, .int v4), (5, .int v5)] := hl
  unfold f_X6_note at hf
  refine lv_aload_n hx hb dX6_note_0 rfl (lv_at hl 0 rfl) ?_
  refine gf_X6_39 C hW hj0 dX6_note_1 ?_
  refine lv_sipush (v := 300) hx hb dX6_note_4 (by decide) ?_
  obtain ⟨x7, h7, hf⟩ := bd_of hf
  refine r_callV (k := ((11, 15 + 5 * j0 + 4) : Ky)) C hW hl lk_X6_92 (c_X1_grow hwf (cex_st hj0 (by decide)) h7) ⟨rfl, rfl⟩ ⟨Nat.le_of_ble_eq_true rfl, Nat.le_of_ble_eq_true rfl⟩ rfl (faB_11 (cex_st hj0 (by decide))) rfl (As := [.int (300 : Int32)]) (rest := []) rfl rfl (Nat.le_of_ble_eq_true rfl) dX6_note_7 ⟨Nat.zero_le _, Nat.zero_le _⟩ (fun H locs hW => ?_)
  show W p l e (rmq 1 22) s m args below meth c H locs 0 0 Q (F0 m 10 ls [])
  refine lv_aload_n hx hb dX6_note_10 rfl (lv_at hl 0 rfl) ?_
  refine gf_X6_69 C hW hj0 dX6_note_11 ?_
  refine lv_iconst (v := 5) hx hb dX6_note_14 (by decide) ?_
  refine lv_imul hx hb dX6_note_15 ?_
  refine lv_istore (lv' := [(6, .int ((x7 (13, j0) 15) * (5 : Int32))), (0, .ref (oa (13, j0))), (1, .int v1), (2, .int v2), (3, .int v3), (4, .int v4), (5, .int v5)]) hx hb dX6_note_16 hl (by decide) rfl (fun ls hl => ?_)
  refine lv_aload_n hx hb dX6_note_18 rfl (lv_at hl 1 rfl) ?_
  refine gf_X6_39 C hW hj0 dX6_note_19 ?_
  refine lv_iload hx hb dX6_note_22 (lv_at hl 0 rfl) ?_
  refine lv_iload_n hx hb dX6_note_24 rfl (lv_at hl 2 rfl) ?_
  obtain ⟨x25, h25, hf⟩ := bd_of hf
  refine r_callV (k := ((11, 15 + 5 * j0 + 4) : Ky)) C hW hl lk_X6_42 (c_X1_put hwf (cex_st hj0 (by decide)) h25) ⟨rfl, rfl⟩ ⟨Nat.le_of_ble_eq_true rfl, Nat.le_of_ble_eq_true rfl⟩ rfl (faB_11 (cex_st hj0 (by decide))) rfl (As := [.int ((x7 (13, j0) 15) * (5 : Int32)), .int v1]) (rest := []) rfl rfl (Nat.le_of_ble_eq_true rfl) dX6_note_25 ⟨Nat.zero_le _, Nat.zero_le _⟩ (fun H locs hW => ?_)
  show W p l e (rmq 1 22) s m args below meth c H locs 0 0 Q (F0 m 28 ls [])
  refine lv_aload_n hx hb dX6_note_28 rfl (lv_at hl 1 rfl) ?_
  refine gf_X6_39 C hW hj0 dX6_note_29 ?_
  refine lv_iload hx hb dX6_note_32 (lv_at hl 0 rfl) ?_
  refine lv_iconst (v := 1) hx hb dX6_note_34 (by decide) ?_
  refine lv_iadd hx hb dX6_note_35 ?_
  refine lv_iload_n hx hb dX6_note_36 rfl (lv_at hl 3 rfl) ?_
  obtain ⟨x37, h37, hf⟩ := bd_of hf
  refine r_callV (k := ((11, 15 + 5 * j0 + 4) : Ky)) C hW hl lk_X6_42 (c_X1_put hwf (cex_st hj0 (by decide)) h37) ⟨rfl, rfl⟩ ⟨Nat.le_of_ble_eq_true rfl, Nat.le_of_ble_eq_true rfl⟩ rfl (faB_11 (cex_st hj0 (by decide))) rfl (As := [.int (((x7 (13, j0) 15) * (5 : Int32)) + (1 : Int32)), .int v2]) (rest := []) rfl rfl (Nat.le_of_ble_eq_true rfl) dX6_note_37 ⟨Nat.zero_le _, Nat.zero_le _⟩ (fun H locs hW => ?_)
  show W p l e (rmq 1 22) s m args below meth c H locs 0 0 Q (F0 m 40 ls [])
  refine lv_aload_n hx hb dX6_note_40 rfl (lv_at hl 1 rfl) ?_
  refine gf_X6_39 C hW hj0 dX6_note_41 ?_
  refine lv_iload hx hb dX6_note_44 (lv_at hl 0 rfl) ?_
  refine lv_iconst (v := 2) hx hb dX6_note_46 (by decide) ?_
  refine lv_iadd hx hb dX6_note_47 ?_
  refine lv_iload_n hx hb dX6_note_48 rfl (lv_at hl 4 rfl) ?_
  obtain ⟨x49, h49, hf⟩ := bd_of hf
  refine r_callV (k := ((11, 15 + 5 * j0 + 4) : Ky)) C hW hl lk_X6_42 (c_X1_put hwf (cex_st hj0 (by decide)) h49) ⟨rfl, rfl⟩ ⟨Nat.le_of_ble_eq_true rfl, Nat.le_of_ble_eq_true rfl⟩ rfl (faB_11 (cex_st hj0 (by decide))) rfl (As := [.int (((x7 (13, j0) 15) * (5 : Int32)) + (2 : Int32)), .int v3]) (rest := []) rfl rfl (Nat.le_of_ble_eq_true rfl) dX6_note_49 ⟨Nat.zero_le _, Nat.zero_le _⟩ (fun H locs hW => ?_)
  show W p l e (rmq 1 22) s m args below meth c H locs 0 0 Q (F0 m 52 ls [])
  refine lv_aload_n hx hb dX6_note_52 rfl (lv_at hl 1 rfl) ?_
  refine gf_X6_39 C hW hj0 dX6_note_53 ?_
  refine lv_iload hx hb dX6_note_56 (lv_at hl 0 rfl) ?_
  refine lv_iconst (v := 3) hx hb dX6_note_58 (by decide) ?_
  refine lv_iadd hx hb dX6_note_59 ?_
  refine lv_iload hx hb dX6_note_60 (lv_at hl 5 rfl) ?_
  obtain ⟨x62, h62, hf⟩ := bd_of hf
  refine r_callV (k := ((11, 15 + 5 * j0 + 4) : Ky)) C hW hl lk_X6_42 (c_X1_put hwf (cex_st hj0 (by decide)) h62) ⟨rfl, rfl⟩ ⟨Nat.le_of_ble_eq_true rfl, Nat.le_of_ble_eq_true rfl⟩ rfl (faB_11 (cex_st hj0 (by decide))) rfl (As := [.int (((x7 (13, j0) 15) * (5 : Int32)) + (3 : Int32)), .int v4]) (rest := []) rfl rfl (Nat.le_of_ble_eq_true rfl) dX6_note_62 ⟨Nat.zero_le _, Nat.zero_le _⟩ (fun H locs hW => ?_)
  show W p l e (rmq 1 22) s m args below meth c H locs 0 0 Q (F0 m 65 ls [])
  refine lv_aload_n hx hb dX6_note_65 rfl (lv_at hl 1 rfl) ?_
  refine gf_X6_39 C hW hj0 dX6_note_66 ?_
  refine lv_iload hx hb dX6_note_69 (lv_at hl 0 rfl) ?_
  refine lv_iconst (v := 4) hx hb dX6_note_71 (by decide) ?_
  refine lv_iadd hx hb dX6_note_72 ?_
  refine lv_iload hx hb dX6_note_73 (lv_at hl 6 rfl) ?_
  obtain ⟨x75, h75, hf⟩ := bd_of hf
  refine r_callV (k := ((11, 15 + 5 * j0 + 4) : Ky)) C hW hl lk_X6_42 (c_X1_put hwf (cex_st hj0 (by decide)) h75) ⟨rfl, rfl⟩ ⟨Nat.le_of_ble_eq_true rfl, Nat.le_of_ble_eq_true rfl⟩ rfl (faB_11 (cex_st hj0 (by decide))) rfl (As := [.int (((x7 (13, j0) 15) * (5 : Int32)) + (4 : Int32)), .int v5]) (rest := []) rfl rfl (Nat.le_of_ble_eq_true rfl) dX6_note_75 ⟨Nat.zero_le _, Nat.zero_le _⟩ (fun H locs hW => ?_)
  show W p l e (rmq 1 22) s m args below meth c H locs 0 0 Q (F0 m 78 ls [])
  refine lv_aload_n hx hb dX6_note_78 rfl (lv_at hl 1 rfl) ?_
  refine lv_aload_n hx hb dX6_note_79 rfl (lv_at hl 1 rfl) ?_
  refine gf_X6_69 C hW hj0 dX6_note_80 ?_
  refine lv_iconst (v := 1) hx hb dX6_note_83 (by decide) ?_
  refine lv_iadd hx hb dX6_note_84 ?_
  refine lv_bipush (v := 60) hx hb dX6_note_85 (by decide) ?_
  refine lv_icmp_ge (tgt := 99) hx hb dX6_note_87 (by decide) (fun c1 => ?_) (fun c1 => ?_)
  · have hf := (if_pos c1).symm.trans hf
    refine lv_iconst (v := 0) hx hb dX6_note_99 (by decide) ?_
    refine pf_X6_69 C hW hj0 dX6_note_100 (fun H locs hW => ?_)
    refine lv_aload_n hx hb dX6_note_103 rfl (lv_at hl 1 rfl) ?_
    refine lv_aload_n hx hb dX6_note_104 rfl (lv_at hl 1 rfl) ?_
    refine gf_X6_66 C hW hj0 dX6_note_105 ?_
    refine lv_iconst (v := 1) hx hb dX6_note_108 (by decide) ?_
    refine lv_iadd hx hb dX6_note_109 ?_
    refine lv_bipush (v := 60) hx hb dX6_note_110 (by decide) ?_
    refine r_mmin C hl kw_993 kw_560 kw_140 kw_561 (Nat.le_of_ble_eq_true rfl) (Nat.le_of_ble_eq_true rfl) ⟨Nat.zero_le _, Nat.zero_le _⟩ dX6_note_112 ?_
    refine pf_X6_66 C hW hj0 dX6_note_115 (fun H locs hW => ?_)
    obtain ⟨μ2, hm2, hf⟩ := bd_of hf
    rw [Option.some.inj hm2] at hW
    obtain rfl := Option.some.inj hf
    rw [hQ]
    exact r_vret C hr hk hW rfl rfl dX6_note_118
  · have hf := (if_neg c1).symm.trans hf
    refine lv_aload_n hx hb dX6_note_90 rfl (lv_at hl 1 rfl) ?_
    refine gf_X6_69 C hW hj0 dX6_note_91 ?_
    refine lv_iconst (v := 1) hx hb dX6_note_94 (by decide) ?_
    refine lv_iadd hx hb dX6_note_95 ?_
    refine lv_goto (tgt := 100) hx hb dX6_note_96 (by decide) ?_
    refine pf_X6_69 C hW hj0 dX6_note_100 (fun H locs hW => ?_)
    refine lv_aload_n hx hb dX6_note_103 rfl (lv_at hl 1 rfl) ?_
    refine lv_aload_n hx hb dX6_note_104 rfl (lv_at hl 1 rfl) ?_
    refine gf_X6_66 C hW hj0 dX6_note_105 ?_
    refine lv_iconst (v := 1) hx hb dX6_note_108 (by decide) ?_
    refine lv_iadd hx hb dX6_note_109 ?_
    refine lv_bipush (v := 60) hx hb dX6_note_110 (by decide) ?_
    refine r_mmin C hl kw_993 kw_560 kw_140 kw_561 (Nat.le_of_ble_eq_true rfl) (Nat.le_of_ble_eq_true rfl) ⟨Nat.zero_le _, Nat.zero_le _⟩ dX6_note_112 ?_
    refine pf_X6_66 C hW hj0 dX6_note_115 (fun H locs hW => ?_)
    obtain ⟨μ3, hm3, hf⟩ := bd_of hf
    rw [Option.some.inj hm3] at hW
    obtain rfl := Option.some.inj hf
    rw [hQ]
    exact r_vret C hr hk hW rfl rfl dX6_note_118
set_option maxHeartbeats 4000000 in
set_option maxRecDepth 100000 in
theorem c_X6_noted {l : Launch} {D : va_G} {tc : Nat → ClassId} {ro : Ro} {oa : Ky → Nat} {aa : Nat → Nat} {sh : Sh} {ln : Nat → Nat} {j0 : Nat} {μ : Mm} {v1 v2 : Int32} {res : Int32} (hwf : WfS sh) (hj0 : sh 2 j0 = 1) (hf : f_X6_noted sh ln j0 μ v1 v2 = some res) : Ct l D tc ro (faB oa aa sh) (feB tc oa aa sh ln) yX6_noted cX6_noted 4 (some .int) (rmq 1 21) [.ref (oa (13, j0)), .int v1, .int v2] μ (some (.int res)) μ := by
  refine Ct.of (by decide) (Nat.le_of_ble_eq_true rfl) (fun p e s m args below meth c A C hr hk hW ls hl => ?_)
  have hx := C.1.1
  have hb := C.1.2.1
  obtain ⟨Q, hQ⟩ : ∃ Q, Q = MQ below (Ctq D (faB oa aa sh) (feB tc oa aa sh ln) (some (.int res)) μ A) args s 0 0 A := ⟨_, rfl⟩
  rw [← hQ]
  have hl : lv_has ls 4 [(0, .ref (oa (13, j0))), (1, .int v1), (2, .int v2)] := hl
  unfold f_X6_noted at hf
  refine lv_iload_n hx hb dX6_noted_0 rfl (lv_at hl 1 rfl) ?_
  refine lv_if_lt (tgt := 12) hx hb dX6_noted_1 (by decide) (fun c1 => ?_) (fun c1 => ?_)
  · have hf := (if_pos c1).symm.trans hf
    refine lv_iconst (v := -1) hx hb dX6_noted_12 (by decide) ?_
    obtain rfl := Option.some.inj hf
    rw [hQ]
    exact r_iret C hr hk hW rfl rfl dX6_noted_13
  · have hf := (if_neg c1).symm.trans hf
    refine lv_iload_n hx hb dX6_noted_4 rfl (lv_at hl 1 rfl) ?_
    refine lv_aload_n hx hb dX6_noted_5 rfl (lv_at hl 0 rfl) ?_
    refine gf_X6_66 C hW hj0 dX6_noted_6 ?_
    refine lv_icmp_lt (tgt := 14) hx hb dX6_noted_9 (by decide) (fun c2 => ?_) (fun c2 => ?_)
    · have hf := (if_pos c2).symm.trans hf
      refine lv_aload_n hx hb dX6_noted_14 rfl (lv_at hl 0 rfl) ?_
      refine gf_X6_69 C hW hj0 dX6_noted_15 ?_
      refine lv_iconst (v := 1) hx hb dX6_noted_18 (by decide) ?_
      refine lv_isub hx hb dX6_noted_19 ?_
      refine lv_iload_n hx hb dX6_noted_20 rfl (lv_at hl 1 rfl) ?_
      refine lv_isub hx hb dX6_noted_21 ?_
      refine lv_istore_n (lv' := [(3, .int (((μ (13, j0) 15) - (1 : Int32)) - v1)), (0, .ref (oa (13, j0))), (1, .int v1), (2, .int v2)]) hx hb dX6_noted_22 rfl hl (by decide) rfl (fun ls hl => ?_)
      refine lv_aload_n hx hb dX6_noted_23 rfl (lv_at hl 1 rfl) ?_
      refine gf_X6_39 C hW hj0 dX6_noted_24 ?_
      refine lv_iload_n hx hb dX6_noted_27 rfl (lv_at hl 0 rfl) ?_
      refine lv_if_ge (tgt := 38) hx hb dX6_noted_28 (by decide) (fun c3 => ?_) (fun c3 => ?_)
      · have hf := (if_pos c3).symm.trans hf
        refine lv_iload_n hx hb dX6_noted_38 rfl (lv_at hl 0 rfl) ?_
        refine lv_iconst (v := 5) hx hb dX6_noted_39 (by decide) ?_
        refine lv_imul hx hb dX6_noted_40 ?_
        refine lv_iload_n hx hb dX6_noted_41 rfl (lv_at hl 3 rfl) ?_
        refine lv_iadd hx hb dX6_noted_42 ?_
        obtain ⟨x43, h43, hf⟩ := bd_of hf
        refine r_callV (k := ((11, 15 + 5 * j0 + 4) : Ky)) C hW hl lk_X6_80 (c_X1_at hwf (cex_st hj0 (by decide)) h43) ⟨rfl, rfl⟩ ⟨Nat.le_of_ble_eq_true rfl, Nat.le_of_ble_eq_true rfl⟩ rfl (faB_11 (cex_st hj0 (by decide))) rfl (As := [.int (((((μ (13, j0) 15) - (1 : Int32)) - v1) * (5 : Int32)) + v2)]) (rest := []) rfl rfl (Nat.le_of_ble_eq_true rfl) dX6_noted_43 ⟨Nat.zero_le _, Nat.zero_le _⟩ (fun H locs hW => ?_)
        show W p l e (rmq 1 21) s m args below meth c H locs 0 0 Q (F0 m 46 ls [.int x43])
        obtain rfl := Option.some.inj hf
        rw [hQ]
        exact r_iret C hr hk hW rfl rfl dX6_noted_46
      · have hf := (if_neg c3).symm.trans hf
        refine lv_iload_n hx hb dX6_noted_31 rfl (lv_at hl 0 rfl) ?_
        refine lv_bipush (v := 60) hx hb dX6_noted_32 (by decide) ?_
        refine lv_iadd hx hb dX6_noted_34 ?_
        refine lv_goto (tgt := 39) hx hb dX6_noted_35 (by decide) ?_
        refine lv_iconst (v := 5) hx hb dX6_noted_39 (by decide) ?_
        refine lv_imul hx hb dX6_noted_40 ?_
        refine lv_iload_n hx hb dX6_noted_41 rfl (lv_at hl 3 rfl) ?_
        refine lv_iadd hx hb dX6_noted_42 ?_
        obtain ⟨x43, h43, hf⟩ := bd_of hf
        refine r_callV (k := ((11, 15 + 5 * j0 + 4) : Ky)) C hW hl lk_X6_80 (c_X1_at hwf (cex_st hj0 (by decide)) h43) ⟨rfl, rfl⟩ ⟨Nat.le_of_ble_eq_true rfl, Nat.le_of_ble_eq_true rfl⟩ rfl (faB_11 (cex_st hj0 (by decide))) rfl (As := [.int ((((((μ (13, j0) 15) - (1 : Int32)) - v1) + (60 : Int32)) * (5 : Int32)) + v2)]) (rest := []) rfl rfl (Nat.le_of_ble_eq_true rfl) dX6_noted_43 ⟨Nat.zero_le _, Nat.zero_le _⟩ (fun H locs hW => ?_)
        show W p l e (rmq 1 21) s m args below meth c H locs 0 0 Q (F0 m 46 ls [.int x43])
        obtain rfl := Option.some.inj hf
        rw [hQ]
        exact r_iret C hr hk hW rfl rfl dX6_noted_46
    · have hf := (if_neg c2).symm.trans hf
      refine lv_iconst (v := -1) hx hb dX6_noted_12 (by decide) ?_
      obtain rfl := Option.some.inj hf
      rw [hQ]
      exact r_iret C hr hk hW rfl rfl dX6_noted_13
set_option maxHeartbeats 4000000 in
set_option maxRecDepth 100000 in
theorem c_X7_size {l : Launch} {D : va_G} {tc : Nat → ClassId} {ro : Ro} {oa : Ky → Nat} {aa : Nat → Nat} {sh : Sh} {ln : Nat → Nat} {μ : Mm} {res : Int32} (hwf : WfS sh) (hf : f_X7_size sh ln μ = some res) : Ct l D tc ro (faB oa aa sh) (feB tc oa aa sh ln) yX7_size cX7_size 1 (some .int) (rmq 0 0) [.ref (oa (2, 0))] μ (some (.int res)) μ := by
  refine Ct.of (by decide) (Nat.le_of_ble_eq_true rfl) (fun p e s m args below meth c A C hr hk hW ls hl => ?_)
  have hx := C.1.1
  have hb := C.1.2.1
  obtain ⟨Q, hQ⟩ : ∃ Q, Q = MQ below (Ctq D (faB oa aa sh) (feB tc oa aa sh ln) (some (.int res)) μ A) args s 0 0 A := ⟨_, rfl⟩
  rw [← hQ]
  have hl : lv_has ls 1 [(0, .ref (oa (2, 0)))] := hl
  unfold f_X7_size at hf
  refine lv_aload_n hx hb dX7_size_0 rfl (lv_at hl 0 rfl) ?_
  refine gf_X7_18 C hW dX7_size_1 ?_
  obtain rfl := Option.some.inj hf
  rw [hQ]
  exact r_iret C hr hk hW rfl rfl dX7_size_4
set_option maxHeartbeats 4000000 in
set_option maxRecDepth 100000 in
theorem c_X7_hasRoomFor {l : Launch} {D : va_G} {tc : Nat → ClassId} {ro : Ro} {oa : Ky → Nat} {aa : Nat → Nat} {sh : Sh} {ln : Nat → Nat} {μ : Mm} {v1 : Int32} {res : Int32} (hwf : WfS sh) (hf : f_X7_hasRoomFor sh ln μ v1 = some res) : Ct l D tc ro (faB oa aa sh) (feB tc oa aa sh ln) yX7_hasRoomFor cX7_hasRoomFor 2 (some .boolean) (rmq 0 0) [.ref (oa (2, 0)), .int v1] μ (some (.int res)) μ := by
  refine Ct.of (by decide) (Nat.le_of_ble_eq_true rfl) (fun p e s m args below meth c A C hr hk hW ls hl => ?_)
  have hx := C.1.1
  have hb := C.1.2.1
  obtain ⟨Q, hQ⟩ : ∃ Q, Q = MQ below (Ctq D (faB oa aa sh) (feB tc oa aa sh ln) (some (.int res)) μ A) args s 0 0 A := ⟨_, rfl⟩
  rw [← hQ]
  have hl : lv_has ls 2 [(0, .ref (oa (2, 0))), (1, .int v1)] := hl
  unfold f_X7_hasRoomFor at hf
  refine lv_aload_n hx hb dX7_hasRoomFor_0 rfl (lv_at hl 0 rfl) ?_
  refine gf_X7_18 C hW dX7_hasRoomFor_1 ?_
  refine lv_iload_n hx hb dX7_hasRoomFor_4 rfl (lv_at hl 1 rfl) ?_
  refine lv_iadd hx hb dX7_hasRoomFor_5 ?_
  refine lv_sipush (v := 400) hx hb dX7_hasRoomFor_6 (by decide) ?_
  refine lv_icmp_gt (tgt := 16) hx hb dX7_hasRoomFor_9 (by decide) (fun c1 => ?_) (fun c1 => ?_)
  · have hf := (if_pos c1).symm.trans hf
    refine lv_iconst (v := 0) hx hb dX7_hasRoomFor_16 (by decide) ?_
    obtain rfl := Option.some.inj hf
    rw [hQ]
    exact r_zret C hr hk hW (Or.inl rfl) rfl rfl dX7_hasRoomFor_17
  · have hf := (if_neg c1).symm.trans hf
    refine lv_iconst (v := 1) hx hb dX7_hasRoomFor_12 (by decide) ?_
    refine lv_goto (tgt := 17) hx hb dX7_hasRoomFor_13 (by decide) ?_
    obtain rfl := Option.some.inj hf
    rw [hQ]
    exact r_zret C hr hk hW (Or.inr rfl) rfl rfl dX7_hasRoomFor_17
set_option maxHeartbeats 4000000 in
set_option maxRecDepth 100000 in
theorem c_X7_put {l : Launch} {D : va_G} {tc : Nat → ClassId} {ro : Ro} {oa : Ky → Nat} {aa : Nat → Nat} {sh : Sh} {ln : Nat → Nat} {μ : Mm} {v1 : Int32} {res : Mm} (hwf : WfS sh) (hf : f_X7_put sh ln μ v1 = some res) : Ct l D tc ro (faB oa aa sh) (feB tc oa aa sh ln) yX7_put cX7_put 3 none (rmq 1 22) [.ref (oa (2, 0)), .int v1] μ none res := by
  refine Ct.of (by decide) (Nat.le_of_ble_eq_true rfl) (fun p e s m args below meth c A C hr hk hW ls hl => ?_)
  have hx := C.1.1
  have hb := C.1.2.1
  obtain ⟨Q, hQ⟩ : ∃ Q, Q = MQ below (Ctq D (faB oa aa sh) (feB tc oa aa sh ln) none res A) args s 0 0 A := ⟨_, rfl⟩
  rw [← hQ]
  have hl : lv_has ls 3 [(0, .ref (oa (2, 0))), (1, .int v1)] := hl
  unfold f_X7_put at hf
  refine lv_bipush (v := 24) hx hb dX7_put_0 (by decide) ?_
  refine lv_istore_n (lv' := [(2, .int (24 : Int32)), (0, .ref (oa (2, 0))), (1, .int v1)]) hx hb dX7_put_2 rfl hl (by decide) rfl (fun ls hl => ?_)
  have L3 : ∀ (μ : Mm) (v2 : Int32) (H : Heap) (locs : List Loc) (ls : Array Slot), Wh (fun z : Mm × Int32 => f_X7_put_L3 sh ln v1 z.1 z.2) (μ, v2) = some res → Wd D (faB oa aa sh) (feB tc oa aa sh ln) A s.heap μ H locs → lv_has ls 3 [(0, .ref (oa (2, 0))), (1, .int v1), (2, .int v2)] → W p l e (rmq 1 22) s m args below meth c H locs 0 0 Q (F0 m 3 ls []) := by
    intro μ v2 H locs ls hf hW hl
    refine Wh_rule hf (fun z : Mm × Int32 => ∀ (H : Heap) (locs : List Loc) (ls : Array Slot), Wd D (faB oa aa sh) (feB tc oa aa sh ln) A s.heap z.1 H locs → lv_has ls 3 [(0, .ref (oa (2, 0))), (1, .int v1), (2, .int z.2)] → W p l e (rmq 1 22) s m args below meth c H locs 0 0 Q (F0 m 3 ls [])) (fun z o1 hf Kl1 Kr1 => ?_) _ _ _ hW hl
    obtain ⟨μ, v2⟩ := z
    intro H locs ls hW hl
    have hf : f_X7_put_L3 sh ln v1 μ v2 = some o1 := hf
    unfold f_X7_put_L3 at hf
    have hW : Wd D (faB oa aa sh) (feB tc oa aa sh ln) A s.heap μ H locs := hW
    have hl : lv_has ls 3 [(0, .ref (oa (2, 0))), (1, .int v1), (2, .int v2)] := hl
    refine lv_iload_n hx hb dX7_put_3 rfl (lv_at hl 2 rfl) ?_
    refine lv_if_lt (tgt := 51) hx hb dX7_put_4 (by decide) (fun c1 => ?_) (fun c1 => ?_)
    · have hf := (if_pos c1).symm.trans hf
      obtain ⟨x9002, hf, hx9002⟩ := map_of hf
      have e9002 := (Kr1 _ hx9002.symm).symm
      subst e9002
      obtain rfl := Option.some.inj hf
      rw [hQ]
      exact r_vret C hr hk hW rfl rfl dX7_put_51
    · have hf := (if_neg c1).symm.trans hf
      refine lv_aload_n hx hb dX7_put_7 rfl (lv_at hl 0 rfl) ?_
      refine gf_X7_18 C hW dX7_put_8 ?_
      refine lv_sipush (v := 400) hx hb dX7_put_11 (by decide) ?_
      refine lv_icmp_ge (tgt := 45) hx hb dX7_put_14 (by decide) (fun c3 => ?_) (fun c3 => ?_)
      · have hf := (if_pos c3).symm.trans hf
        refine lv_iinc (v := (v2 + (-8 : Int32))) (lv' := [(2, .int (v2 + (-8 : Int32))), (0, .ref (oa (2, 0))), (1, .int v1)]) hx hb dX7_put_45 hl (k := 2) rfl rfl (by decide) rfl (fun ls hl => ?_)
        refine lv_goto (tgt := 3) hx hb dX7_put_48 (by decide) ?_
        obtain rfl := Option.some.inj hf
        exact Kl1 _ rfl _ _ _ hW (lv_sub hl [1, 2, 0] rfl)
      · have hf := (if_neg c3).symm.trans hf
        refine lv_aload_n hx hb dX7_put_17 rfl (lv_at hl 0 rfl) ?_
        refine gf_X7_14 C hW dX7_put_18 ?_
        refine lv_aload_n hx hb dX7_put_21 rfl (lv_at hl 0 rfl) ?_
        refine gf_X7_18 C hW dX7_put_22 ?_
        refine lv_iload_n hx hb dX7_put_25 rfl (lv_at hl 1 rfl) ?_
        refine lv_iload_n hx hb dX7_put_26 rfl (lv_at hl 2 rfl) ?_
        refine lv_iushr hx hb dX7_put_27 rfl ?_
        refine lv_sipush (v := 255) hx hb dX7_put_28 (by decide) ?_
        refine lv_iand hx hb dX7_put_31 ?_
        obtain ⟨x32, h32, hf⟩ := bd_of hf
        refine r_callV (k := ((11, 0) : Ky)) C hW hl lk_X7_22 (c_X1_put hwf rfl h32) ⟨rfl, rfl⟩ ⟨Nat.le_of_ble_eq_true rfl, Nat.le_of_ble_eq_true rfl⟩ rfl (faB_11 rfl) rfl (As := [.int (μ (2, 0) 1), .int ((v1.toUInt32 >>> (v2.toUInt32 &&& Int32.toUInt32 31)).toInt32 &&& (255 : Int32))]) (rest := []) rfl rfl (Nat.le_of_ble_eq_true rfl) dX7_put_32 ⟨Nat.zero_le _, Nat.zero_le _⟩ (fun H locs hW => ?_)
        show W p l e (rmq 1 22) s m args below meth c H locs 0 0 Q (F0 m 35 ls [])
        refine lv_aload_n hx hb dX7_put_35 rfl (lv_at hl 0 rfl) ?_
        refine lv_dup hx hb dX7_put_36 rfl ?_
        refine gf_X7_18 C hW dX7_put_37 ?_
        refine lv_iconst (v := 1) hx hb dX7_put_40 (by decide) ?_
        refine lv_iadd hx hb dX7_put_41 ?_
        refine pf_X7_18 C hW dX7_put_42 (fun H locs hW => ?_)
        refine lv_iinc (v := (v2 + (-8 : Int32))) (lv' := [(2, .int (v2 + (-8 : Int32))), (0, .ref (oa (2, 0))), (1, .int v1)]) hx hb dX7_put_45 hl (k := 2) rfl rfl (by decide) rfl (fun ls hl => ?_)
        refine lv_goto (tgt := 3) hx hb dX7_put_48 (by decide) ?_
        obtain rfl := Option.some.inj hf
        exact Kl1 _ rfl _ _ _ hW (lv_sub hl [1, 2, 0] rfl)
  exact L3 μ (24 : Int32) _ _ _ hf hW (lv_sub hl [1, 2, 0] rfl)
