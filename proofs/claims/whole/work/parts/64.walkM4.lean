set_option maxHeartbeats 4000000 in
set_option maxRecDepth 100000 in
theorem c_X11_seenBy {l : Launch} {D : va_G} {tc : Nat → ClassId} {ro : Ro} {ad : Nat → Nat} {μ : Mm} {v1 : Int32} {res : Int32} (hf : f_X11_seenBy μ v1 = some res) : Ct l D tc ro (faM ad) (feM tc ad) yX11_seenBy cX11_seenBy 4 (some .int) (rmq 2 43) [.ref (ad 0), .int v1] μ (some (.int res)) μ := by
  refine Ct.of (by decide) (Nat.le_of_ble_eq_true rfl) (fun p e s m args below meth c A C hr hk hW ls hl => ?_)
  have hx := C.1.1
  have hb := C.1.2.1
  obtain ⟨Q, hQ⟩ : ∃ Q, Q = MQ below (Ctq D (faM ad) (feM tc ad) (some (.int res)) μ A) args s 0 0 A := ⟨_, rfl⟩
  rw [← hQ]
  have hl : lv_has ls 4 [(0, .ref (ad 0)), (1, .int v1)] := hl
  unfold f_X11_seenBy at hf
  refine lv_iconst (v := 0) hx hb dX11_seenBy_0 (by decide) ?_
  refine lv_istore_n (lv' := [(2, .int (0 : Int32)), (0, .ref (ad 0)), (1, .int v1)]) hx hb dX11_seenBy_1 rfl hl (by decide) rfl (fun ls hl => ?_)
  refine lv_iconst (v := 0) hx hb dX11_seenBy_2 (by decide) ?_
  refine lv_istore_n (lv' := [(3, .int (0 : Int32)), (2, .int (0 : Int32)), (0, .ref (ad 0)), (1, .int v1)]) hx hb dX11_seenBy_3 rfl hl (by decide) rfl (fun ls hl => ?_)
  have L4 : ∀ (v2 v3 : Int32) (H : Heap) (locs : List Loc) (ls : Array Slot), Wh (fun z : Int32 × Int32 => f_X11_seenBy_L4 v1 μ z.1 z.2) (v2, v3) = some res → Wd D (faM ad) (feM tc ad) A s.heap μ H locs → lv_has ls 4 [(0, .ref (ad 0)), (1, .int v1), (2, .int v2), (3, .int v3)] → W p l e (rmq 2 43) s m args below meth c H locs 0 0 Q (F0 m 4 ls []) := by
    intro v2 v3 H locs ls hf hW hl
    refine Wh_rule hf (fun z : Int32 × Int32 => ∀ (H : Heap) (locs : List Loc) (ls : Array Slot), Wd D (faM ad) (feM tc ad) A s.heap μ H locs → lv_has ls 4 [(0, .ref (ad 0)), (1, .int v1), (2, .int z.1), (3, .int z.2)] → W p l e (rmq 2 43) s m args below meth c H locs 0 0 Q (F0 m 4 ls [])) (fun z o1 hf Kl1 Kr1 => ?_) _ _ _ hW hl
    obtain ⟨v2, v3⟩ := z
    intro H locs ls hW hl
    have hf : f_X11_seenBy_L4 v1 μ v2 v3 = some o1 := hf
    unfold f_X11_seenBy_L4 at hf
    have hW : Wd D (faM ad) (feM tc ad) A s.heap μ H locs := hW
    have hl : lv_has ls 4 [(0, .ref (ad 0)), (1, .int v1), (2, .int v2), (3, .int v3)] := hl
    refine lv_iload_n hx hb dX11_seenBy_4 rfl (lv_at hl 3 rfl) ?_
    refine lv_aload_n hx hb dX11_seenBy_5 rfl (lv_at hl 0 rfl) ?_
    obtain ⟨x6, h6, hf⟩ := bd_of hf
    refine r_callV (k := ((0, 0) : Ky)) C hW hl lk_X11_107 (c_X11_people h6) ⟨rfl, rfl⟩ ⟨Nat.le_of_ble_eq_true rfl, Nat.le_of_ble_eq_true rfl⟩ rfl rfl rfl (As := []) (rest := [.int v3]) rfl rfl (Nat.le_of_ble_eq_true rfl) dX11_seenBy_6 ⟨Nat.zero_le _, Nat.zero_le _⟩ (fun H locs hW => ?_)
    show W p l e (rmq 2 43) s m args below meth c H locs 0 0 Q (F0 m 9 ls [.int x6, .int v3])
    refine lv_icmp_ge (tgt := 37) hx hb dX11_seenBy_9 (by decide) (fun c2 => ?_) (fun c2 => ?_)
    · have hf := (if_pos c2).symm.trans hf
      obtain ⟨x9003, hf, hx9003⟩ := map_of hf
      have e9003 := (Kr1 _ hx9003.symm).symm
      subst e9003
      refine lv_iload_n hx hb dX11_seenBy_37 rfl (lv_at hl 2 rfl) ?_
      obtain rfl := Option.some.inj hf
      rw [hQ]
      exact r_iret C hr hk hW rfl rfl dX11_seenBy_38
    · have hf := (if_neg c2).symm.trans hf
      refine lv_iload_n hx hb dX11_seenBy_12 rfl (lv_at hl 2 rfl) ?_
      refine lv_aload_n hx hb dX11_seenBy_13 rfl (lv_at hl 0 rfl) ?_
      refine lv_iload_n hx hb dX11_seenBy_14 rfl (lv_at hl 3 rfl) ?_
      refine lv_iload_n hx hb dX11_seenBy_15 rfl (lv_at hl 1 rfl) ?_
      obtain ⟨x16, h16, hf⟩ := bd_of hf
      refine r_callV (k := ((0, 0) : Ky)) C hW hl lk_X11_325 (c_X11_isSeeing h16) ⟨rfl, rfl⟩ ⟨Nat.le_of_ble_eq_true rfl, Nat.le_of_ble_eq_true rfl⟩ rfl rfl rfl (As := [.int v3, .int v1]) (rest := [.int v2]) rfl rfl (Nat.le_of_ble_eq_true rfl) dX11_seenBy_16 ⟨Nat.zero_le _, Nat.zero_le _⟩ (fun H locs hW => ?_)
      show W p l e (rmq 2 43) s m args below meth c H locs 0 0 Q (F0 m 19 ls [.int x16, .int v2])
      refine lv_if_eq (tgt := 28) hx hb dX11_seenBy_19 (by decide) (fun c5 => ?_) (fun c5 => ?_)
      · have hf := (if_pos c5).symm.trans hf
        refine lv_iconst (v := 0) hx hb dX11_seenBy_28 (by decide) ?_
        refine lv_ior hx hb dX11_seenBy_29 ?_
        refine lv_istore_n (lv' := [(2, .int (v2 ||| (0 : Int32))), (0, .ref (ad 0)), (1, .int v1), (3, .int v3)]) hx hb dX11_seenBy_30 rfl hl (by decide) rfl (fun ls hl => ?_)
        refine lv_iinc (v := (v3 + (1 : Int32))) (lv' := [(3, .int (v3 + (1 : Int32))), (2, .int (v2 ||| (0 : Int32))), (0, .ref (ad 0)), (1, .int v1)]) hx hb dX11_seenBy_31 hl (k := 3) rfl rfl (by decide) rfl (fun ls hl => ?_)
        refine lv_goto (tgt := 4) hx hb dX11_seenBy_34 (by decide) ?_
        obtain rfl := Option.some.inj hf
        exact Kl1 _ rfl _ _ _ hW (lv_sub hl [2, 3, 1, 0] rfl)
      · have hf := (if_neg c5).symm.trans hf
        refine lv_iconst (v := 1) hx hb dX11_seenBy_22 (by decide) ?_
        refine lv_iload_n hx hb dX11_seenBy_23 rfl (lv_at hl 3 rfl) ?_
        refine lv_ishl hx hb dX11_seenBy_24 ?_
        refine lv_goto (tgt := 29) hx hb dX11_seenBy_25 (by decide) ?_
        refine lv_ior hx hb dX11_seenBy_29 ?_
        refine lv_istore_n (lv' := [(2, .int (v2 ||| ((1 : Int32) <<< (v3 &&& 31)))), (0, .ref (ad 0)), (1, .int v1), (3, .int v3)]) hx hb dX11_seenBy_30 rfl hl (by decide) rfl (fun ls hl => ?_)
        refine lv_iinc (v := (v3 + (1 : Int32))) (lv' := [(3, .int (v3 + (1 : Int32))), (2, .int (v2 ||| ((1 : Int32) <<< (v3 &&& 31)))), (0, .ref (ad 0)), (1, .int v1)]) hx hb dX11_seenBy_31 hl (k := 3) rfl rfl (by decide) rfl (fun ls hl => ?_)
        refine lv_goto (tgt := 4) hx hb dX11_seenBy_34 (by decide) ?_
        obtain rfl := Option.some.inj hf
        exact Kl1 _ rfl _ _ _ hW (lv_sub hl [2, 3, 1, 0] rfl)
  exact L4 (0 : Int32) (0 : Int32) _ _ _ hf hW (lv_sub hl [2, 3, 1, 0] rfl)
set_option maxHeartbeats 4000000 in
set_option maxRecDepth 100000 in
theorem c_X11_holds {l : Launch} {D : va_G} {tc : Nat → ClassId} {ro : Ro} {ad : Nat → Nat} {μ : Mm} {v1 v2 : Int32} {res : Int32} (hf : f_X11_holds μ v1 v2 = some res) : Ct l D tc ro (faM ad) (feM tc ad) yX11_holds cX11_holds 5 (some .int) (rmq 1 22) [.ref (ad 0), .int v1, .int v2] μ (some (.int res)) μ := by
  refine Ct.of (by decide) (Nat.le_of_ble_eq_true rfl) (fun p e s m args below meth c A C hr hk hW ls hl => ?_)
  have hx := C.1.1
  have hb := C.1.2.1
  obtain ⟨Q, hQ⟩ : ∃ Q, Q = MQ below (Ctq D (faM ad) (feM tc ad) (some (.int res)) μ A) args s 0 0 A := ⟨_, rfl⟩
  rw [← hQ]
  have hl : lv_has ls 5 [(0, .ref (ad 0)), (1, .int v1), (2, .int v2)] := hl
  unfold f_X11_holds at hf
  refine lv_iconst (v := 0) hx hb dX11_holds_0 (by decide) ?_
  refine lv_istore_n (lv' := [(3, .int (0 : Int32)), (0, .ref (ad 0)), (1, .int v1), (2, .int v2)]) hx hb dX11_holds_1 rfl hl (by decide) rfl (fun ls hl => ?_)
  refine lv_iconst (v := 0) hx hb dX11_holds_2 (by decide) ?_
  refine lv_istore (lv' := [(4, .int (0 : Int32)), (3, .int (0 : Int32)), (0, .ref (ad 0)), (1, .int v1), (2, .int v2)]) hx hb dX11_holds_3 hl (by decide) rfl (fun ls hl => ?_)
  have L5 : ∀ (v3 v4 : Int32) (H : Heap) (locs : List Loc) (ls : Array Slot), Wh (fun z : Int32 × Int32 => f_X11_holds_L5 v1 v2 μ z.1 z.2) (v3, v4) = some res → Wd D (faM ad) (feM tc ad) A s.heap μ H locs → lv_has ls 5 [(0, .ref (ad 0)), (1, .int v1), (2, .int v2), (3, .int v3), (4, .int v4)] → W p l e (rmq 1 22) s m args below meth c H locs 0 0 Q (F0 m 5 ls []) := by
    intro v3 v4 H locs ls hf hW hl
    refine Wh_rule hf (fun z : Int32 × Int32 => ∀ (H : Heap) (locs : List Loc) (ls : Array Slot), Wd D (faM ad) (feM tc ad) A s.heap μ H locs → lv_has ls 5 [(0, .ref (ad 0)), (1, .int v1), (2, .int v2), (3, .int z.1), (4, .int z.2)] → W p l e (rmq 1 22) s m args below meth c H locs 0 0 Q (F0 m 5 ls [])) (fun z o1 hf Kl1 Kr1 => ?_) _ _ _ hW hl
    obtain ⟨v3, v4⟩ := z
    intro H locs ls hW hl
    have hf : f_X11_holds_L5 v1 v2 μ v3 v4 = some o1 := hf
    unfold f_X11_holds_L5 at hf
    have hW : Wd D (faM ad) (feM tc ad) A s.heap μ H locs := hW
    have hl : lv_has ls 5 [(0, .ref (ad 0)), (1, .int v1), (2, .int v2), (3, .int v3), (4, .int v4)] := hl
    refine lv_iload hx hb dX11_holds_5 (lv_at hl 4 rfl) ?_
    refine lv_aload_n hx hb dX11_holds_7 rfl (lv_at hl 0 rfl) ?_
    obtain ⟨x8, h8, hf⟩ := bd_of hf
    refine r_callV (k := ((0, 0) : Ky)) C hW hl lk_X11_115 (c_X11_worlds h8) ⟨rfl, rfl⟩ ⟨Nat.le_of_ble_eq_true rfl, Nat.le_of_ble_eq_true rfl⟩ rfl rfl rfl (As := []) (rest := [.int v4]) rfl rfl (Nat.le_of_ble_eq_true rfl) dX11_holds_8 ⟨Nat.zero_le _, Nat.zero_le _⟩ (fun H locs hW => ?_)
    show W p l e (rmq 1 22) s m args below meth c H locs 0 0 Q (F0 m 11 ls [.int x8, .int v4])
    refine lv_icmp_ge (tgt := 53) hx hb dX11_holds_11 (by decide) (fun c2 => ?_) (fun c2 => ?_)
    · have hf := (if_pos c2).symm.trans hf
      obtain ⟨x9003, hf, hx9003⟩ := map_of hf
      have e9003 := (Kr1 _ hx9003.symm).symm
      subst e9003
      refine lv_iload_n hx hb dX11_holds_53 rfl (lv_at hl 3 rfl) ?_
      obtain rfl := Option.some.inj hf
      rw [hQ]
      exact r_iret C hr hk hW rfl rfl dX11_holds_54
    · have hf := (if_neg c2).symm.trans hf
      refine lv_iload_n hx hb dX11_holds_14 rfl (lv_at hl 3 rfl) ?_
      refine lv_aload_n hx hb dX11_holds_15 rfl (lv_at hl 0 rfl) ?_
      refine lv_iload hx hb dX11_holds_16 (lv_at hl 4 rfl) ?_
      obtain ⟨x18, h18, hf⟩ := bd_of hf
      refine r_callV (k := ((0, 0) : Ky)) C hW hl lk_X11_128 (c_X11_isLeft h18) ⟨rfl, rfl⟩ ⟨Nat.le_of_ble_eq_true rfl, Nat.le_of_ble_eq_true rfl⟩ rfl rfl rfl (As := [.int v4]) (rest := [.int v3]) rfl rfl (Nat.le_of_ble_eq_true rfl) dX11_holds_18 ⟨Nat.zero_le _, Nat.zero_le _⟩ (fun H locs hW => ?_)
      show W p l e (rmq 1 22) s m args below meth c H locs 0 0 Q (F0 m 21 ls [.int x18, .int v3])
      refine lv_if_eq (tgt := 44) hx hb dX11_holds_21 (by decide) (fun c5 => ?_) (fun c5 => ?_)
      · have hf := (if_pos c5).symm.trans hf
        refine lv_iconst (v := 0) hx hb dX11_holds_44 (by decide) ?_
        refine lv_iadd hx hb dX11_holds_45 ?_
        refine lv_istore_n (lv' := [(3, .int (v3 + (0 : Int32))), (0, .ref (ad 0)), (1, .int v1), (2, .int v2), (4, .int v4)]) hx hb dX11_holds_46 rfl hl (by decide) rfl (fun ls hl => ?_)
        refine lv_iinc (v := (v4 + (1 : Int32))) (lv' := [(4, .int (v4 + (1 : Int32))), (3, .int (v3 + (0 : Int32))), (0, .ref (ad 0)), (1, .int v1), (2, .int v2)]) hx hb dX11_holds_47 hl (k := 4) rfl rfl (by decide) rfl (fun ls hl => ?_)
        refine lv_goto (tgt := 5) hx hb dX11_holds_50 (by decide) ?_
        obtain rfl := Option.some.inj hf
        exact Kl1 _ rfl _ _ _ hW (lv_sub hl [2, 3, 4, 1, 0] rfl)
      · have hf := (if_neg c5).symm.trans hf
        refine lv_aload_n hx hb dX11_holds_24 rfl (lv_at hl 0 rfl) ?_
        refine lv_iload_n hx hb dX11_holds_25 rfl (lv_at hl 1 rfl) ?_
        refine lv_iload hx hb dX11_holds_26 (lv_at hl 4 rfl) ?_
        obtain ⟨x28, h28, hf⟩ := bd_of hf
        refine r_callV (k := ((0, 0) : Ky)) C hW hl lk_X11_132 (c_X11_label h28) ⟨rfl, rfl⟩ ⟨Nat.le_of_ble_eq_true rfl, Nat.le_of_ble_eq_true rfl⟩ rfl rfl rfl (As := [.int v1, .int v4]) (rest := [.int v3]) rfl rfl (Nat.le_of_ble_eq_true rfl) dX11_holds_28 ⟨Nat.zero_le _, Nat.zero_le _⟩ (fun H locs hW => ?_)
        show W p l e (rmq 1 22) s m args below meth c H locs 0 0 Q (F0 m 31 ls [.int x28, .int v3])
        refine lv_aload_n hx hb dX11_holds_31 rfl (lv_at hl 0 rfl) ?_
        refine lv_iload_n hx hb dX11_holds_32 rfl (lv_at hl 1 rfl) ?_
        refine lv_iload_n hx hb dX11_holds_33 rfl (lv_at hl 2 rfl) ?_
        obtain ⟨x34, h34, hf⟩ := bd_of hf
        refine r_callV (k := ((0, 0) : Ky)) C hW hl lk_X11_132 (c_X11_label h34) ⟨rfl, rfl⟩ ⟨Nat.le_of_ble_eq_true rfl, Nat.le_of_ble_eq_true rfl⟩ rfl rfl rfl (As := [.int v1, .int v2]) (rest := [.int x28, .int v3]) rfl rfl (Nat.le_of_ble_eq_true rfl) dX11_holds_34 ⟨Nat.zero_le _, Nat.zero_le _⟩ (fun H locs hW => ?_)
        show W p l e (rmq 1 22) s m args below meth c H locs 0 0 Q (F0 m 37 ls [.int x34, .int x28, .int v3])
        refine lv_icmp_ne (tgt := 44) hx hb dX11_holds_37 (by decide) (fun c8 => ?_) (fun c8 => ?_)
        · have hf := (if_neg c8).symm.trans hf
          refine lv_iconst (v := 0) hx hb dX11_holds_44 (by decide) ?_
          refine lv_iadd hx hb dX11_holds_45 ?_
          refine lv_istore_n (lv' := [(3, .int (v3 + (0 : Int32))), (0, .ref (ad 0)), (1, .int v1), (2, .int v2), (4, .int v4)]) hx hb dX11_holds_46 rfl hl (by decide) rfl (fun ls hl => ?_)
          refine lv_iinc (v := (v4 + (1 : Int32))) (lv' := [(4, .int (v4 + (1 : Int32))), (3, .int (v3 + (0 : Int32))), (0, .ref (ad 0)), (1, .int v1), (2, .int v2)]) hx hb dX11_holds_47 hl (k := 4) rfl rfl (by decide) rfl (fun ls hl => ?_)
          refine lv_goto (tgt := 5) hx hb dX11_holds_50 (by decide) ?_
          obtain rfl := Option.some.inj hf
          exact Kl1 _ rfl _ _ _ hW (lv_sub hl [2, 3, 4, 1, 0] rfl)
        · have hf := (if_pos c8).symm.trans hf
          refine lv_iconst (v := 1) hx hb dX11_holds_40 (by decide) ?_
          refine lv_goto (tgt := 45) hx hb dX11_holds_41 (by decide) ?_
          refine lv_iadd hx hb dX11_holds_45 ?_
          refine lv_istore_n (lv' := [(3, .int (v3 + (1 : Int32))), (0, .ref (ad 0)), (1, .int v1), (2, .int v2), (4, .int v4)]) hx hb dX11_holds_46 rfl hl (by decide) rfl (fun ls hl => ?_)
          refine lv_iinc (v := (v4 + (1 : Int32))) (lv' := [(4, .int (v4 + (1 : Int32))), (3, .int (v3 + (1 : Int32))), (0, .ref (ad 0)), (1, .int v1), (2, .int v2)]) hx hb dX11_holds_47 hl (k := 4) rfl rfl (by decide) rfl (fun ls hl => ?_)
          refine lv_goto (tgt := 5) hx hb dX11_holds_50 (by decide) ?_
          obtain rfl := Option.some.inj hf
          exact Kl1 _ rfl _ _ _ hW (lv_sub hl [2, 3, 4, 1, 0] rfl)
  exact L5 (0 : Int32) (0 : Int32) _ _ _ hf hW (lv_sub hl [2, 3, 4, 1, 0] rfl)
set_option maxHeartbeats 4000000 in
set_option maxRecDepth 100000 in
theorem c_X11_allKnown {l : Launch} {D : va_G} {tc : Nat → ClassId} {ro : Ro} {ad : Nat → Nat} {μ : Mm} {v1 : Int32} {res : Int32 × Mm} (hf : f_X11_allKnown μ v1 = some res) : Ct l D tc ro (faM ad) (feM tc ad) yX11_allKnown cX11_allKnown 4 (some .int) (rmq 4 90) [.ref (ad 0), .int v1] μ (some (.int res.1)) res.2 := by
  refine Ct.of (by decide) (Nat.le_of_ble_eq_true rfl) (fun p e s m args below meth c A C hr hk hW ls hl => ?_)
  have hx := C.1.1
  have hb := C.1.2.1
  obtain ⟨Q, hQ⟩ : ∃ Q, Q = MQ below (Ctq D (faM ad) (feM tc ad) (some (.int res.1)) res.2 A) args s 0 0 A := ⟨_, rfl⟩
  rw [← hQ]
  have hl : lv_has ls 4 [(0, .ref (ad 0)), (1, .int v1)] := hl
  unfold f_X11_allKnown at hf
  refine lv_iconst (v := 0) hx hb dX11_allKnown_0 (by decide) ?_
  refine lv_istore_n (lv' := [(2, .int (0 : Int32)), (0, .ref (ad 0)), (1, .int v1)]) hx hb dX11_allKnown_1 rfl hl (by decide) rfl (fun ls hl => ?_)
  refine lv_iconst (v := 0) hx hb dX11_allKnown_2 (by decide) ?_
  refine lv_istore_n (lv' := [(3, .int (0 : Int32)), (2, .int (0 : Int32)), (0, .ref (ad 0)), (1, .int v1)]) hx hb dX11_allKnown_3 rfl hl (by decide) rfl (fun ls hl => ?_)
  have L4 : ∀ (μ : Mm) (v2 v3 : Int32) (H : Heap) (locs : List Loc) (ls : Array Slot), Wh (fun z : Mm × Int32 × Int32 => f_X11_allKnown_L4 v1 z.1 z.2.1 z.2.2) (μ, v2, v3) = some res → Wd D (faM ad) (feM tc ad) A s.heap μ H locs → lv_has ls 4 [(0, .ref (ad 0)), (1, .int v1), (2, .int v2), (3, .int v3)] → W p l e (rmq 4 90) s m args below meth c H locs 0 0 Q (F0 m 4 ls []) := by
    intro μ v2 v3 H locs ls hf hW hl
    refine Wh_rule hf (fun z : Mm × Int32 × Int32 => ∀ (H : Heap) (locs : List Loc) (ls : Array Slot), Wd D (faM ad) (feM tc ad) A s.heap z.1 H locs → lv_has ls 4 [(0, .ref (ad 0)), (1, .int v1), (2, .int z.2.1), (3, .int z.2.2)] → W p l e (rmq 4 90) s m args below meth c H locs 0 0 Q (F0 m 4 ls [])) (fun z o1 hf Kl1 Kr1 => ?_) _ _ _ hW hl
    obtain ⟨μ, v2, v3⟩ := z
    intro H locs ls hW hl
    have hf : f_X11_allKnown_L4 v1 μ v2 v3 = some o1 := hf
    unfold f_X11_allKnown_L4 at hf
    have hW : Wd D (faM ad) (feM tc ad) A s.heap μ H locs := hW
    have hl : lv_has ls 4 [(0, .ref (ad 0)), (1, .int v1), (2, .int v2), (3, .int v3)] := hl
    refine lv_iload_n hx hb dX11_allKnown_4 rfl (lv_at hl 3 rfl) ?_
    refine lv_aload_n hx hb dX11_allKnown_5 rfl (lv_at hl 0 rfl) ?_
    obtain ⟨x6, h6, hf⟩ := bd_of hf
    refine r_callV (k := ((0, 0) : Ky)) C hW hl lk_X11_107 (c_X11_people h6) ⟨rfl, rfl⟩ ⟨Nat.le_of_ble_eq_true rfl, Nat.le_of_ble_eq_true rfl⟩ rfl rfl rfl (As := []) (rest := [.int v3]) rfl rfl (Nat.le_of_ble_eq_true rfl) dX11_allKnown_6 ⟨Nat.zero_le _, Nat.zero_le _⟩ (fun H locs hW => ?_)
    show W p l e (rmq 4 90) s m args below meth c H locs 0 0 Q (F0 m 9 ls [.int x6, .int v3])
    refine lv_icmp_ge (tgt := 44) hx hb dX11_allKnown_9 (by decide) (fun c2 => ?_) (fun c2 => ?_)
    · have hf := (if_pos c2).symm.trans hf
      obtain ⟨x9003, hf, hx9003⟩ := map_of hf
      have e9003 := (Kr1 _ hx9003.symm).symm
      subst e9003
      refine lv_iload_n hx hb dX11_allKnown_44 rfl (lv_at hl 2 rfl) ?_
      obtain rfl := Option.some.inj hf
      rw [hQ]
      exact r_iret C hr hk hW rfl rfl dX11_allKnown_45
    · have hf := (if_neg c2).symm.trans hf
      refine lv_iload_n hx hb dX11_allKnown_12 rfl (lv_at hl 2 rfl) ?_
      refine lv_aload_n hx hb dX11_allKnown_13 rfl (lv_at hl 0 rfl) ?_
      refine lv_iload_n hx hb dX11_allKnown_14 rfl (lv_at hl 1 rfl) ?_
      refine lv_iload_n hx hb dX11_allKnown_15 rfl (lv_at hl 3 rfl) ?_
      refine lv_aload_n hx hb dX11_allKnown_16 rfl (lv_at hl 0 rfl) ?_
      obtain ⟨x17, h17, hf⟩ := bd_of hf
      refine r_callV (k := ((0, 0) : Ky)) C hW hl lk_X11_121 (c_X11_here h17) ⟨rfl, rfl⟩ ⟨Nat.le_of_ble_eq_true rfl, Nat.le_of_ble_eq_true rfl⟩ rfl rfl rfl (As := []) (rest := [.int v3, .int v1, .ref (ad 0), .int v2]) rfl rfl (Nat.le_of_ble_eq_true rfl) dX11_allKnown_17 ⟨Nat.zero_le _, Nat.zero_le _⟩ (fun H locs hW => ?_)
      show W p l e (rmq 4 90) s m args below meth c H locs 0 0 Q (F0 m 20 ls [.int x17, .int v3, .int v1, .ref (ad 0), .int v2])
      obtain ⟨x20, h20, hf⟩ := bd_of hf
      refine r_callV (k := ((0, 0) : Ky)) C hW hl lk_X11_139 (c_X11_possibleOf h20) ⟨rfl, rfl⟩ ⟨Nat.le_of_ble_eq_true rfl, Nat.le_of_ble_eq_true rfl⟩ rfl rfl rfl (As := [.int v1, .int v3, .int x17]) (rest := [.int v2]) rfl rfl (Nat.le_of_ble_eq_true rfl) dX11_allKnown_20 ⟨Nat.zero_le _, Nat.zero_le _⟩ (fun H locs hW => ?_)
      show W p l e (rmq 4 90) s m args below meth c H locs 0 0 Q (F0 m 23 ls [.int x20.1, .int v2])
      obtain ⟨x23, h23, hf⟩ := bd_of hf
      refine r_callS C hW hl lk_X11_143 (c_X11_isOne h23) ⟨rfl, rfl⟩ ⟨Nat.le_of_ble_eq_true rfl, Nat.le_of_ble_eq_true rfl⟩ (As := [.int x20.1]) (rest := [.int v2]) rfl rfl (Nat.le_of_ble_eq_true rfl) dX11_allKnown_23 ⟨Nat.zero_le _, Nat.zero_le _⟩ (fun H locs hW => ?_)
      show W p l e (rmq 4 90) s m args below meth c H locs 0 0 Q (F0 m 26 ls [.int x23, .int v2])
      refine lv_if_eq (tgt := 35) hx hb dX11_allKnown_26 (by decide) (fun c7 => ?_) (fun c7 => ?_)
      · have hf := (if_pos c7).symm.trans hf
        refine lv_iconst (v := 0) hx hb dX11_allKnown_35 (by decide) ?_
        refine lv_ior hx hb dX11_allKnown_36 ?_
        refine lv_istore_n (lv' := [(2, .int (v2 ||| (0 : Int32))), (0, .ref (ad 0)), (1, .int v1), (3, .int v3)]) hx hb dX11_allKnown_37 rfl hl (by decide) rfl (fun ls hl => ?_)
        refine lv_iinc (v := (v3 + (1 : Int32))) (lv' := [(3, .int (v3 + (1 : Int32))), (2, .int (v2 ||| (0 : Int32))), (0, .ref (ad 0)), (1, .int v1)]) hx hb dX11_allKnown_38 hl (k := 3) rfl rfl (by decide) rfl (fun ls hl => ?_)
        refine lv_goto (tgt := 4) hx hb dX11_allKnown_41 (by decide) ?_
        obtain rfl := Option.some.inj hf
        exact Kl1 _ rfl _ _ _ hW (lv_sub hl [2, 3, 1, 0] rfl)
      · have hf := (if_neg c7).symm.trans hf
        refine lv_iconst (v := 1) hx hb dX11_allKnown_29 (by decide) ?_
        refine lv_iload_n hx hb dX11_allKnown_30 rfl (lv_at hl 3 rfl) ?_
        refine lv_ishl hx hb dX11_allKnown_31 ?_
        refine lv_goto (tgt := 36) hx hb dX11_allKnown_32 (by decide) ?_
        refine lv_ior hx hb dX11_allKnown_36 ?_
        refine lv_istore_n (lv' := [(2, .int (v2 ||| ((1 : Int32) <<< (v3 &&& 31)))), (0, .ref (ad 0)), (1, .int v1), (3, .int v3)]) hx hb dX11_allKnown_37 rfl hl (by decide) rfl (fun ls hl => ?_)
        refine lv_iinc (v := (v3 + (1 : Int32))) (lv' := [(3, .int (v3 + (1 : Int32))), (2, .int (v2 ||| ((1 : Int32) <<< (v3 &&& 31)))), (0, .ref (ad 0)), (1, .int v1)]) hx hb dX11_allKnown_38 hl (k := 3) rfl rfl (by decide) rfl (fun ls hl => ?_)
        refine lv_goto (tgt := 4) hx hb dX11_allKnown_41 (by decide) ?_
        obtain rfl := Option.some.inj hf
        exact Kl1 _ rfl _ _ _ hW (lv_sub hl [2, 3, 1, 0] rfl)
  exact L4 μ (0 : Int32) (0 : Int32) _ _ _ hf hW (lv_sub hl [2, 3, 1, 0] rfl)
set_option maxHeartbeats 4000000 in
set_option maxRecDepth 100000 in
theorem c_X11_person {l : Launch} {D : va_G} {tc : Nat → ClassId} {ro : Ro} {ad : Nat → Nat} {μ : Mm} {v1 v2 : Int32} {res : Int32 × Mm} (hf : f_X11_person μ v1 v2 = some res) : Ct l D tc ro (faM ad) (feM tc ad) yX11_person cX11_person 3 (some .int) (rmq 5 113) [.ref (ad 0), .int v1, .int v2] μ (some (.int res.1)) res.2 := by
  refine Ct.of (by decide) (Nat.le_of_ble_eq_true rfl) (fun p e s m args below meth c A C hr hk hW ls hl => ?_)
  have hx := C.1.1
  have hb := C.1.2.1
  obtain ⟨Q, hQ⟩ : ∃ Q, Q = MQ below (Ctq D (faM ad) (feM tc ad) (some (.int res.1)) res.2 A) args s 0 0 A := ⟨_, rfl⟩
  rw [← hQ]
  have hl : lv_has ls 3 [(0, .ref (ad 0)), (1, .int v1), (2, .int v2)] := hl
  unfold f_X11_person at hf
  have J33 : ∀ (μ : Mm) (s0 : Int32) (H : Heap) (locs : List Loc) (ls : Array Slot), f_X11_person_J33 μ v1 v2 s0 = some res → Wd D (faM ad) (feM tc ad) A s.heap μ H locs → lv_has ls 3 [(0, .ref (ad 0)), (1, .int v1), (2, .int v2)] → W p l e (rmq 5 113) s m args below meth c H locs 0 0 Q (F0 m 33 ls [.int s0, .ref (ad 0)]) := by
    intro μ s0 H locs ls hf hW hl
    unfold f_X11_person_J33 at hf
    refine lv_iconst (v := 2) hx hb dX11_person_33 (by decide) ?_
    obtain ⟨x34, h34, hf⟩ := bd_of hf
    refine r_callV (k := ((0, 0) : Ky)) C hW hl lk_X11_322 (c_X11_throwsIf h34) ⟨rfl, rfl⟩ ⟨Nat.le_of_ble_eq_true rfl, Nat.le_of_ble_eq_true rfl⟩ rfl rfl rfl (As := [.int s0, .int (2 : Int32)]) (rest := []) rfl rfl (Nat.le_of_ble_eq_true rfl) dX11_person_34 ⟨Nat.zero_le _, Nat.zero_le _⟩ (fun H locs hW => ?_)
    show W p l e (rmq 5 113) s m args below meth c H locs 0 0 Q (F0 m 37 ls [.int x34.1])
    refine lv_if_eq (tgt := 42) hx hb dX11_person_37 (by decide) (fun c2 => ?_) (fun c2 => ?_)
    · have hf := (if_pos c2).symm.trans hf
      refine lv_iload_n hx hb dX11_person_42 rfl (lv_at hl 2 rfl) ?_
      by_cases c4 : v2 = (0 : Int32)
      · have hf := (if_pos c4).symm.trans hf
        refine lv_tableIn (off := 33) (tgt := 76) hx hb dX11_person_43 (by rw [c4]; decide) (by rw [c4]; decide) (by rw [c4]; rfl) (by decide) ?_
        refine lv_aload_n hx hb dX11_person_76 rfl (lv_at hl 0 rfl) ?_
        refine lv_iload_n hx hb dX11_person_77 rfl (lv_at hl 1 rfl) ?_
        obtain ⟨x78, h78, hf⟩ := bd_of hf
        refine r_callV (k := ((0, 0) : Ky)) C hW hl lk_X11_369 (c_X11_notice h78) ⟨rfl, rfl⟩ ⟨Nat.le_of_ble_eq_true rfl, Nat.le_of_ble_eq_true rfl⟩ rfl rfl rfl (As := [.int v1]) (rest := []) rfl rfl (Nat.le_of_ble_eq_true rfl) dX11_person_78 ⟨Nat.zero_le _, Nat.zero_le _⟩ (fun H locs hW => ?_)
        show W p l e (rmq 5 113) s m args below meth c H locs 0 0 Q (F0 m 81 ls [.int x78])
        obtain rfl := Option.some.inj hf
        rw [hQ]
        exact r_iret C hr hk hW rfl rfl dX11_person_81
      · have hf := (if_neg c4).symm.trans hf
        have n4 := lv_neT c4 (a := 0) (by decide)
        by_cases c6 : v2 = (1 : Int32)
        · have hf := (if_pos c6).symm.trans hf
          refine lv_tableIn (off := 39) (tgt := 82) hx hb dX11_person_43 (by rw [c6]; decide) (by rw [c6]; decide) (by rw [c6]; rfl) (by decide) ?_
          refine lv_aload_n hx hb dX11_person_82 rfl (lv_at hl 0 rfl) ?_
          refine gf_X11_13 C hW dX11_person_83 ?_
          refine lv_bipush (v := 11) hx hb dX11_person_86 (by decide) ?_
          refine lv_iload_n hx hb dX11_person_88 rfl (lv_at hl 1 rfl) ?_
          refine lv_iadd hx hb dX11_person_89 ?_
          obtain ⟨hi7, hf⟩ := ck_of hf
          refine r_iald (k := ((1, 0) : Ky)) (n := 7114) C hW rfl rfl hi7 dX11_person_90 ?_
          obtain rfl := Option.some.inj hf
          rw [hQ]
          exact r_iret C hr hk hW rfl rfl dX11_person_91
        · have hf := (if_neg c6).symm.trans hf
          have n6 := lv_neT c6 (a := 1) (by decide)
          by_cases c8 : v2 = (2 : Int32)
          · have hf := (if_pos c8).symm.trans hf
            refine lv_tableIn (off := 49) (tgt := 92) hx hb dX11_person_43 (by rw [c8]; decide) (by rw [c8]; decide) (by rw [c8]; rfl) (by decide) ?_
            refine lv_aload_n hx hb dX11_person_92 rfl (lv_at hl 0 rfl) ?_
            refine lv_iload_n hx hb dX11_person_93 rfl (lv_at hl 1 rfl) ?_
            obtain ⟨x94, h94, hf⟩ := bd_of hf
            refine r_callV (k := ((0, 0) : Ky)) C hW hl lk_X11_389 (c_X11_seenBy h94) ⟨rfl, rfl⟩ ⟨Nat.le_of_ble_eq_true rfl, Nat.le_of_ble_eq_true rfl⟩ rfl rfl rfl (As := [.int v1]) (rest := []) rfl rfl (Nat.le_of_ble_eq_true rfl) dX11_person_94 ⟨Nat.zero_le _, Nat.zero_le _⟩ (fun H locs hW => ?_)
            show W p l e (rmq 5 113) s m args below meth c H locs 0 0 Q (F0 m 97 ls [.int x94])
            obtain rfl := Option.some.inj hf
            rw [hQ]
            exact r_iret C hr hk hW rfl rfl dX11_person_97
          · have hf := (if_neg c8).symm.trans hf
            have n8 := lv_neT c8 (a := 2) (by decide)
            by_cases c10 : v2 = (3 : Int32)
            · have hf := (if_pos c10).symm.trans hf
              refine lv_tableIn (off := 55) (tgt := 98) hx hb dX11_person_43 (by rw [c10]; decide) (by rw [c10]; decide) (by rw [c10]; rfl) (by decide) ?_
              refine lv_aload_n hx hb dX11_person_98 rfl (lv_at hl 0 rfl) ?_
              refine lv_iload_n hx hb dX11_person_99 rfl (lv_at hl 1 rfl) ?_
              refine lv_aload_n hx hb dX11_person_100 rfl (lv_at hl 0 rfl) ?_
              obtain ⟨x101, h101, hf⟩ := bd_of hf
              refine r_callV (k := ((0, 0) : Ky)) C hW hl lk_X11_121 (c_X11_here h101) ⟨rfl, rfl⟩ ⟨Nat.le_of_ble_eq_true rfl, Nat.le_of_ble_eq_true rfl⟩ rfl rfl rfl (As := []) (rest := [.int v1, .ref (ad 0)]) rfl rfl (Nat.le_of_ble_eq_true rfl) dX11_person_101 ⟨Nat.zero_le _, Nat.zero_le _⟩ (fun H locs hW => ?_)
              show W p l e (rmq 5 113) s m args below meth c H locs 0 0 Q (F0 m 104 ls [.int x101, .int v1, .ref (ad 0)])
              obtain ⟨x104, h104, hf⟩ := bd_of hf
              refine r_callV (k := ((0, 0) : Ky)) C hW hl lk_X11_146 (c_X11_isSure h104) ⟨rfl, rfl⟩ ⟨Nat.le_of_ble_eq_true rfl, Nat.le_of_ble_eq_true rfl⟩ rfl rfl rfl (As := [.int v1, .int x101]) (rest := []) rfl rfl (Nat.le_of_ble_eq_true rfl) dX11_person_104 ⟨Nat.zero_le _, Nat.zero_le _⟩ (fun H locs hW => ?_)
              show W p l e (rmq 5 113) s m args below meth c H locs 0 0 Q (F0 m 107 ls [.int x104.1])
              refine lv_if_eq (tgt := 114) hx hb dX11_person_107 (by decide) (fun c13 => ?_) (fun c13 => ?_)
              · have hf := (if_pos c13).symm.trans hf
                refine lv_iconst (v := 0) hx hb dX11_person_114 (by decide) ?_
                obtain rfl := Option.some.inj hf
                rw [hQ]
                exact r_iret C hr hk hW rfl rfl dX11_person_115
              · have hf := (if_neg c13).symm.trans hf
                refine lv_iconst (v := 1) hx hb dX11_person_110 (by decide) ?_
                refine lv_goto (tgt := 115) hx hb dX11_person_111 (by decide) ?_
                obtain rfl := Option.some.inj hf
                rw [hQ]
                exact r_iret C hr hk hW rfl rfl dX11_person_115
            · have hf := (if_neg c10).symm.trans hf
              have n10 := lv_neT c10 (a := 3) (by decide)
              by_cases c14 : v2 = (4 : Int32)
              · have hf := (if_pos c14).symm.trans hf
                refine lv_tableIn (off := 73) (tgt := 116) hx hb dX11_person_43 (by rw [c14]; decide) (by rw [c14]; decide) (by rw [c14]; rfl) (by decide) ?_
                refine lv_aload_n hx hb dX11_person_116 rfl (lv_at hl 0 rfl) ?_
                refine lv_iload_n hx hb dX11_person_117 rfl (lv_at hl 1 rfl) ?_
                refine lv_aload_n hx hb dX11_person_118 rfl (lv_at hl 0 rfl) ?_
                obtain ⟨x119, h119, hf⟩ := bd_of hf
                refine r_callV (k := ((0, 0) : Ky)) C hW hl lk_X11_121 (c_X11_here h119) ⟨rfl, rfl⟩ ⟨Nat.le_of_ble_eq_true rfl, Nat.le_of_ble_eq_true rfl⟩ rfl rfl rfl (As := []) (rest := [.int v1, .ref (ad 0)]) rfl rfl (Nat.le_of_ble_eq_true rfl) dX11_person_119 ⟨Nat.zero_le _, Nat.zero_le _⟩ (fun H locs hW => ?_)
                show W p l e (rmq 5 113) s m args below meth c H locs 0 0 Q (F0 m 122 ls [.int x119, .int v1, .ref (ad 0)])
                obtain ⟨x122, h122, hf⟩ := bd_of hf
                refine r_callV (k := ((0, 0) : Ky)) C hW hl lk_X11_392 (c_X11_holds h122) ⟨rfl, rfl⟩ ⟨Nat.le_of_ble_eq_true rfl, Nat.le_of_ble_eq_true rfl⟩ rfl rfl rfl (As := [.int v1, .int x119]) (rest := []) rfl rfl (Nat.le_of_ble_eq_true rfl) dX11_person_122 ⟨Nat.zero_le _, Nat.zero_le _⟩ (fun H locs hW => ?_)
                show W p l e (rmq 5 113) s m args below meth c H locs 0 0 Q (F0 m 125 ls [.int x122])
                obtain rfl := Option.some.inj hf
                rw [hQ]
                exact r_iret C hr hk hW rfl rfl dX11_person_125
              · have hf := (if_neg c14).symm.trans hf
                have n14 := lv_neT c14 (a := 4) (by decide)
                refine lv_tableOut (tgt := 126) hx hb dX11_person_43 (by omega) (by decide) ?_
                refine lv_aload_n hx hb dX11_person_126 rfl (lv_at hl 0 rfl) ?_
                refine lv_iload_n hx hb dX11_person_127 rfl (lv_at hl 1 rfl) ?_
                obtain ⟨x128, h128, hf⟩ := bd_of hf
                refine r_callV (k := ((0, 0) : Ky)) C hW hl lk_X11_395 (c_X11_allKnown h128) ⟨rfl, rfl⟩ ⟨Nat.le_of_ble_eq_true rfl, Nat.le_of_ble_eq_true rfl⟩ rfl rfl rfl (As := [.int v1]) (rest := []) rfl rfl (Nat.le_of_ble_eq_true rfl) dX11_person_128 ⟨Nat.zero_le _, Nat.zero_le _⟩ (fun H locs hW => ?_)
                show W p l e (rmq 5 113) s m args below meth c H locs 0 0 Q (F0 m 131 ls [.int x128.1])
                obtain rfl := Option.some.inj hf
                rw [hQ]
                exact r_iret C hr hk hW rfl rfl dX11_person_131
    · have hf := (if_neg c2).symm.trans hf
      refine lv_iconst (v := 0) hx hb dX11_person_40 (by decide) ?_
      obtain rfl := Option.some.inj hf
      rw [hQ]
      exact r_iret C hr hk hW rfl rfl dX11_person_41
  refine lv_aload_n hx hb dX11_person_0 rfl (lv_at hl 0 rfl) ?_
  refine lv_iconst (v := 0) hx hb dX11_person_1 (by decide) ?_
  refine pf_X11_3 C hW dX11_person_2 (fun H locs hW => ?_)
  refine lv_aload_n hx hb dX11_person_5 rfl (lv_at hl 0 rfl) ?_
  refine lv_aload_n hx hb dX11_person_6 rfl (lv_at hl 0 rfl) ?_
  refine lv_iload_n hx hb dX11_person_7 rfl (lv_at hl 1 rfl) ?_
  obtain ⟨x8, h8, hf⟩ := bd_of hf
  refine r_callV (k := ((0, 0) : Ky)) C hW hl lk_X11_359 (c_X11_noPerson h8) ⟨rfl, rfl⟩ ⟨Nat.le_of_ble_eq_true rfl, Nat.le_of_ble_eq_true rfl⟩ rfl rfl rfl (As := [.int v1]) (rest := [.ref (ad 0)]) rfl rfl (Nat.le_of_ble_eq_true rfl) dX11_person_8 ⟨Nat.zero_le _, Nat.zero_le _⟩ (fun H locs hW => ?_)
  show W p l e (rmq 5 113) s m args below meth c H locs 0 0 Q (F0 m 11 ls [.int x8, .ref (ad 0)])
  refine lv_iconst (v := 1) hx hb dX11_person_11 (by decide) ?_
  obtain ⟨x12, h12, hf⟩ := bd_of hf
  refine r_callV (k := ((0, 0) : Ky)) C hW hl lk_X11_322 (c_X11_throwsIf h12) ⟨rfl, rfl⟩ ⟨Nat.le_of_ble_eq_true rfl, Nat.le_of_ble_eq_true rfl⟩ rfl rfl rfl (As := [.int x8, .int (1 : Int32)]) (rest := []) rfl rfl (Nat.le_of_ble_eq_true rfl) dX11_person_12 ⟨Nat.zero_le _, Nat.zero_le _⟩ (fun H locs hW => ?_)
  show W p l e (rmq 5 113) s m args below meth c H locs 0 0 Q (F0 m 15 ls [.int x12.1])
  refine lv_if_ne (tgt := 40) hx hb dX11_person_15 (by decide) (fun c20 => ?_) (fun c20 => ?_)
  · have hf := (if_neg c20).symm.trans hf
    refine lv_iconst (v := 0) hx hb dX11_person_40 (by decide) ?_
    obtain rfl := Option.some.inj hf
    rw [hQ]
    exact r_iret C hr hk hW rfl rfl dX11_person_41
  · have hf := (if_pos c20).symm.trans hf
    refine lv_aload_n hx hb dX11_person_18 rfl (lv_at hl 0 rfl) ?_
    refine lv_iload_n hx hb dX11_person_19 rfl (lv_at hl 2 rfl) ?_
    refine lv_iconst (v := 0) hx hb dX11_person_20 (by decide) ?_
    refine lv_iconst (v := 5) hx hb dX11_person_21 (by decide) ?_
    obtain ⟨x22, h22, hf⟩ := bd_of hf
    refine r_callS C hW hl lk_X11_111 (c_X11_in h22) ⟨rfl, rfl⟩ ⟨Nat.le_of_ble_eq_true rfl, Nat.le_of_ble_eq_true rfl⟩ (As := [.int v2, .int (0 : Int32), .int (5 : Int32)]) (rest := [.ref (ad 0)]) rfl rfl (Nat.le_of_ble_eq_true rfl) dX11_person_22 ⟨Nat.zero_le _, Nat.zero_le _⟩ (fun H locs hW => ?_)
    show W p l e (rmq 5 113) s m args below meth c H locs 0 0 Q (F0 m 25 ls [.int x22, .ref (ad 0)])
    refine lv_if_ne (tgt := 32) hx hb dX11_person_25 (by decide) (fun c22 => ?_) (fun c22 => ?_)
    · have hf := (if_neg c22).symm.trans hf
      refine lv_iconst (v := 0) hx hb dX11_person_32 (by decide) ?_
      exact J33 x12.2 (0 : Int32) _ _ _ hf hW (lv_sub hl [0, 1, 2] rfl)
    · have hf := (if_pos c22).symm.trans hf
      refine lv_iconst (v := 1) hx hb dX11_person_28 (by decide) ?_
      refine lv_goto (tgt := 33) hx hb dX11_person_29 (by decide) ?_
      exact J33 x12.2 (1 : Int32) _ _ _ hf hW (lv_sub hl [0, 1, 2] rfl)
set_option maxHeartbeats 4000000 in
set_option maxRecDepth 100000 in
theorem c_X11_left {l : Launch} {D : va_G} {tc : Nat → ClassId} {ro : Ro} {ad : Nat → Nat} {μ : Mm} {v1 : Int32} {res : Int32 × Mm} (hf : f_X11_left μ v1 = some res) : Ct l D tc ro (faM ad) (feM tc ad) yX11_left cX11_left 2 (some .boolean) (rmq 2 43) [.ref (ad 0), .int v1] μ (some (.int res.1)) res.2 := by
  refine Ct.of (by decide) (Nat.le_of_ble_eq_true rfl) (fun p e s m args below meth c A C hr hk hW ls hl => ?_)
  have hx := C.1.1
  have hb := C.1.2.1
  obtain ⟨Q, hQ⟩ : ∃ Q, Q = MQ below (Ctq D (faM ad) (feM tc ad) (some (.int res.1)) res.2 A) args s 0 0 A := ⟨_, rfl⟩
  rw [← hQ]
  have hl : lv_has ls 2 [(0, .ref (ad 0)), (1, .int v1)] := hl
  unfold f_X11_left at hf
  refine lv_aload_n hx hb dX11_left_0 rfl (lv_at hl 0 rfl) ?_
  refine lv_iconst (v := 0) hx hb dX11_left_1 (by decide) ?_
  refine pf_X11_3 C hW dX11_left_2 (fun H locs hW => ?_)
  refine lv_aload_n hx hb dX11_left_5 rfl (lv_at hl 0 rfl) ?_
  refine lv_aload_n hx hb dX11_left_6 rfl (lv_at hl 0 rfl) ?_
  refine lv_iload_n hx hb dX11_left_7 rfl (lv_at hl 1 rfl) ?_
  obtain ⟨x8, h8, hf⟩ := bd_of hf
  refine r_callV (k := ((0, 0) : Ky)) C hW hl lk_X11_398 (c_X11_noWorld h8) ⟨rfl, rfl⟩ ⟨Nat.le_of_ble_eq_true rfl, Nat.le_of_ble_eq_true rfl⟩ rfl rfl rfl (As := [.int v1]) (rest := [.ref (ad 0)]) rfl rfl (Nat.le_of_ble_eq_true rfl) dX11_left_8 ⟨Nat.zero_le _, Nat.zero_le _⟩ (fun H locs hW => ?_)
  show W p l e (rmq 2 43) s m args below meth c H locs 0 0 Q (F0 m 11 ls [.int x8, .ref (ad 0)])
  refine lv_iconst (v := 1) hx hb dX11_left_11 (by decide) ?_
  obtain ⟨x12, h12, hf⟩ := bd_of hf
  refine r_callV (k := ((0, 0) : Ky)) C hW hl lk_X11_322 (c_X11_throwsIf h12) ⟨rfl, rfl⟩ ⟨Nat.le_of_ble_eq_true rfl, Nat.le_of_ble_eq_true rfl⟩ rfl rfl rfl (As := [.int x8, .int (1 : Int32)]) (rest := []) rfl rfl (Nat.le_of_ble_eq_true rfl) dX11_left_12 ⟨Nat.zero_le _, Nat.zero_le _⟩ (fun H locs hW => ?_)
  show W p l e (rmq 2 43) s m args below meth c H locs 0 0 Q (F0 m 15 ls [.int x12.1])
  refine lv_if_ne (tgt := 30) hx hb dX11_left_15 (by decide) (fun c3 => ?_) (fun c3 => ?_)
  · have hf := (if_neg c3).symm.trans hf
    refine lv_iconst (v := 0) hx hb dX11_left_30 (by decide) ?_
    obtain rfl := Option.some.inj hf
    rw [hQ]
    exact r_zret C hr hk hW (Or.inl rfl) rfl rfl dX11_left_31
  · have hf := (if_pos c3).symm.trans hf
    refine lv_aload_n hx hb dX11_left_18 rfl (lv_at hl 0 rfl) ?_
    refine lv_iload_n hx hb dX11_left_19 rfl (lv_at hl 1 rfl) ?_
    obtain ⟨x20, h20, hf⟩ := bd_of hf
    refine r_callV (k := ((0, 0) : Ky)) C hW hl lk_X11_128 (c_X11_isLeft h20) ⟨rfl, rfl⟩ ⟨Nat.le_of_ble_eq_true rfl, Nat.le_of_ble_eq_true rfl⟩ rfl rfl rfl (As := [.int v1]) (rest := []) rfl rfl (Nat.le_of_ble_eq_true rfl) dX11_left_20 ⟨Nat.zero_le _, Nat.zero_le _⟩ (fun H locs hW => ?_)
    show W p l e (rmq 2 43) s m args below meth c H locs 0 0 Q (F0 m 23 ls [.int x20])
    refine lv_if_eq (tgt := 30) hx hb dX11_left_23 (by decide) (fun c5 => ?_) (fun c5 => ?_)
    · have hf := (if_pos c5).symm.trans hf
      refine lv_iconst (v := 0) hx hb dX11_left_30 (by decide) ?_
      obtain rfl := Option.some.inj hf
      rw [hQ]
      exact r_zret C hr hk hW (Or.inl rfl) rfl rfl dX11_left_31
    · have hf := (if_neg c5).symm.trans hf
      refine lv_iconst (v := 1) hx hb dX11_left_26 (by decide) ?_
      refine lv_goto (tgt := 31) hx hb dX11_left_27 (by decide) ?_
      obtain rfl := Option.some.inj hf
      rw [hQ]
      exact r_zret C hr hk hW (Or.inr rfl) rfl rfl dX11_left_31
set_option maxHeartbeats 4000000 in
set_option maxRecDepth 100000 in
theorem c_X11_apart {l : Launch} {D : va_G} {tc : Nat → ClassId} {ro : Ro} {ad : Nat → Nat} {μ : Mm} {v1 v2 v3 : Int32} {res : Int32 × Mm} (hf : f_X11_apart μ v1 v2 v3 = some res) : Ct l D tc ro (faM ad) (feM tc ad) yX11_apart cX11_apart 4 (some .boolean) (rmq 2 43) [.ref (ad 0), .int v1, .int v2, .int v3] μ (some (.int res.1)) res.2 := by
  refine Ct.of (by decide) (Nat.le_of_ble_eq_true rfl) (fun p e s m args below meth c A C hr hk hW ls hl => ?_)
  have hx := C.1.1
  have hb := C.1.2.1
  obtain ⟨Q, hQ⟩ : ∃ Q, Q = MQ below (Ctq D (faM ad) (feM tc ad) (some (.int res.1)) res.2 A) args s 0 0 A := ⟨_, rfl⟩
  rw [← hQ]
  have hl : lv_has ls 4 [(0, .ref (ad 0)), (1, .int v1), (2, .int v2), (3, .int v3)] := hl
  unfold f_X11_apart at hf
  have J64 : ∀ (μ : Mm) (s0 : Int32) (H : Heap) (locs : List Loc) (ls : Array Slot), f_X11_apart_J64 μ v1 v2 v3 s0 = some res → Wd D (faM ad) (feM tc ad) A s.heap μ H locs → lv_has ls 4 [(0, .ref (ad 0)), (1, .int v1), (2, .int v2), (3, .int v3)] → W p l e (rmq 2 43) s m args below meth c H locs 0 0 Q (F0 m 64 ls [.int s0, .ref (ad 0)]) := by
    intro μ s0 H locs ls hf hW hl
    unfold f_X11_apart_J64 at hf
    refine lv_iconst (v := 2) hx hb dX11_apart_64 (by decide) ?_
    obtain ⟨x65, h65, hf⟩ := bd_of hf
    refine r_callV (k := ((0, 0) : Ky)) C hW hl lk_X11_322 (c_X11_throwsIf h65) ⟨rfl, rfl⟩ ⟨Nat.le_of_ble_eq_true rfl, Nat.le_of_ble_eq_true rfl⟩ rfl rfl rfl (As := [.int s0, .int (2 : Int32)]) (rest := []) rfl rfl (Nat.le_of_ble_eq_true rfl) dX11_apart_65 ⟨Nat.zero_le _, Nat.zero_le _⟩ (fun H locs hW => ?_)
    show W p l e (rmq 2 43) s m args below meth c H locs 0 0 Q (F0 m 68 ls [.int x65.1])
    refine lv_if_eq (tgt := 73) hx hb dX11_apart_68 (by decide) (fun c2 => ?_) (fun c2 => ?_)
    · have hf := (if_pos c2).symm.trans hf
      refine lv_aload_n hx hb dX11_apart_73 rfl (lv_at hl 0 rfl) ?_
      refine lv_iload_n hx hb dX11_apart_74 rfl (lv_at hl 1 rfl) ?_
      refine lv_iload_n hx hb dX11_apart_75 rfl (lv_at hl 2 rfl) ?_
      obtain ⟨x76, h76, hf⟩ := bd_of hf
      refine r_callV (k := ((0, 0) : Ky)) C hW hl lk_X11_132 (c_X11_label h76) ⟨rfl, rfl⟩ ⟨Nat.le_of_ble_eq_true rfl, Nat.le_of_ble_eq_true rfl⟩ rfl rfl rfl (As := [.int v1, .int v2]) (rest := []) rfl rfl (Nat.le_of_ble_eq_true rfl) dX11_apart_76 ⟨Nat.zero_le _, Nat.zero_le _⟩ (fun H locs hW => ?_)
      show W p l e (rmq 2 43) s m args below meth c H locs 0 0 Q (F0 m 79 ls [.int x76])
      refine lv_aload_n hx hb dX11_apart_79 rfl (lv_at hl 0 rfl) ?_
      refine lv_iload_n hx hb dX11_apart_80 rfl (lv_at hl 1 rfl) ?_
      refine lv_iload_n hx hb dX11_apart_81 rfl (lv_at hl 3 rfl) ?_
      obtain ⟨x82, h82, hf⟩ := bd_of hf
      refine r_callV (k := ((0, 0) : Ky)) C hW hl lk_X11_132 (c_X11_label h82) ⟨rfl, rfl⟩ ⟨Nat.le_of_ble_eq_true rfl, Nat.le_of_ble_eq_true rfl⟩ rfl rfl rfl (As := [.int v1, .int v3]) (rest := [.int x76]) rfl rfl (Nat.le_of_ble_eq_true rfl) dX11_apart_82 ⟨Nat.zero_le _, Nat.zero_le _⟩ (fun H locs hW => ?_)
      show W p l e (rmq 2 43) s m args below meth c H locs 0 0 Q (F0 m 85 ls [.int x82, .int x76])
      refine lv_icmp_eq (tgt := 92) hx hb dX11_apart_85 (by decide) (fun c5 => ?_) (fun c5 => ?_)
      · have hf := (if_pos c5).symm.trans hf
        refine lv_iconst (v := 0) hx hb dX11_apart_92 (by decide) ?_
        obtain rfl := Option.some.inj hf
        rw [hQ]
        exact r_zret C hr hk hW (Or.inl rfl) rfl rfl dX11_apart_93
      · have hf := (if_neg c5).symm.trans hf
        refine lv_iconst (v := 1) hx hb dX11_apart_88 (by decide) ?_
        refine lv_goto (tgt := 93) hx hb dX11_apart_89 (by decide) ?_
        obtain rfl := Option.some.inj hf
        rw [hQ]
        exact r_zret C hr hk hW (Or.inr rfl) rfl rfl dX11_apart_93
    · have hf := (if_neg c2).symm.trans hf
      refine lv_iconst (v := 0) hx hb dX11_apart_71 (by decide) ?_
      obtain rfl := Option.some.inj hf
      rw [hQ]
      exact r_zret C hr hk hW (Or.inl rfl) rfl rfl dX11_apart_72
  have J35 : ∀ (μ : Mm) (s0 : Int32) (H : Heap) (locs : List Loc) (ls : Array Slot), f_X11_apart_J35 μ v1 v2 v3 s0 = some res → Wd D (faM ad) (feM tc ad) A s.heap μ H locs → lv_has ls 4 [(0, .ref (ad 0)), (1, .int v1), (2, .int v2), (3, .int v3)] → W p l e (rmq 2 43) s m args below meth c H locs 0 0 Q (F0 m 35 ls [.int s0, .ref (ad 0)]) := by
    intro μ s0 H locs ls hf hW hl
    unfold f_X11_apart_J35 at hf
    refine lv_iconst (v := 1) hx hb dX11_apart_35 (by decide) ?_
    obtain ⟨x36, h36, hf⟩ := bd_of hf
    refine r_callV (k := ((0, 0) : Ky)) C hW hl lk_X11_322 (c_X11_throwsIf h36) ⟨rfl, rfl⟩ ⟨Nat.le_of_ble_eq_true rfl, Nat.le_of_ble_eq_true rfl⟩ rfl rfl rfl (As := [.int s0, .int (1 : Int32)]) (rest := []) rfl rfl (Nat.le_of_ble_eq_true rfl) dX11_apart_36 ⟨Nat.zero_le _, Nat.zero_le _⟩ (fun H locs hW => ?_)
    show W p l e (rmq 2 43) s m args below meth c H locs 0 0 Q (F0 m 39 ls [.int x36.1])
    refine lv_if_ne (tgt := 71) hx hb dX11_apart_39 (by decide) (fun c7 => ?_) (fun c7 => ?_)
    · have hf := (if_neg c7).symm.trans hf
      refine lv_iconst (v := 0) hx hb dX11_apart_71 (by decide) ?_
      obtain rfl := Option.some.inj hf
      rw [hQ]
      exact r_zret C hr hk hW (Or.inl rfl) rfl rfl dX11_apart_72
    · have hf := (if_pos c7).symm.trans hf
      refine lv_aload_n hx hb dX11_apart_42 rfl (lv_at hl 0 rfl) ?_
      refine lv_aload_n hx hb dX11_apart_43 rfl (lv_at hl 0 rfl) ?_
      refine lv_iload_n hx hb dX11_apart_44 rfl (lv_at hl 2 rfl) ?_
      obtain ⟨x45, h45, hf⟩ := bd_of hf
      refine r_callV (k := ((0, 0) : Ky)) C hW hl lk_X11_128 (c_X11_isLeft h45) ⟨rfl, rfl⟩ ⟨Nat.le_of_ble_eq_true rfl, Nat.le_of_ble_eq_true rfl⟩ rfl rfl rfl (As := [.int v2]) (rest := [.ref (ad 0)]) rfl rfl (Nat.le_of_ble_eq_true rfl) dX11_apart_45 ⟨Nat.zero_le _, Nat.zero_le _⟩ (fun H locs hW => ?_)
      show W p l e (rmq 2 43) s m args below meth c H locs 0 0 Q (F0 m 48 ls [.int x45, .ref (ad 0)])
      refine lv_if_eq (tgt := 59) hx hb dX11_apart_48 (by decide) (fun c9 => ?_) (fun c9 => ?_)
      · have hf := (if_pos c9).symm.trans hf
        refine lv_iconst (v := 1) hx hb dX11_apart_59 (by decide) ?_
        refine lv_goto (tgt := 64) hx hb dX11_apart_60 (by decide) ?_
        exact J64 x36.2 (1 : Int32) _ _ _ hf hW (lv_sub hl [0, 1, 2, 3] rfl)
      · have hf := (if_neg c9).symm.trans hf
        refine lv_aload_n hx hb dX11_apart_51 rfl (lv_at hl 0 rfl) ?_
        refine lv_iload_n hx hb dX11_apart_52 rfl (lv_at hl 3 rfl) ?_
        obtain ⟨x53, h53, hf⟩ := bd_of hf
        refine r_callV (k := ((0, 0) : Ky)) C hW hl lk_X11_128 (c_X11_isLeft h53) ⟨rfl, rfl⟩ ⟨Nat.le_of_ble_eq_true rfl, Nat.le_of_ble_eq_true rfl⟩ rfl rfl rfl (As := [.int v3]) (rest := [.ref (ad 0)]) rfl rfl (Nat.le_of_ble_eq_true rfl) dX11_apart_53 ⟨Nat.zero_le _, Nat.zero_le _⟩ (fun H locs hW => ?_)
        show W p l e (rmq 2 43) s m args below meth c H locs 0 0 Q (F0 m 56 ls [.int x53, .ref (ad 0)])
        refine lv_if_ne (tgt := 63) hx hb dX11_apart_56 (by decide) (fun c11 => ?_) (fun c11 => ?_)
        · have hf := (if_neg c11).symm.trans hf
          refine lv_iconst (v := 0) hx hb dX11_apart_63 (by decide) ?_
          exact J64 x36.2 (0 : Int32) _ _ _ hf hW (lv_sub hl [0, 1, 2, 3] rfl)
        · have hf := (if_pos c11).symm.trans hf
          refine lv_iconst (v := 1) hx hb dX11_apart_59 (by decide) ?_
          refine lv_goto (tgt := 64) hx hb dX11_apart_60 (by decide) ?_
          exact J64 x36.2 (1 : Int32) _ _ _ hf hW (lv_sub hl [0, 1, 2, 3] rfl)
  refine lv_aload_n hx hb dX11_apart_0 rfl (lv_at hl 0 rfl) ?_
  refine lv_iconst (v := 0) hx hb dX11_apart_1 (by decide) ?_
  refine pf_X11_3 C hW dX11_apart_2 (fun H locs hW => ?_)
  refine lv_aload_n hx hb dX11_apart_5 rfl (lv_at hl 0 rfl) ?_
  refine lv_aload_n hx hb dX11_apart_6 rfl (lv_at hl 0 rfl) ?_
  refine lv_iload_n hx hb dX11_apart_7 rfl (lv_at hl 1 rfl) ?_
  obtain ⟨x8, h8, hf⟩ := bd_of hf
  refine r_callV (k := ((0, 0) : Ky)) C hW hl lk_X11_359 (c_X11_noPerson h8) ⟨rfl, rfl⟩ ⟨Nat.le_of_ble_eq_true rfl, Nat.le_of_ble_eq_true rfl⟩ rfl rfl rfl (As := [.int v1]) (rest := [.ref (ad 0)]) rfl rfl (Nat.le_of_ble_eq_true rfl) dX11_apart_8 ⟨Nat.zero_le _, Nat.zero_le _⟩ (fun H locs hW => ?_)
  show W p l e (rmq 2 43) s m args below meth c H locs 0 0 Q (F0 m 11 ls [.int x8, .ref (ad 0)])
  refine lv_if_ne (tgt := 30) hx hb dX11_apart_11 (by decide) (fun c13 => ?_) (fun c13 => ?_)
  · have hf := (if_neg c13).symm.trans hf
    refine lv_iconst (v := 1) hx hb dX11_apart_30 (by decide) ?_
    refine lv_goto (tgt := 35) hx hb dX11_apart_31 (by decide) ?_
    exact J35 (mst μ (0, 0) 0 (0 : Int32)) (1 : Int32) _ _ _ hf hW (lv_sub hl [0, 1, 2, 3] rfl)
  · have hf := (if_pos c13).symm.trans hf
    refine lv_aload_n hx hb dX11_apart_14 rfl (lv_at hl 0 rfl) ?_
    refine lv_iload_n hx hb dX11_apart_15 rfl (lv_at hl 2 rfl) ?_
    obtain ⟨x16, h16, hf⟩ := bd_of hf
    refine r_callV (k := ((0, 0) : Ky)) C hW hl lk_X11_398 (c_X11_noWorld h16) ⟨rfl, rfl⟩ ⟨Nat.le_of_ble_eq_true rfl, Nat.le_of_ble_eq_true rfl⟩ rfl rfl rfl (As := [.int v2]) (rest := [.ref (ad 0)]) rfl rfl (Nat.le_of_ble_eq_true rfl) dX11_apart_16 ⟨Nat.zero_le _, Nat.zero_le _⟩ (fun H locs hW => ?_)
    show W p l e (rmq 2 43) s m args below meth c H locs 0 0 Q (F0 m 19 ls [.int x16, .ref (ad 0)])
    refine lv_if_ne (tgt := 30) hx hb dX11_apart_19 (by decide) (fun c15 => ?_) (fun c15 => ?_)
    · have hf := (if_neg c15).symm.trans hf
      refine lv_iconst (v := 1) hx hb dX11_apart_30 (by decide) ?_
      refine lv_goto (tgt := 35) hx hb dX11_apart_31 (by decide) ?_
      exact J35 (mst μ (0, 0) 0 (0 : Int32)) (1 : Int32) _ _ _ hf hW (lv_sub hl [0, 1, 2, 3] rfl)
    · have hf := (if_pos c15).symm.trans hf
      refine lv_aload_n hx hb dX11_apart_22 rfl (lv_at hl 0 rfl) ?_
      refine lv_iload_n hx hb dX11_apart_23 rfl (lv_at hl 3 rfl) ?_
      obtain ⟨x24, h24, hf⟩ := bd_of hf
      refine r_callV (k := ((0, 0) : Ky)) C hW hl lk_X11_398 (c_X11_noWorld h24) ⟨rfl, rfl⟩ ⟨Nat.le_of_ble_eq_true rfl, Nat.le_of_ble_eq_true rfl⟩ rfl rfl rfl (As := [.int v3]) (rest := [.ref (ad 0)]) rfl rfl (Nat.le_of_ble_eq_true rfl) dX11_apart_24 ⟨Nat.zero_le _, Nat.zero_le _⟩ (fun H locs hW => ?_)
      show W p l e (rmq 2 43) s m args below meth c H locs 0 0 Q (F0 m 27 ls [.int x24, .ref (ad 0)])
      refine lv_if_eq (tgt := 34) hx hb dX11_apart_27 (by decide) (fun c17 => ?_) (fun c17 => ?_)
      · have hf := (if_pos c17).symm.trans hf
        refine lv_iconst (v := 0) hx hb dX11_apart_34 (by decide) ?_
        exact J35 (mst μ (0, 0) 0 (0 : Int32)) (0 : Int32) _ _ _ hf hW (lv_sub hl [0, 1, 2, 3] rfl)
      · have hf := (if_neg c17).symm.trans hf
        refine lv_iconst (v := 1) hx hb dX11_apart_30 (by decide) ?_
        refine lv_goto (tgt := 35) hx hb dX11_apart_31 (by decide) ?_
        exact J35 (mst μ (0, 0) 0 (0 : Int32)) (1 : Int32) _ _ _ hf hW (lv_sub hl [0, 1, 2, 3] rfl)
set_option maxHeartbeats 4000000 in
set_option maxRecDepth 100000 in
theorem c_X11_sure {l : Launch} {D : va_G} {tc : Nat → ClassId} {ro : Ro} {ad : Nat → Nat} {μ : Mm} {v1 v2 : Int32} {res : Int32 × Mm} (hf : f_X11_sure μ v1 v2 = some res) : Ct l D tc ro (faM ad) (feM tc ad) yX11_sure cX11_sure 3 (some .boolean) (rmq 5 112) [.ref (ad 0), .int v1, .int v2] μ (some (.int res.1)) res.2 := by
  refine Ct.of (by decide) (Nat.le_of_ble_eq_true rfl) (fun p e s m args below meth c A C hr hk hW ls hl => ?_)
  have hx := C.1.1
  have hb := C.1.2.1
  obtain ⟨Q, hQ⟩ : ∃ Q, Q = MQ below (Ctq D (faM ad) (feM tc ad) (some (.int res.1)) res.2 A) args s 0 0 A := ⟨_, rfl⟩
  rw [← hQ]
  have hl : lv_has ls 3 [(0, .ref (ad 0)), (1, .int v1), (2, .int v2)] := hl
  unfold f_X11_sure at hf
  have J27 : ∀ (μ : Mm) (s0 : Int32) (H : Heap) (locs : List Loc) (ls : Array Slot), f_X11_sure_J27 μ v1 v2 s0 = some res → Wd D (faM ad) (feM tc ad) A s.heap μ H locs → lv_has ls 3 [(0, .ref (ad 0)), (1, .int v1), (2, .int v2)] → W p l e (rmq 5 112) s m args below meth c H locs 0 0 Q (F0 m 27 ls [.int s0, .ref (ad 0)]) := by
    intro μ s0 H locs ls hf hW hl
    unfold f_X11_sure_J27 at hf
    refine lv_iconst (v := 1) hx hb dX11_sure_27 (by decide) ?_
    obtain ⟨x28, h28, hf⟩ := bd_of hf
    refine r_callV (k := ((0, 0) : Ky)) C hW hl lk_X11_322 (c_X11_throwsIf h28) ⟨rfl, rfl⟩ ⟨Nat.le_of_ble_eq_true rfl, Nat.le_of_ble_eq_true rfl⟩ rfl rfl rfl (As := [.int s0, .int (1 : Int32)]) (rest := []) rfl rfl (Nat.le_of_ble_eq_true rfl) dX11_sure_28 ⟨Nat.zero_le _, Nat.zero_le _⟩ (fun H locs hW => ?_)
    show W p l e (rmq 5 112) s m args below meth c H locs 0 0 Q (F0 m 31 ls [.int x28.1])
    refine lv_if_ne (tgt := 55) hx hb dX11_sure_31 (by decide) (fun c2 => ?_) (fun c2 => ?_)
    · have hf := (if_neg c2).symm.trans hf
      refine lv_iconst (v := 0) hx hb dX11_sure_55 (by decide) ?_
      obtain rfl := Option.some.inj hf
      rw [hQ]
      exact r_zret C hr hk hW (Or.inl rfl) rfl rfl dX11_sure_56
    · have hf := (if_pos c2).symm.trans hf
      refine lv_aload_n hx hb dX11_sure_34 rfl (lv_at hl 0 rfl) ?_
      refine lv_aload_n hx hb dX11_sure_35 rfl (lv_at hl 0 rfl) ?_
      refine lv_iload_n hx hb dX11_sure_36 rfl (lv_at hl 2 rfl) ?_
      obtain ⟨x37, h37, hf⟩ := bd_of hf
      refine r_callV (k := ((0, 0) : Ky)) C hW hl lk_X11_128 (c_X11_isLeft h37) ⟨rfl, rfl⟩ ⟨Nat.le_of_ble_eq_true rfl, Nat.le_of_ble_eq_true rfl⟩ rfl rfl rfl (As := [.int v2]) (rest := [.ref (ad 0)]) rfl rfl (Nat.le_of_ble_eq_true rfl) dX11_sure_37 ⟨Nat.zero_le _, Nat.zero_le _⟩ (fun H locs hW => ?_)
      show W p l e (rmq 5 112) s m args below meth c H locs 0 0 Q (F0 m 40 ls [.int x37, .ref (ad 0)])
      refine lv_if_ne (tgt := 47) hx hb dX11_sure_40 (by decide) (fun c4 => ?_) (fun c4 => ?_)
      · have hf := (if_neg c4).symm.trans hf
        refine lv_iconst (v := 0) hx hb dX11_sure_47 (by decide) ?_
        refine lv_iconst (v := 2) hx hb dX11_sure_48 (by decide) ?_
        obtain ⟨x49, h49, hf⟩ := bd_of hf
        refine r_callV (k := ((0, 0) : Ky)) C hW hl lk_X11_322 (c_X11_throwsIf h49) ⟨rfl, rfl⟩ ⟨Nat.le_of_ble_eq_true rfl, Nat.le_of_ble_eq_true rfl⟩ rfl rfl rfl (As := [.int (0 : Int32), .int (2 : Int32)]) (rest := []) rfl rfl (Nat.le_of_ble_eq_true rfl) dX11_sure_49 ⟨Nat.zero_le _, Nat.zero_le _⟩ (fun H locs hW => ?_)
        show W p l e (rmq 5 112) s m args below meth c H locs 0 0 Q (F0 m 52 ls [.int x49.1])
        refine lv_if_eq (tgt := 57) hx hb dX11_sure_52 (by decide) (fun c6 => ?_) (fun c6 => ?_)
        · have hf := (if_pos c6).symm.trans hf
          refine lv_aload_n hx hb dX11_sure_57 rfl (lv_at hl 0 rfl) ?_
          refine lv_iload_n hx hb dX11_sure_58 rfl (lv_at hl 1 rfl) ?_
          refine lv_iload_n hx hb dX11_sure_59 rfl (lv_at hl 2 rfl) ?_
          obtain ⟨x60, h60, hf⟩ := bd_of hf
          refine r_callV (k := ((0, 0) : Ky)) C hW hl lk_X11_146 (c_X11_isSure h60) ⟨rfl, rfl⟩ ⟨Nat.le_of_ble_eq_true rfl, Nat.le_of_ble_eq_true rfl⟩ rfl rfl rfl (As := [.int v1, .int v2]) (rest := []) rfl rfl (Nat.le_of_ble_eq_true rfl) dX11_sure_60 ⟨Nat.zero_le _, Nat.zero_le _⟩ (fun H locs hW => ?_)
          show W p l e (rmq 5 112) s m args below meth c H locs 0 0 Q (F0 m 63 ls [.int x60.1])
          obtain ⟨hz8, hf⟩ := cb_of hf
          obtain rfl := Option.some.inj hf
          rw [hQ]
          exact r_zret C hr hk hW hz8 rfl rfl dX11_sure_63
        · have hf := (if_neg c6).symm.trans hf
          refine lv_iconst (v := 0) hx hb dX11_sure_55 (by decide) ?_
          obtain rfl := Option.some.inj hf
          rw [hQ]
          exact r_zret C hr hk hW (Or.inl rfl) rfl rfl dX11_sure_56
      · have hf := (if_pos c4).symm.trans hf
        refine lv_iconst (v := 1) hx hb dX11_sure_43 (by decide) ?_
        refine lv_goto (tgt := 48) hx hb dX11_sure_44 (by decide) ?_
        refine lv_iconst (v := 2) hx hb dX11_sure_48 (by decide) ?_
        obtain ⟨x49, h49, hf⟩ := bd_of hf
        refine r_callV (k := ((0, 0) : Ky)) C hW hl lk_X11_322 (c_X11_throwsIf h49) ⟨rfl, rfl⟩ ⟨Nat.le_of_ble_eq_true rfl, Nat.le_of_ble_eq_true rfl⟩ rfl rfl rfl (As := [.int (1 : Int32), .int (2 : Int32)]) (rest := []) rfl rfl (Nat.le_of_ble_eq_true rfl) dX11_sure_49 ⟨Nat.zero_le _, Nat.zero_le _⟩ (fun H locs hW => ?_)
        show W p l e (rmq 5 112) s m args below meth c H locs 0 0 Q (F0 m 52 ls [.int x49.1])
        refine lv_if_eq (tgt := 57) hx hb dX11_sure_52 (by decide) (fun c10 => ?_) (fun c10 => ?_)
        · have hf := (if_pos c10).symm.trans hf
          refine lv_aload_n hx hb dX11_sure_57 rfl (lv_at hl 0 rfl) ?_
          refine lv_iload_n hx hb dX11_sure_58 rfl (lv_at hl 1 rfl) ?_
          refine lv_iload_n hx hb dX11_sure_59 rfl (lv_at hl 2 rfl) ?_
          obtain ⟨x60, h60, hf⟩ := bd_of hf
          refine r_callV (k := ((0, 0) : Ky)) C hW hl lk_X11_146 (c_X11_isSure h60) ⟨rfl, rfl⟩ ⟨Nat.le_of_ble_eq_true rfl, Nat.le_of_ble_eq_true rfl⟩ rfl rfl rfl (As := [.int v1, .int v2]) (rest := []) rfl rfl (Nat.le_of_ble_eq_true rfl) dX11_sure_60 ⟨Nat.zero_le _, Nat.zero_le _⟩ (fun H locs hW => ?_)
          show W p l e (rmq 5 112) s m args below meth c H locs 0 0 Q (F0 m 63 ls [.int x60.1])
          obtain ⟨hz12, hf⟩ := cb_of hf
          obtain rfl := Option.some.inj hf
          rw [hQ]
          exact r_zret C hr hk hW hz12 rfl rfl dX11_sure_63
        · have hf := (if_neg c10).symm.trans hf
          refine lv_iconst (v := 0) hx hb dX11_sure_55 (by decide) ?_
          obtain rfl := Option.some.inj hf
          rw [hQ]
          exact r_zret C hr hk hW (Or.inl rfl) rfl rfl dX11_sure_56
  refine lv_aload_n hx hb dX11_sure_0 rfl (lv_at hl 0 rfl) ?_
  refine lv_iconst (v := 0) hx hb dX11_sure_1 (by decide) ?_
  refine pf_X11_3 C hW dX11_sure_2 (fun H locs hW => ?_)
  refine lv_aload_n hx hb dX11_sure_5 rfl (lv_at hl 0 rfl) ?_
  refine lv_aload_n hx hb dX11_sure_6 rfl (lv_at hl 0 rfl) ?_
  refine lv_iload_n hx hb dX11_sure_7 rfl (lv_at hl 1 rfl) ?_
  obtain ⟨x8, h8, hf⟩ := bd_of hf
  refine r_callV (k := ((0, 0) : Ky)) C hW hl lk_X11_359 (c_X11_noPerson h8) ⟨rfl, rfl⟩ ⟨Nat.le_of_ble_eq_true rfl, Nat.le_of_ble_eq_true rfl⟩ rfl rfl rfl (As := [.int v1]) (rest := [.ref (ad 0)]) rfl rfl (Nat.le_of_ble_eq_true rfl) dX11_sure_8 ⟨Nat.zero_le _, Nat.zero_le _⟩ (fun H locs hW => ?_)
  show W p l e (rmq 5 112) s m args below meth c H locs 0 0 Q (F0 m 11 ls [.int x8, .ref (ad 0)])
  refine lv_if_ne (tgt := 22) hx hb dX11_sure_11 (by decide) (fun c14 => ?_) (fun c14 => ?_)
  · have hf := (if_neg c14).symm.trans hf
    refine lv_iconst (v := 1) hx hb dX11_sure_22 (by decide) ?_
    refine lv_goto (tgt := 27) hx hb dX11_sure_23 (by decide) ?_
    exact J27 (mst μ (0, 0) 0 (0 : Int32)) (1 : Int32) _ _ _ hf hW (lv_sub hl [0, 1, 2] rfl)
  · have hf := (if_pos c14).symm.trans hf
    refine lv_aload_n hx hb dX11_sure_14 rfl (lv_at hl 0 rfl) ?_
    refine lv_iload_n hx hb dX11_sure_15 rfl (lv_at hl 2 rfl) ?_
    obtain ⟨x16, h16, hf⟩ := bd_of hf
    refine r_callV (k := ((0, 0) : Ky)) C hW hl lk_X11_398 (c_X11_noWorld h16) ⟨rfl, rfl⟩ ⟨Nat.le_of_ble_eq_true rfl, Nat.le_of_ble_eq_true rfl⟩ rfl rfl rfl (As := [.int v2]) (rest := [.ref (ad 0)]) rfl rfl (Nat.le_of_ble_eq_true rfl) dX11_sure_16 ⟨Nat.zero_le _, Nat.zero_le _⟩ (fun H locs hW => ?_)
    show W p l e (rmq 5 112) s m args below meth c H locs 0 0 Q (F0 m 19 ls [.int x16, .ref (ad 0)])
    refine lv_if_eq (tgt := 26) hx hb dX11_sure_19 (by decide) (fun c16 => ?_) (fun c16 => ?_)
    · have hf := (if_pos c16).symm.trans hf
      refine lv_iconst (v := 0) hx hb dX11_sure_26 (by decide) ?_
      exact J27 (mst μ (0, 0) 0 (0 : Int32)) (0 : Int32) _ _ _ hf hW (lv_sub hl [0, 1, 2] rfl)
    · have hf := (if_neg c16).symm.trans hf
      refine lv_iconst (v := 1) hx hb dX11_sure_22 (by decide) ?_
      refine lv_goto (tgt := 27) hx hb dX11_sure_23 (by decide) ?_
      exact J27 (mst μ (0, 0) 0 (0 : Int32)) (1 : Int32) _ _ _ hf hW (lv_sub hl [0, 1, 2] rfl)
set_option maxHeartbeats 4000000 in
set_option maxRecDepth 100000 in
theorem c_X11_manner {l : Launch} {D : va_G} {tc : Nat → ClassId} {ro : Ro} {ad : Nat → Nat} {μ : Mm} {v1 v2 v3 : Int32} {res : Int32 × Mm} (hf : f_X11_manner μ v1 v2 v3 = some res) : Ct l D tc ro (faM ad) (feM tc ad) yX11_manner cX11_manner 4 (some .int) (rmq 6 150) [.ref (ad 0), .int v1, .int v2, .int v3] μ (some (.int res.1)) res.2 := by
  refine Ct.of (by decide) (Nat.le_of_ble_eq_true rfl) (fun p e s m args below meth c A C hr hk hW ls hl => ?_)
  have hx := C.1.1
  have hb := C.1.2.1
  obtain ⟨Q, hQ⟩ : ∃ Q, Q = MQ below (Ctq D (faM ad) (feM tc ad) (some (.int res.1)) res.2 A) args s 0 0 A := ⟨_, rfl⟩
  rw [← hQ]
  have hl : lv_has ls 4 [(0, .ref (ad 0)), (1, .int v1), (2, .int v2), (3, .int v3)] := hl
  unfold f_X11_manner at hf
  have J53 : ∀ (μ : Mm) (s0 : Int32) (H : Heap) (locs : List Loc) (ls : Array Slot), f_X11_manner_J53 μ v1 v2 v3 s0 = some res → Wd D (faM ad) (feM tc ad) A s.heap μ H locs → lv_has ls 4 [(0, .ref (ad 0)), (1, .int v1), (2, .int v2), (3, .int v3)] → W p l e (rmq 6 150) s m args below meth c H locs 0 0 Q (F0 m 53 ls [.int s0, .ref (ad 0)]) := by
    intro μ s0 H locs ls hf hW hl
    unfold f_X11_manner_J53 at hf
    refine lv_iconst (v := 2) hx hb dX11_manner_53 (by decide) ?_
    obtain ⟨x54, h54, hf⟩ := bd_of hf
    refine r_callV (k := ((0, 0) : Ky)) C hW hl lk_X11_322 (c_X11_throwsIf h54) ⟨rfl, rfl⟩ ⟨Nat.le_of_ble_eq_true rfl, Nat.le_of_ble_eq_true rfl⟩ rfl rfl rfl (As := [.int s0, .int (2 : Int32)]) (rest := []) rfl rfl (Nat.le_of_ble_eq_true rfl) dX11_manner_54 ⟨Nat.zero_le _, Nat.zero_le _⟩ (fun H locs hW => ?_)
    show W p l e (rmq 6 150) s m args below meth c H locs 0 0 Q (F0 m 57 ls [.int x54.1])
    refine lv_if_ne (tgt := 90) hx hb dX11_manner_57 (by decide) (fun c2 => ?_) (fun c2 => ?_)
    · have hf := (if_neg c2).symm.trans hf
      refine lv_iconst (v := 0) hx hb dX11_manner_90 (by decide) ?_
      obtain rfl := Option.some.inj hf
      rw [hQ]
      exact r_iret C hr hk hW rfl rfl dX11_manner_91
    · have hf := (if_pos c2).symm.trans hf
      refine lv_aload_n hx hb dX11_manner_60 rfl (lv_at hl 0 rfl) ?_
      refine lv_aload_n hx hb dX11_manner_61 rfl (lv_at hl 0 rfl) ?_
      refine lv_iload_n hx hb dX11_manner_62 rfl (lv_at hl 3 rfl) ?_
      obtain ⟨x63, h63, hf⟩ := bd_of hf
      refine r_callV (k := ((0, 0) : Ky)) C hW hl lk_X11_128 (c_X11_isLeft h63) ⟨rfl, rfl⟩ ⟨Nat.le_of_ble_eq_true rfl, Nat.le_of_ble_eq_true rfl⟩ rfl rfl rfl (As := [.int v3]) (rest := [.ref (ad 0)]) rfl rfl (Nat.le_of_ble_eq_true rfl) dX11_manner_63 ⟨Nat.zero_le _, Nat.zero_le _⟩ (fun H locs hW => ?_)
      show W p l e (rmq 6 150) s m args below meth c H locs 0 0 Q (F0 m 66 ls [.int x63, .ref (ad 0)])
      refine lv_if_eq (tgt := 78) hx hb dX11_manner_66 (by decide) (fun c4 => ?_) (fun c4 => ?_)
      · have hf := (if_pos c4).symm.trans hf
        refine lv_iconst (v := 1) hx hb dX11_manner_78 (by decide) ?_
        refine lv_goto (tgt := 83) hx hb dX11_manner_79 (by decide) ?_
        refine lv_iconst (v := 3) hx hb dX11_manner_83 (by decide) ?_
        obtain ⟨x84, h84, hf⟩ := bd_of hf
        refine r_callV (k := ((0, 0) : Ky)) C hW hl lk_X11_322 (c_X11_throwsIf h84) ⟨rfl, rfl⟩ ⟨Nat.le_of_ble_eq_true rfl, Nat.le_of_ble_eq_true rfl⟩ rfl rfl rfl (As := [.int (1 : Int32), .int (3 : Int32)]) (rest := []) rfl rfl (Nat.le_of_ble_eq_true rfl) dX11_manner_84 ⟨Nat.zero_le _, Nat.zero_le _⟩ (fun H locs hW => ?_)
        show W p l e (rmq 6 150) s m args below meth c H locs 0 0 Q (F0 m 87 ls [.int x84.1])
        refine lv_if_eq (tgt := 92) hx hb dX11_manner_87 (by decide) (fun c6 => ?_) (fun c6 => ?_)
        · have hf := (if_pos c6).symm.trans hf
          refine lv_aload_n hx hb dX11_manner_92 rfl (lv_at hl 0 rfl) ?_
          refine lv_iload_n hx hb dX11_manner_93 rfl (lv_at hl 1 rfl) ?_
          refine lv_iload_n hx hb dX11_manner_94 rfl (lv_at hl 2 rfl) ?_
          refine lv_iload_n hx hb dX11_manner_95 rfl (lv_at hl 3 rfl) ?_
          obtain ⟨x96, h96, hf⟩ := bd_of hf
          refine r_callV (k := ((0, 0) : Ky)) C hW hl lk_X11_349 (c_X11_mannerIn h96) ⟨rfl, rfl⟩ ⟨Nat.le_of_ble_eq_true rfl, Nat.le_of_ble_eq_true rfl⟩ rfl rfl rfl (As := [.int v1, .int v2, .int v3]) (rest := []) rfl rfl (Nat.le_of_ble_eq_true rfl) dX11_manner_96 ⟨Nat.zero_le _, Nat.zero_le _⟩ (fun H locs hW => ?_)
          show W p l e (rmq 6 150) s m args below meth c H locs 0 0 Q (F0 m 99 ls [.int x96.1])
          obtain rfl := Option.some.inj hf
          rw [hQ]
          exact r_iret C hr hk hW rfl rfl dX11_manner_99
        · have hf := (if_neg c6).symm.trans hf
          refine lv_iconst (v := 0) hx hb dX11_manner_90 (by decide) ?_
          obtain rfl := Option.some.inj hf
          rw [hQ]
          exact r_iret C hr hk hW rfl rfl dX11_manner_91
      · have hf := (if_neg c4).symm.trans hf
        refine lv_aload_n hx hb dX11_manner_69 rfl (lv_at hl 0 rfl) ?_
        refine lv_iload_n hx hb dX11_manner_70 rfl (lv_at hl 1 rfl) ?_
        refine lv_iload_n hx hb dX11_manner_71 rfl (lv_at hl 2 rfl) ?_
        obtain ⟨x72, h72, hf⟩ := bd_of hf
        refine r_callV (k := ((0, 0) : Ky)) C hW hl lk_X11_325 (c_X11_isSeeing h72) ⟨rfl, rfl⟩ ⟨Nat.le_of_ble_eq_true rfl, Nat.le_of_ble_eq_true rfl⟩ rfl rfl rfl (As := [.int v1, .int v2]) (rest := [.ref (ad 0)]) rfl rfl (Nat.le_of_ble_eq_true rfl) dX11_manner_72 ⟨Nat.zero_le _, Nat.zero_le _⟩ (fun H locs hW => ?_)
        show W p l e (rmq 6 150) s m args below meth c H locs 0 0 Q (F0 m 75 ls [.int x72, .ref (ad 0)])
        refine lv_if_ne (tgt := 82) hx hb dX11_manner_75 (by decide) (fun c9 => ?_) (fun c9 => ?_)
        · have hf := (if_neg c9).symm.trans hf
          refine lv_iconst (v := 0) hx hb dX11_manner_82 (by decide) ?_
          refine lv_iconst (v := 3) hx hb dX11_manner_83 (by decide) ?_
          obtain ⟨x84, h84, hf⟩ := bd_of hf
          refine r_callV (k := ((0, 0) : Ky)) C hW hl lk_X11_322 (c_X11_throwsIf h84) ⟨rfl, rfl⟩ ⟨Nat.le_of_ble_eq_true rfl, Nat.le_of_ble_eq_true rfl⟩ rfl rfl rfl (As := [.int (0 : Int32), .int (3 : Int32)]) (rest := []) rfl rfl (Nat.le_of_ble_eq_true rfl) dX11_manner_84 ⟨Nat.zero_le _, Nat.zero_le _⟩ (fun H locs hW => ?_)
          show W p l e (rmq 6 150) s m args below meth c H locs 0 0 Q (F0 m 87 ls [.int x84.1])
          refine lv_if_eq (tgt := 92) hx hb dX11_manner_87 (by decide) (fun c11 => ?_) (fun c11 => ?_)
          · have hf := (if_pos c11).symm.trans hf
            refine lv_aload_n hx hb dX11_manner_92 rfl (lv_at hl 0 rfl) ?_
            refine lv_iload_n hx hb dX11_manner_93 rfl (lv_at hl 1 rfl) ?_
            refine lv_iload_n hx hb dX11_manner_94 rfl (lv_at hl 2 rfl) ?_
            refine lv_iload_n hx hb dX11_manner_95 rfl (lv_at hl 3 rfl) ?_
            obtain ⟨x96, h96, hf⟩ := bd_of hf
            refine r_callV (k := ((0, 0) : Ky)) C hW hl lk_X11_349 (c_X11_mannerIn h96) ⟨rfl, rfl⟩ ⟨Nat.le_of_ble_eq_true rfl, Nat.le_of_ble_eq_true rfl⟩ rfl rfl rfl (As := [.int v1, .int v2, .int v3]) (rest := []) rfl rfl (Nat.le_of_ble_eq_true rfl) dX11_manner_96 ⟨Nat.zero_le _, Nat.zero_le _⟩ (fun H locs hW => ?_)
            show W p l e (rmq 6 150) s m args below meth c H locs 0 0 Q (F0 m 99 ls [.int x96.1])
            obtain rfl := Option.some.inj hf
            rw [hQ]
            exact r_iret C hr hk hW rfl rfl dX11_manner_99
          · have hf := (if_neg c11).symm.trans hf
            refine lv_iconst (v := 0) hx hb dX11_manner_90 (by decide) ?_
            obtain rfl := Option.some.inj hf
            rw [hQ]
            exact r_iret C hr hk hW rfl rfl dX11_manner_91
        · have hf := (if_pos c9).symm.trans hf
          refine lv_iconst (v := 1) hx hb dX11_manner_78 (by decide) ?_
          refine lv_goto (tgt := 83) hx hb dX11_manner_79 (by decide) ?_
          refine lv_iconst (v := 3) hx hb dX11_manner_83 (by decide) ?_
          obtain ⟨x84, h84, hf⟩ := bd_of hf
          refine r_callV (k := ((0, 0) : Ky)) C hW hl lk_X11_322 (c_X11_throwsIf h84) ⟨rfl, rfl⟩ ⟨Nat.le_of_ble_eq_true rfl, Nat.le_of_ble_eq_true rfl⟩ rfl rfl rfl (As := [.int (1 : Int32), .int (3 : Int32)]) (rest := []) rfl rfl (Nat.le_of_ble_eq_true rfl) dX11_manner_84 ⟨Nat.zero_le _, Nat.zero_le _⟩ (fun H locs hW => ?_)
          show W p l e (rmq 6 150) s m args below meth c H locs 0 0 Q (F0 m 87 ls [.int x84.1])
          refine lv_if_eq (tgt := 92) hx hb dX11_manner_87 (by decide) (fun c14 => ?_) (fun c14 => ?_)
          · have hf := (if_pos c14).symm.trans hf
            refine lv_aload_n hx hb dX11_manner_92 rfl (lv_at hl 0 rfl) ?_
            refine lv_iload_n hx hb dX11_manner_93 rfl (lv_at hl 1 rfl) ?_
            refine lv_iload_n hx hb dX11_manner_94 rfl (lv_at hl 2 rfl) ?_
            refine lv_iload_n hx hb dX11_manner_95 rfl (lv_at hl 3 rfl) ?_
            obtain ⟨x96, h96, hf⟩ := bd_of hf
            refine r_callV (k := ((0, 0) : Ky)) C hW hl lk_X11_349 (c_X11_mannerIn h96) ⟨rfl, rfl⟩ ⟨Nat.le_of_ble_eq_true rfl, Nat.le_of_ble_eq_true rfl⟩ rfl rfl rfl (As := [.int v1, .int v2, .int v3]) (rest := []) rfl rfl (Nat.le_of_ble_eq_true rfl) dX11_manner_96 ⟨Nat.zero_le _, Nat.zero_le _⟩ (fun H locs hW => ?_)
            show W p l e (rmq 6 150) s m args below meth c H locs 0 0 Q (F0 m 99 ls [.int x96.1])
            obtain rfl := Option.some.inj hf
            rw [hQ]
            exact r_iret C hr hk hW rfl rfl dX11_manner_99
          · have hf := (if_neg c14).symm.trans hf
            refine lv_iconst (v := 0) hx hb dX11_manner_90 (by decide) ?_
            obtain rfl := Option.some.inj hf
            rw [hQ]
            exact r_iret C hr hk hW rfl rfl dX11_manner_91
  have J30 : ∀ (μ : Mm) (H : Heap) (locs : List Loc) (ls : Array Slot), f_X11_manner_J30 μ v1 v2 v3 = some res → Wd D (faM ad) (feM tc ad) A s.heap μ H locs → lv_has ls 4 [(0, .ref (ad 0)), (1, .int v1), (2, .int v2), (3, .int v3)] → W p l e (rmq 6 150) s m args below meth c H locs 0 0 Q (F0 m 30 ls [.ref (ad 0)]) := by
    intro μ H locs ls hf hW hl
    unfold f_X11_manner_J30 at hf
    refine lv_iconst (v := 1) hx hb dX11_manner_30 (by decide) ?_
    refine lv_goto (tgt := 35) hx hb dX11_manner_31 (by decide) ?_
    refine lv_iconst (v := 1) hx hb dX11_manner_35 (by decide) ?_
    obtain ⟨x36, h36, hf⟩ := bd_of hf
    refine r_callV (k := ((0, 0) : Ky)) C hW hl lk_X11_322 (c_X11_throwsIf h36) ⟨rfl, rfl⟩ ⟨Nat.le_of_ble_eq_true rfl, Nat.le_of_ble_eq_true rfl⟩ rfl rfl rfl (As := [.int (1 : Int32), .int (1 : Int32)]) (rest := []) rfl rfl (Nat.le_of_ble_eq_true rfl) dX11_manner_36 ⟨Nat.zero_le _, Nat.zero_le _⟩ (fun H locs hW => ?_)
    show W p l e (rmq 6 150) s m args below meth c H locs 0 0 Q (F0 m 39 ls [.int x36.1])
    refine lv_if_ne (tgt := 90) hx hb dX11_manner_39 (by decide) (fun c17 => ?_) (fun c17 => ?_)
    · have hf := (if_neg c17).symm.trans hf
      refine lv_iconst (v := 0) hx hb dX11_manner_90 (by decide) ?_
      obtain rfl := Option.some.inj hf
      rw [hQ]
      exact r_iret C hr hk hW rfl rfl dX11_manner_91
    · have hf := (if_pos c17).symm.trans hf
      refine lv_aload_n hx hb dX11_manner_42 rfl (lv_at hl 0 rfl) ?_
      refine lv_iload_n hx hb dX11_manner_43 rfl (lv_at hl 1 rfl) ?_
      refine lv_iload_n hx hb dX11_manner_44 rfl (lv_at hl 2 rfl) ?_
      refine lv_icmp_ne (tgt := 52) hx hb dX11_manner_45 (by decide) (fun c18 => ?_) (fun c18 => ?_)
      · have hf := (if_neg c18).symm.trans hf
        refine lv_iconst (v := 0) hx hb dX11_manner_52 (by decide) ?_
        exact J53 x36.2 (0 : Int32) _ _ _ hf hW (lv_sub hl [0, 1, 2, 3] rfl)
      · have hf := (if_pos c18).symm.trans hf
        refine lv_iconst (v := 1) hx hb dX11_manner_48 (by decide) ?_
        refine lv_goto (tgt := 53) hx hb dX11_manner_49 (by decide) ?_
        exact J53 x36.2 (1 : Int32) _ _ _ hf hW (lv_sub hl [0, 1, 2, 3] rfl)
  refine lv_aload_n hx hb dX11_manner_0 rfl (lv_at hl 0 rfl) ?_
  refine lv_iconst (v := 0) hx hb dX11_manner_1 (by decide) ?_
  refine pf_X11_3 C hW dX11_manner_2 (fun H locs hW => ?_)
  refine lv_aload_n hx hb dX11_manner_5 rfl (lv_at hl 0 rfl) ?_
  refine lv_aload_n hx hb dX11_manner_6 rfl (lv_at hl 0 rfl) ?_
  refine lv_iload_n hx hb dX11_manner_7 rfl (lv_at hl 1 rfl) ?_
  obtain ⟨x8, h8, hf⟩ := bd_of hf
  refine r_callV (k := ((0, 0) : Ky)) C hW hl lk_X11_359 (c_X11_noPerson h8) ⟨rfl, rfl⟩ ⟨Nat.le_of_ble_eq_true rfl, Nat.le_of_ble_eq_true rfl⟩ rfl rfl rfl (As := [.int v1]) (rest := [.ref (ad 0)]) rfl rfl (Nat.le_of_ble_eq_true rfl) dX11_manner_8 ⟨Nat.zero_le _, Nat.zero_le _⟩ (fun H locs hW => ?_)
  show W p l e (rmq 6 150) s m args below meth c H locs 0 0 Q (F0 m 11 ls [.int x8, .ref (ad 0)])
  refine lv_if_ne (tgt := 30) hx hb dX11_manner_11 (by decide) (fun c20 => ?_) (fun c20 => ?_)
  · have hf := (if_neg c20).symm.trans hf
    exact J30 (mst μ (0, 0) 0 (0 : Int32)) _ _ _ hf hW (lv_sub hl [0, 1, 2, 3] rfl)
  · have hf := (if_pos c20).symm.trans hf
    refine lv_aload_n hx hb dX11_manner_14 rfl (lv_at hl 0 rfl) ?_
    refine lv_iload_n hx hb dX11_manner_15 rfl (lv_at hl 2 rfl) ?_
    obtain ⟨x16, h16, hf⟩ := bd_of hf
    refine r_callV (k := ((0, 0) : Ky)) C hW hl lk_X11_359 (c_X11_noPerson h16) ⟨rfl, rfl⟩ ⟨Nat.le_of_ble_eq_true rfl, Nat.le_of_ble_eq_true rfl⟩ rfl rfl rfl (As := [.int v2]) (rest := [.ref (ad 0)]) rfl rfl (Nat.le_of_ble_eq_true rfl) dX11_manner_16 ⟨Nat.zero_le _, Nat.zero_le _⟩ (fun H locs hW => ?_)
    show W p l e (rmq 6 150) s m args below meth c H locs 0 0 Q (F0 m 19 ls [.int x16, .ref (ad 0)])
    refine lv_if_ne (tgt := 30) hx hb dX11_manner_19 (by decide) (fun c22 => ?_) (fun c22 => ?_)
    · have hf := (if_neg c22).symm.trans hf
      exact J30 (mst μ (0, 0) 0 (0 : Int32)) _ _ _ hf hW (lv_sub hl [0, 1, 2, 3] rfl)
    · have hf := (if_pos c22).symm.trans hf
      refine lv_aload_n hx hb dX11_manner_22 rfl (lv_at hl 0 rfl) ?_
      refine lv_iload_n hx hb dX11_manner_23 rfl (lv_at hl 3 rfl) ?_
      obtain ⟨x24, h24, hf⟩ := bd_of hf
      refine r_callV (k := ((0, 0) : Ky)) C hW hl lk_X11_398 (c_X11_noWorld h24) ⟨rfl, rfl⟩ ⟨Nat.le_of_ble_eq_true rfl, Nat.le_of_ble_eq_true rfl⟩ rfl rfl rfl (As := [.int v3]) (rest := [.ref (ad 0)]) rfl rfl (Nat.le_of_ble_eq_true rfl) dX11_manner_24 ⟨Nat.zero_le _, Nat.zero_le _⟩ (fun H locs hW => ?_)
      show W p l e (rmq 6 150) s m args below meth c H locs 0 0 Q (F0 m 27 ls [.int x24, .ref (ad 0)])
      refine lv_if_eq (tgt := 34) hx hb dX11_manner_27 (by decide) (fun c24 => ?_) (fun c24 => ?_)
      · have hf := (if_pos c24).symm.trans hf
        refine lv_iconst (v := 0) hx hb dX11_manner_34 (by decide) ?_
        refine lv_iconst (v := 1) hx hb dX11_manner_35 (by decide) ?_
        obtain ⟨x36, h36, hf⟩ := bd_of hf
        refine r_callV (k := ((0, 0) : Ky)) C hW hl lk_X11_322 (c_X11_throwsIf h36) ⟨rfl, rfl⟩ ⟨Nat.le_of_ble_eq_true rfl, Nat.le_of_ble_eq_true rfl⟩ rfl rfl rfl (As := [.int (0 : Int32), .int (1 : Int32)]) (rest := []) rfl rfl (Nat.le_of_ble_eq_true rfl) dX11_manner_36 ⟨Nat.zero_le _, Nat.zero_le _⟩ (fun H locs hW => ?_)
        show W p l e (rmq 6 150) s m args below meth c H locs 0 0 Q (F0 m 39 ls [.int x36.1])
        refine lv_if_ne (tgt := 90) hx hb dX11_manner_39 (by decide) (fun c26 => ?_) (fun c26 => ?_)
        · have hf := (if_neg c26).symm.trans hf
          refine lv_iconst (v := 0) hx hb dX11_manner_90 (by decide) ?_
          obtain rfl := Option.some.inj hf
          rw [hQ]
          exact r_iret C hr hk hW rfl rfl dX11_manner_91
        · have hf := (if_pos c26).symm.trans hf
          refine lv_aload_n hx hb dX11_manner_42 rfl (lv_at hl 0 rfl) ?_
          refine lv_iload_n hx hb dX11_manner_43 rfl (lv_at hl 1 rfl) ?_
          refine lv_iload_n hx hb dX11_manner_44 rfl (lv_at hl 2 rfl) ?_
          refine lv_icmp_ne (tgt := 52) hx hb dX11_manner_45 (by decide) (fun c27 => ?_) (fun c27 => ?_)
          · have hf := (if_neg c27).symm.trans hf
            refine lv_iconst (v := 0) hx hb dX11_manner_52 (by decide) ?_
            exact J53 x36.2 (0 : Int32) _ _ _ hf hW (lv_sub hl [0, 1, 2, 3] rfl)
          · have hf := (if_pos c27).symm.trans hf
            refine lv_iconst (v := 1) hx hb dX11_manner_48 (by decide) ?_
            refine lv_goto (tgt := 53) hx hb dX11_manner_49 (by decide) ?_
            exact J53 x36.2 (1 : Int32) _ _ _ hf hW (lv_sub hl [0, 1, 2, 3] rfl)
      · have hf := (if_neg c24).symm.trans hf
        exact J30 (mst μ (0, 0) 0 (0 : Int32)) _ _ _ hf hW (lv_sub hl [0, 1, 2, 3] rfl)
set_option maxHeartbeats 4000000 in
set_option maxRecDepth 100000 in
theorem c_X11_possible {l : Launch} {D : va_G} {tc : Nat → ClassId} {ro : Ro} {ad : Nat → Nat} {μ : Mm} {v1 v2 : Int32} {res : Int32 × Mm} (hf : f_X11_possible μ v1 v2 = some res) : Ct l D tc ro (faM ad) (feM tc ad) yX11_possible cX11_possible 3 (some .int) (rmq 4 90) [.ref (ad 0), .int v1, .int v2] μ (some (.int res.1)) res.2 := by
  refine Ct.of (by decide) (Nat.le_of_ble_eq_true rfl) (fun p e s m args below meth c A C hr hk hW ls hl => ?_)
  have hx := C.1.1
  have hb := C.1.2.1
  obtain ⟨Q, hQ⟩ : ∃ Q, Q = MQ below (Ctq D (faM ad) (feM tc ad) (some (.int res.1)) res.2 A) args s 0 0 A := ⟨_, rfl⟩
  rw [← hQ]
  have hl : lv_has ls 3 [(0, .ref (ad 0)), (1, .int v1), (2, .int v2)] := hl
  unfold f_X11_possible at hf
  refine lv_aload_n hx hb dX11_possible_0 rfl (lv_at hl 0 rfl) ?_
  refine lv_iconst (v := 0) hx hb dX11_possible_1 (by decide) ?_
  refine pf_X11_3 C hW dX11_possible_2 (fun H locs hW => ?_)
  refine lv_aload_n hx hb dX11_possible_5 rfl (lv_at hl 0 rfl) ?_
  refine lv_aload_n hx hb dX11_possible_6 rfl (lv_at hl 0 rfl) ?_
  refine lv_iload_n hx hb dX11_possible_7 rfl (lv_at hl 1 rfl) ?_
  obtain ⟨x8, h8, hf⟩ := bd_of hf
  refine r_callV (k := ((0, 0) : Ky)) C hW hl lk_X11_359 (c_X11_noPerson h8) ⟨rfl, rfl⟩ ⟨Nat.le_of_ble_eq_true rfl, Nat.le_of_ble_eq_true rfl⟩ rfl rfl rfl (As := [.int v1]) (rest := [.ref (ad 0)]) rfl rfl (Nat.le_of_ble_eq_true rfl) dX11_possible_8 ⟨Nat.zero_le _, Nat.zero_le _⟩ (fun H locs hW => ?_)
  show W p l e (rmq 4 90) s m args below meth c H locs 0 0 Q (F0 m 11 ls [.int x8, .ref (ad 0)])
  refine lv_if_ne (tgt := 22) hx hb dX11_possible_11 (by decide) (fun c2 => ?_) (fun c2 => ?_)
  · have hf := (if_neg c2).symm.trans hf
    refine lv_iconst (v := 1) hx hb dX11_possible_22 (by decide) ?_
    refine lv_goto (tgt := 27) hx hb dX11_possible_23 (by decide) ?_
    refine lv_iconst (v := 1) hx hb dX11_possible_27 (by decide) ?_
    obtain ⟨x28, h28, hf⟩ := bd_of hf
    refine r_callV (k := ((0, 0) : Ky)) C hW hl lk_X11_322 (c_X11_throwsIf h28) ⟨rfl, rfl⟩ ⟨Nat.le_of_ble_eq_true rfl, Nat.le_of_ble_eq_true rfl⟩ rfl rfl rfl (As := [.int (1 : Int32), .int (1 : Int32)]) (rest := []) rfl rfl (Nat.le_of_ble_eq_true rfl) dX11_possible_28 ⟨Nat.zero_le _, Nat.zero_le _⟩ (fun H locs hW => ?_)
    show W p l e (rmq 4 90) s m args below meth c H locs 0 0 Q (F0 m 31 ls [.int x28.1])
    refine lv_if_eq (tgt := 38) hx hb dX11_possible_31 (by decide) (fun c4 => ?_) (fun c4 => ?_)
    · have hf := (if_pos c4).symm.trans hf
      refine lv_aload_n hx hb dX11_possible_38 rfl (lv_at hl 0 rfl) ?_
      refine lv_iload_n hx hb dX11_possible_39 rfl (lv_at hl 1 rfl) ?_
      refine lv_iload_n hx hb dX11_possible_40 rfl (lv_at hl 2 rfl) ?_
      refine lv_aload_n hx hb dX11_possible_41 rfl (lv_at hl 0 rfl) ?_
      obtain ⟨x42, h42, hf⟩ := bd_of hf
      refine r_callV (k := ((0, 0) : Ky)) C hW hl lk_X11_121 (c_X11_here h42) ⟨rfl, rfl⟩ ⟨Nat.le_of_ble_eq_true rfl, Nat.le_of_ble_eq_true rfl⟩ rfl rfl rfl (As := []) (rest := [.int v2, .int v1, .ref (ad 0)]) rfl rfl (Nat.le_of_ble_eq_true rfl) dX11_possible_42 ⟨Nat.zero_le _, Nat.zero_le _⟩ (fun H locs hW => ?_)
      show W p l e (rmq 4 90) s m args below meth c H locs 0 0 Q (F0 m 45 ls [.int x42, .int v2, .int v1, .ref (ad 0)])
      obtain ⟨x45, h45, hf⟩ := bd_of hf
      refine r_callV (k := ((0, 0) : Ky)) C hW hl lk_X11_139 (c_X11_possibleOf h45) ⟨rfl, rfl⟩ ⟨Nat.le_of_ble_eq_true rfl, Nat.le_of_ble_eq_true rfl⟩ rfl rfl rfl (As := [.int v1, .int v2, .int x42]) (rest := []) rfl rfl (Nat.le_of_ble_eq_true rfl) dX11_possible_45 ⟨Nat.zero_le _, Nat.zero_le _⟩ (fun H locs hW => ?_)
      show W p l e (rmq 4 90) s m args below meth c H locs 0 0 Q (F0 m 48 ls [.int x45.1])
      obtain rfl := Option.some.inj hf
      rw [hQ]
      exact r_iret C hr hk hW rfl rfl dX11_possible_48
    · have hf := (if_neg c4).symm.trans hf
      refine lv_iconst (v := 0) hx hb dX11_possible_34 (by decide) ?_
      refine lv_goto (tgt := 48) hx hb dX11_possible_35 (by decide) ?_
      obtain rfl := Option.some.inj hf
      rw [hQ]
      exact r_iret C hr hk hW rfl rfl dX11_possible_48
  · have hf := (if_pos c2).symm.trans hf
    refine lv_aload_n hx hb dX11_possible_14 rfl (lv_at hl 0 rfl) ?_
    refine lv_iload_n hx hb dX11_possible_15 rfl (lv_at hl 2 rfl) ?_
    obtain ⟨x16, h16, hf⟩ := bd_of hf
    refine r_callV (k := ((0, 0) : Ky)) C hW hl lk_X11_359 (c_X11_noPerson h16) ⟨rfl, rfl⟩ ⟨Nat.le_of_ble_eq_true rfl, Nat.le_of_ble_eq_true rfl⟩ rfl rfl rfl (As := [.int v2]) (rest := [.ref (ad 0)]) rfl rfl (Nat.le_of_ble_eq_true rfl) dX11_possible_16 ⟨Nat.zero_le _, Nat.zero_le _⟩ (fun H locs hW => ?_)
    show W p l e (rmq 4 90) s m args below meth c H locs 0 0 Q (F0 m 19 ls [.int x16, .ref (ad 0)])
    refine lv_if_eq (tgt := 26) hx hb dX11_possible_19 (by decide) (fun c8 => ?_) (fun c8 => ?_)
    · have hf := (if_pos c8).symm.trans hf
      refine lv_iconst (v := 0) hx hb dX11_possible_26 (by decide) ?_
      refine lv_iconst (v := 1) hx hb dX11_possible_27 (by decide) ?_
      obtain ⟨x28, h28, hf⟩ := bd_of hf
      refine r_callV (k := ((0, 0) : Ky)) C hW hl lk_X11_322 (c_X11_throwsIf h28) ⟨rfl, rfl⟩ ⟨Nat.le_of_ble_eq_true rfl, Nat.le_of_ble_eq_true rfl⟩ rfl rfl rfl (As := [.int (0 : Int32), .int (1 : Int32)]) (rest := []) rfl rfl (Nat.le_of_ble_eq_true rfl) dX11_possible_28 ⟨Nat.zero_le _, Nat.zero_le _⟩ (fun H locs hW => ?_)
      show W p l e (rmq 4 90) s m args below meth c H locs 0 0 Q (F0 m 31 ls [.int x28.1])
      refine lv_if_eq (tgt := 38) hx hb dX11_possible_31 (by decide) (fun c10 => ?_) (fun c10 => ?_)
      · have hf := (if_pos c10).symm.trans hf
        refine lv_aload_n hx hb dX11_possible_38 rfl (lv_at hl 0 rfl) ?_
        refine lv_iload_n hx hb dX11_possible_39 rfl (lv_at hl 1 rfl) ?_
        refine lv_iload_n hx hb dX11_possible_40 rfl (lv_at hl 2 rfl) ?_
        refine lv_aload_n hx hb dX11_possible_41 rfl (lv_at hl 0 rfl) ?_
        obtain ⟨x42, h42, hf⟩ := bd_of hf
        refine r_callV (k := ((0, 0) : Ky)) C hW hl lk_X11_121 (c_X11_here h42) ⟨rfl, rfl⟩ ⟨Nat.le_of_ble_eq_true rfl, Nat.le_of_ble_eq_true rfl⟩ rfl rfl rfl (As := []) (rest := [.int v2, .int v1, .ref (ad 0)]) rfl rfl (Nat.le_of_ble_eq_true rfl) dX11_possible_42 ⟨Nat.zero_le _, Nat.zero_le _⟩ (fun H locs hW => ?_)
        show W p l e (rmq 4 90) s m args below meth c H locs 0 0 Q (F0 m 45 ls [.int x42, .int v2, .int v1, .ref (ad 0)])
        obtain ⟨x45, h45, hf⟩ := bd_of hf
        refine r_callV (k := ((0, 0) : Ky)) C hW hl lk_X11_139 (c_X11_possibleOf h45) ⟨rfl, rfl⟩ ⟨Nat.le_of_ble_eq_true rfl, Nat.le_of_ble_eq_true rfl⟩ rfl rfl rfl (As := [.int v1, .int v2, .int x42]) (rest := []) rfl rfl (Nat.le_of_ble_eq_true rfl) dX11_possible_45 ⟨Nat.zero_le _, Nat.zero_le _⟩ (fun H locs hW => ?_)
        show W p l e (rmq 4 90) s m args below meth c H locs 0 0 Q (F0 m 48 ls [.int x45.1])
        obtain rfl := Option.some.inj hf
        rw [hQ]
        exact r_iret C hr hk hW rfl rfl dX11_possible_48
      · have hf := (if_neg c10).symm.trans hf
        refine lv_iconst (v := 0) hx hb dX11_possible_34 (by decide) ?_
        refine lv_goto (tgt := 48) hx hb dX11_possible_35 (by decide) ?_
        obtain rfl := Option.some.inj hf
        rw [hQ]
        exact r_iret C hr hk hW rfl rfl dX11_possible_48
    · have hf := (if_neg c8).symm.trans hf
      refine lv_iconst (v := 1) hx hb dX11_possible_22 (by decide) ?_
      refine lv_goto (tgt := 27) hx hb dX11_possible_23 (by decide) ?_
      refine lv_iconst (v := 1) hx hb dX11_possible_27 (by decide) ?_
      obtain ⟨x28, h28, hf⟩ := bd_of hf
      refine r_callV (k := ((0, 0) : Ky)) C hW hl lk_X11_322 (c_X11_throwsIf h28) ⟨rfl, rfl⟩ ⟨Nat.le_of_ble_eq_true rfl, Nat.le_of_ble_eq_true rfl⟩ rfl rfl rfl (As := [.int (1 : Int32), .int (1 : Int32)]) (rest := []) rfl rfl (Nat.le_of_ble_eq_true rfl) dX11_possible_28 ⟨Nat.zero_le _, Nat.zero_le _⟩ (fun H locs hW => ?_)
      show W p l e (rmq 4 90) s m args below meth c H locs 0 0 Q (F0 m 31 ls [.int x28.1])
      refine lv_if_eq (tgt := 38) hx hb dX11_possible_31 (by decide) (fun c14 => ?_) (fun c14 => ?_)
      · have hf := (if_pos c14).symm.trans hf
        refine lv_aload_n hx hb dX11_possible_38 rfl (lv_at hl 0 rfl) ?_
        refine lv_iload_n hx hb dX11_possible_39 rfl (lv_at hl 1 rfl) ?_
        refine lv_iload_n hx hb dX11_possible_40 rfl (lv_at hl 2 rfl) ?_
        refine lv_aload_n hx hb dX11_possible_41 rfl (lv_at hl 0 rfl) ?_
        obtain ⟨x42, h42, hf⟩ := bd_of hf
        refine r_callV (k := ((0, 0) : Ky)) C hW hl lk_X11_121 (c_X11_here h42) ⟨rfl, rfl⟩ ⟨Nat.le_of_ble_eq_true rfl, Nat.le_of_ble_eq_true rfl⟩ rfl rfl rfl (As := []) (rest := [.int v2, .int v1, .ref (ad 0)]) rfl rfl (Nat.le_of_ble_eq_true rfl) dX11_possible_42 ⟨Nat.zero_le _, Nat.zero_le _⟩ (fun H locs hW => ?_)
        show W p l e (rmq 4 90) s m args below meth c H locs 0 0 Q (F0 m 45 ls [.int x42, .int v2, .int v1, .ref (ad 0)])
        obtain ⟨x45, h45, hf⟩ := bd_of hf
        refine r_callV (k := ((0, 0) : Ky)) C hW hl lk_X11_139 (c_X11_possibleOf h45) ⟨rfl, rfl⟩ ⟨Nat.le_of_ble_eq_true rfl, Nat.le_of_ble_eq_true rfl⟩ rfl rfl rfl (As := [.int v1, .int v2, .int x42]) (rest := []) rfl rfl (Nat.le_of_ble_eq_true rfl) dX11_possible_45 ⟨Nat.zero_le _, Nat.zero_le _⟩ (fun H locs hW => ?_)
        show W p l e (rmq 4 90) s m args below meth c H locs 0 0 Q (F0 m 48 ls [.int x45.1])
        obtain rfl := Option.some.inj hf
        rw [hQ]
        exact r_iret C hr hk hW rfl rfl dX11_possible_48
      · have hf := (if_neg c14).symm.trans hf
        refine lv_iconst (v := 0) hx hb dX11_possible_34 (by decide) ?_
        refine lv_goto (tgt := 48) hx hb dX11_possible_35 (by decide) ?_
        obtain rfl := Option.some.inj hf
        rw [hQ]
        exact r_iret C hr hk hW rfl rfl dX11_possible_48
set_option maxHeartbeats 4000000 in
set_option maxRecDepth 100000 in
theorem c_J6_numberOfTrailingZeros_0f7a4 {l : Launch} {D : va_G} {tc : Nat → ClassId} {ro : Ro} {fa : Fa} {fe : Fe} {μ : Mm} {v0 : Int32} {res : Int32} (hf : f_J6_numberOfTrailingZeros_0f7a4 v0 = some res) : Ct l D tc ro fa fe yJ6_numberOfTrailingZeros_0f7a4 cJ6_numberOfTrailingZeros_0f7a4 2 (some .int) (rmq 0 0) [.int v0] μ (some (.int res)) μ := by
  refine Ct.of (by decide) (Nat.le_of_ble_eq_true rfl) (fun p e s m args below meth c A C hr hk hW ls hl => ?_)
  have hx := C.1.1
  have hb := C.1.2.1
  obtain ⟨Q, hQ⟩ : ∃ Q, Q = MQ below (Ctq D fa fe (some (.int res)) μ A) args s 0 0 A := ⟨_, rfl⟩
  rw [← hQ]
  have hl : lv_has ls 2 [(0, .int v0)] := hl
  unfold f_J6_numberOfTrailingZeros_0f7a4 at hf
  have J62 : ∀ (v0 v1 : Int32) (H : Heap) (locs : List Loc) (ls : Array Slot), f_J6_numberOfTrailingZeros_0f7a4_J62 v0 v1 = some res → Wd D fa fe A s.heap μ H locs → lv_has ls 2 [(0, .int v0), (1, .int v1)] → W p l e (rmq 0 0) s m args below meth c H locs 0 0 Q (F0 m 62 ls []) := by
    intro v0 v1 H locs ls hf hW hl
    unfold f_J6_numberOfTrailingZeros_0f7a4_J62 at hf
    refine lv_iload_n hx hb dJ6_numberOfTrailingZeros_0f7a4_62 rfl (lv_at hl 0 rfl) ?_
    refine lv_iconst (v := 4) hx hb dJ6_numberOfTrailingZeros_0f7a4_63 (by decide) ?_
    refine lv_icmp_le (tgt := 74) hx hb dJ6_numberOfTrailingZeros_0f7a4_64 (by decide) (fun c1 => ?_) (fun c1 => ?_)
    · have hf := (if_pos c1).symm.trans hf
      refine lv_iload_n hx hb dJ6_numberOfTrailingZeros_0f7a4_74 rfl (lv_at hl 1 rfl) ?_
      refine lv_iload_n hx hb dJ6_numberOfTrailingZeros_0f7a4_75 rfl (lv_at hl 0 rfl) ?_
      refine lv_iconst (v := 1) hx hb dJ6_numberOfTrailingZeros_0f7a4_76 (by decide) ?_
      refine lv_iushr hx hb dJ6_numberOfTrailingZeros_0f7a4_77 rfl ?_
      refine lv_iadd hx hb dJ6_numberOfTrailingZeros_0f7a4_78 ?_
      obtain rfl := Option.some.inj hf
      rw [hQ]
      exact r_iret C hr hk hW rfl rfl dJ6_numberOfTrailingZeros_0f7a4_79
    · have hf := (if_neg c1).symm.trans hf
      refine lv_iinc (v := (v1 + (2 : Int32))) (lv' := [(1, .int (v1 + (2 : Int32))), (0, .int v0)]) hx hb dJ6_numberOfTrailingZeros_0f7a4_67 hl (k := 1) rfl rfl (by decide) rfl (fun ls hl => ?_)
      refine lv_iload_n hx hb dJ6_numberOfTrailingZeros_0f7a4_70 rfl (lv_at hl 1 rfl) ?_
      refine lv_iconst (v := 2) hx hb dJ6_numberOfTrailingZeros_0f7a4_71 (by decide) ?_
      refine lv_iushr hx hb dJ6_numberOfTrailingZeros_0f7a4_72 rfl ?_
      refine lv_istore_n (lv' := [(0, .int (v0.toUInt32 >>> ((2 : Int32).toUInt32 &&& Int32.toUInt32 31)).toInt32), (1, .int (v1 + (2 : Int32)))]) hx hb dJ6_numberOfTrailingZeros_0f7a4_73 rfl hl (by decide) rfl (fun ls hl => ?_)
      refine lv_iload_n hx hb dJ6_numberOfTrailingZeros_0f7a4_74 rfl (lv_at hl 1 rfl) ?_
      refine lv_iload_n hx hb dJ6_numberOfTrailingZeros_0f7a4_75 rfl (lv_at hl 0 rfl) ?_
      refine lv_iconst (v := 1) hx hb dJ6_numberOfTrailingZeros_0f7a4_76 (by decide) ?_
      refine lv_iushr hx hb dJ6_numberOfTrailingZeros_0f7a4_77 rfl ?_
      refine lv_iadd hx hb dJ6_numberOfTrailingZeros_0f7a4_78 ?_
      obtain rfl := Option.some.inj hf
      rw [hQ]
      exact r_iret C hr hk hW rfl rfl dJ6_numberOfTrailingZeros_0f7a4_79
  have J49 : ∀ (v0 v1 : Int32) (H : Heap) (locs : List Loc) (ls : Array Slot), f_J6_numberOfTrailingZeros_0f7a4_J49 v0 v1 = some res → Wd D fa fe A s.heap μ H locs → lv_has ls 2 [(0, .int v0), (1, .int v1)] → W p l e (rmq 0 0) s m args below meth c H locs 0 0 Q (F0 m 49 ls []) := by
    intro v0 v1 H locs ls hf hW hl
    unfold f_J6_numberOfTrailingZeros_0f7a4_J49 at hf
    refine lv_iload_n hx hb dJ6_numberOfTrailingZeros_0f7a4_49 rfl (lv_at hl 0 rfl) ?_
    refine lv_bipush (v := 16) hx hb dJ6_numberOfTrailingZeros_0f7a4_50 (by decide) ?_
    refine lv_icmp_le (tgt := 62) hx hb dJ6_numberOfTrailingZeros_0f7a4_52 (by decide) (fun c2 => ?_) (fun c2 => ?_)
    · have hf := (if_pos c2).symm.trans hf
      exact J62 v0 v1 _ _ _ hf hW (lv_sub hl [0, 1] rfl)
    · have hf := (if_neg c2).symm.trans hf
      refine lv_iinc (v := (v1 + (4 : Int32))) (lv' := [(1, .int (v1 + (4 : Int32))), (0, .int v0)]) hx hb dJ6_numberOfTrailingZeros_0f7a4_55 hl (k := 1) rfl rfl (by decide) rfl (fun ls hl => ?_)
      refine lv_iload_n hx hb dJ6_numberOfTrailingZeros_0f7a4_58 rfl (lv_at hl 1 rfl) ?_
      refine lv_iconst (v := 4) hx hb dJ6_numberOfTrailingZeros_0f7a4_59 (by decide) ?_
      refine lv_iushr hx hb dJ6_numberOfTrailingZeros_0f7a4_60 rfl ?_
      refine lv_istore_n (lv' := [(0, .int (v0.toUInt32 >>> ((4 : Int32).toUInt32 &&& Int32.toUInt32 31)).toInt32), (1, .int (v1 + (4 : Int32)))]) hx hb dJ6_numberOfTrailingZeros_0f7a4_61 rfl hl (by decide) rfl (fun ls hl => ?_)
      exact J62 (v0.toUInt32 >>> ((4 : Int32).toUInt32 &&& Int32.toUInt32 31)).toInt32 (v1 + (4 : Int32)) _ _ _ hf hW (lv_sub hl [0, 1] rfl)
  have J34 : ∀ (v0 v1 : Int32) (H : Heap) (locs : List Loc) (ls : Array Slot), f_J6_numberOfTrailingZeros_0f7a4_J34 v0 v1 = some res → Wd D fa fe A s.heap μ H locs → lv_has ls 2 [(0, .int v0), (1, .int v1)] → W p l e (rmq 0 0) s m args below meth c H locs 0 0 Q (F0 m 34 ls []) := by
    intro v0 v1 H locs ls hf hW hl
    unfold f_J6_numberOfTrailingZeros_0f7a4_J34 at hf
    refine lv_iload_n hx hb dJ6_numberOfTrailingZeros_0f7a4_34 rfl (lv_at hl 0 rfl) ?_
    refine lv_sipush (v := 256) hx hb dJ6_numberOfTrailingZeros_0f7a4_35 (by decide) ?_
    refine lv_icmp_le (tgt := 49) hx hb dJ6_numberOfTrailingZeros_0f7a4_38 (by decide) (fun c3 => ?_) (fun c3 => ?_)
    · have hf := (if_pos c3).symm.trans hf
      exact J49 v0 v1 _ _ _ hf hW (lv_sub hl [0, 1] rfl)
    · have hf := (if_neg c3).symm.trans hf
      refine lv_iinc (v := (v1 + (8 : Int32))) (lv' := [(1, .int (v1 + (8 : Int32))), (0, .int v0)]) hx hb dJ6_numberOfTrailingZeros_0f7a4_41 hl (k := 1) rfl rfl (by decide) rfl (fun ls hl => ?_)
      refine lv_iload_n hx hb dJ6_numberOfTrailingZeros_0f7a4_44 rfl (lv_at hl 1 rfl) ?_
      refine lv_bipush (v := 8) hx hb dJ6_numberOfTrailingZeros_0f7a4_45 (by decide) ?_
      refine lv_iushr hx hb dJ6_numberOfTrailingZeros_0f7a4_47 rfl ?_
      refine lv_istore_n (lv' := [(0, .int (v0.toUInt32 >>> ((8 : Int32).toUInt32 &&& Int32.toUInt32 31)).toInt32), (1, .int (v1 + (8 : Int32)))]) hx hb dJ6_numberOfTrailingZeros_0f7a4_48 rfl hl (by decide) rfl (fun ls hl => ?_)
      exact J49 (v0.toUInt32 >>> ((8 : Int32).toUInt32 &&& Int32.toUInt32 31)).toInt32 (v1 + (8 : Int32)) _ _ _ hf hW (lv_sub hl [0, 1] rfl)
  refine lv_iload_n hx hb dJ6_numberOfTrailingZeros_0f7a4_0 rfl (lv_at hl 0 rfl) ?_
  refine lv_iconst (v := -1) hx hb dJ6_numberOfTrailingZeros_0f7a4_1 (by decide) ?_
  refine lv_ixor hx hb dJ6_numberOfTrailingZeros_0f7a4_2 ?_
  refine lv_iload_n hx hb dJ6_numberOfTrailingZeros_0f7a4_3 rfl (lv_at hl 0 rfl) ?_
  refine lv_iconst (v := 1) hx hb dJ6_numberOfTrailingZeros_0f7a4_4 (by decide) ?_
  refine lv_isub hx hb dJ6_numberOfTrailingZeros_0f7a4_5 ?_
  refine lv_iand hx hb dJ6_numberOfTrailingZeros_0f7a4_6 ?_
  refine lv_istore_n (lv' := [(0, .int ((v0 ^^^ (-1 : Int32)) &&& (v0 - (1 : Int32))))]) hx hb dJ6_numberOfTrailingZeros_0f7a4_7 rfl hl (by decide) rfl (fun ls hl => ?_)
  refine lv_iload_n hx hb dJ6_numberOfTrailingZeros_0f7a4_8 rfl (lv_at hl 0 rfl) ?_
  refine lv_if_gt (tgt := 17) hx hb dJ6_numberOfTrailingZeros_0f7a4_9 (by decide) (fun c4 => ?_) (fun c4 => ?_)
  · have hf := (if_pos c4).symm.trans hf
    refine lv_iconst (v := 1) hx hb dJ6_numberOfTrailingZeros_0f7a4_17 (by decide) ?_
    refine lv_istore_n (lv' := [(1, .int (1 : Int32)), (0, .int ((v0 ^^^ (-1 : Int32)) &&& (v0 - (1 : Int32))))]) hx hb dJ6_numberOfTrailingZeros_0f7a4_18 rfl hl (by decide) rfl (fun ls hl => ?_)
    refine lv_iload_n hx hb dJ6_numberOfTrailingZeros_0f7a4_19 rfl (lv_at hl 1 rfl) ?_
    refine lv_ldcw (v := 65536) hx hb C.1.2.2.2.1 (C.1.2.2.2.2 _ kw_966) dJ6_numberOfTrailingZeros_0f7a4_20 ?_
    refine lv_icmp_le (tgt := 34) hx hb dJ6_numberOfTrailingZeros_0f7a4_23 (by decide) (fun c5 => ?_) (fun c5 => ?_)
    · have hf := (if_pos c5).symm.trans hf
      exact J34 ((v0 ^^^ (-1 : Int32)) &&& (v0 - (1 : Int32))) (1 : Int32) _ _ _ hf hW (lv_sub hl [1, 0] rfl)
    · have hf := (if_neg c5).symm.trans hf
      refine lv_iinc (v := ((1 : Int32) + (16 : Int32))) (lv' := [(1, .int ((1 : Int32) + (16 : Int32))), (0, .int ((v0 ^^^ (-1 : Int32)) &&& (v0 - (1 : Int32))))]) hx hb dJ6_numberOfTrailingZeros_0f7a4_26 hl (k := 0) rfl rfl (by decide) rfl (fun ls hl => ?_)
      refine lv_iload_n hx hb dJ6_numberOfTrailingZeros_0f7a4_29 rfl (lv_at hl 1 rfl) ?_
      refine lv_bipush (v := 16) hx hb dJ6_numberOfTrailingZeros_0f7a4_30 (by decide) ?_
      refine lv_iushr hx hb dJ6_numberOfTrailingZeros_0f7a4_32 rfl ?_
      refine lv_istore_n (lv' := [(0, .int (((v0 ^^^ (-1 : Int32)) &&& (v0 - (1 : Int32))).toUInt32 >>> ((16 : Int32).toUInt32 &&& Int32.toUInt32 31)).toInt32), (1, .int ((1 : Int32) + (16 : Int32)))]) hx hb dJ6_numberOfTrailingZeros_0f7a4_33 rfl hl (by decide) rfl (fun ls hl => ?_)
      exact J34 (((v0 ^^^ (-1 : Int32)) &&& (v0 - (1 : Int32))).toUInt32 >>> ((16 : Int32).toUInt32 &&& Int32.toUInt32 31)).toInt32 ((1 : Int32) + (16 : Int32)) _ _ _ hf hW (lv_sub hl [0, 1] rfl)
  · have hf := (if_neg c4).symm.trans hf
    refine lv_iload_n hx hb dJ6_numberOfTrailingZeros_0f7a4_12 rfl (lv_at hl 0 rfl) ?_
    refine lv_bipush (v := 32) hx hb dJ6_numberOfTrailingZeros_0f7a4_13 (by decide) ?_
    refine lv_iand hx hb dJ6_numberOfTrailingZeros_0f7a4_15 ?_
    obtain rfl := Option.some.inj hf
    rw [hQ]
    exact r_iret C hr hk hW rfl rfl dJ6_numberOfTrailingZeros_0f7a4_16
set_option maxHeartbeats 4000000 in
set_option maxRecDepth 100000 in
theorem c_X11_onlyOne {l : Launch} {D : va_G} {tc : Nat → ClassId} {ro : Ro} {ad : Nat → Nat} {μ : Mm} {v0 : Int32} {res : Int32} (hf : f_X11_onlyOne v0 = some res) : Ct l D tc ro (faM ad) (feM tc ad) yX11_onlyOne cX11_onlyOne 1 (some .int) (rmq 1 21) [.int v0] μ (some (.int res)) μ := by
  refine Ct.of (by decide) (Nat.le_of_ble_eq_true rfl) (fun p e s m args below meth c A C hr hk hW ls hl => ?_)
  have hx := C.1.1
  have hb := C.1.2.1
  obtain ⟨Q, hQ⟩ : ∃ Q, Q = MQ below (Ctq D (faM ad) (feM tc ad) (some (.int res)) μ A) args s 0 0 A := ⟨_, rfl⟩
  rw [← hQ]
  have hl : lv_has ls 1 [(0, .int v0)] := hl
  unfold f_X11_onlyOne at hf
  refine lv_iload_n hx hb dX11_onlyOne_0 rfl (lv_at hl 0 rfl) ?_
  obtain ⟨x1, h1, hf⟩ := bd_of hf
  refine r_callS C hW hl lk_X11_143 (c_X11_isOne h1) ⟨rfl, rfl⟩ ⟨Nat.le_of_ble_eq_true rfl, Nat.le_of_ble_eq_true rfl⟩ (As := [.int v0]) (rest := []) rfl rfl (Nat.le_of_ble_eq_true rfl) dX11_onlyOne_1 ⟨Nat.zero_le _, Nat.zero_le _⟩ (fun H locs hW => ?_)
  show W p l e (rmq 1 21) s m args below meth c H locs 0 0 Q (F0 m 4 ls [.int x1])
  refine lv_if_eq (tgt := 14) hx hb dX11_onlyOne_4 (by decide) (fun c2 => ?_) (fun c2 => ?_)
  · have hf := (if_pos c2).symm.trans hf
    refine lv_iconst (v := -1) hx hb dX11_onlyOne_14 (by decide) ?_
    obtain rfl := Option.some.inj hf
    rw [hQ]
    exact r_iret C hr hk hW rfl rfl dX11_onlyOne_15
  · have hf := (if_neg c2).symm.trans hf
    refine lv_iload_n hx hb dX11_onlyOne_7 rfl (lv_at hl 0 rfl) ?_
    obtain ⟨x8, h8, hf⟩ := bd_of hf
    refine r_callS C hW hl lk_X11_401 (c_J6_numberOfTrailingZeros_0f7a4 h8) ⟨rfl, rfl⟩ ⟨Nat.le_of_ble_eq_true rfl, Nat.le_of_ble_eq_true rfl⟩ (As := [.int v0]) (rest := []) rfl rfl (Nat.le_of_ble_eq_true rfl) dX11_onlyOne_8 ⟨Nat.zero_le _, Nat.zero_le _⟩ (fun H locs hW => ?_)
    show W p l e (rmq 1 21) s m args below meth c H locs 0 0 Q (F0 m 11 ls [.int x8])
    refine lv_goto (tgt := 15) hx hb dX11_onlyOne_11 (by decide) ?_
    obtain rfl := Option.some.inj hf
    rw [hQ]
    exact r_iret C hr hk hW rfl rfl dX11_onlyOne_15
set_option maxHeartbeats 4000000 in
set_option maxRecDepth 100000 in
theorem c_X11_knows {l : Launch} {D : va_G} {tc : Nat → ClassId} {ro : Ro} {ad : Nat → Nat} {μ : Mm} {v1 v2 : Int32} {res : Int32 × Mm} (hf : f_X11_knows μ v1 v2 = some res) : Ct l D tc ro (faM ad) (feM tc ad) yX11_knows cX11_knows 3 (some .int) (rmq 4 90) [.ref (ad 0), .int v1, .int v2] μ (some (.int res.1)) res.2 := by
  refine Ct.of (by decide) (Nat.le_of_ble_eq_true rfl) (fun p e s m args below meth c A C hr hk hW ls hl => ?_)
  have hx := C.1.1
  have hb := C.1.2.1
  obtain ⟨Q, hQ⟩ : ∃ Q, Q = MQ below (Ctq D (faM ad) (feM tc ad) (some (.int res.1)) res.2 A) args s 0 0 A := ⟨_, rfl⟩
  rw [← hQ]
  have hl : lv_has ls 3 [(0, .ref (ad 0)), (1, .int v1), (2, .int v2)] := hl
  unfold f_X11_knows at hf
  refine lv_aload_n hx hb dX11_knows_0 rfl (lv_at hl 0 rfl) ?_
  refine lv_iconst (v := 0) hx hb dX11_knows_1 (by decide) ?_
  refine pf_X11_3 C hW dX11_knows_2 (fun H locs hW => ?_)
  refine lv_aload_n hx hb dX11_knows_5 rfl (lv_at hl 0 rfl) ?_
  refine lv_aload_n hx hb dX11_knows_6 rfl (lv_at hl 0 rfl) ?_
  refine lv_iload_n hx hb dX11_knows_7 rfl (lv_at hl 1 rfl) ?_
  obtain ⟨x8, h8, hf⟩ := bd_of hf
  refine r_callV (k := ((0, 0) : Ky)) C hW hl lk_X11_359 (c_X11_noPerson h8) ⟨rfl, rfl⟩ ⟨Nat.le_of_ble_eq_true rfl, Nat.le_of_ble_eq_true rfl⟩ rfl rfl rfl (As := [.int v1]) (rest := [.ref (ad 0)]) rfl rfl (Nat.le_of_ble_eq_true rfl) dX11_knows_8 ⟨Nat.zero_le _, Nat.zero_le _⟩ (fun H locs hW => ?_)
  show W p l e (rmq 4 90) s m args below meth c H locs 0 0 Q (F0 m 11 ls [.int x8, .ref (ad 0)])
  refine lv_if_ne (tgt := 22) hx hb dX11_knows_11 (by decide) (fun c2 => ?_) (fun c2 => ?_)
  · have hf := (if_neg c2).symm.trans hf
    refine lv_iconst (v := 1) hx hb dX11_knows_22 (by decide) ?_
    refine lv_goto (tgt := 27) hx hb dX11_knows_23 (by decide) ?_
    refine lv_iconst (v := 1) hx hb dX11_knows_27 (by decide) ?_
    obtain ⟨x28, h28, hf⟩ := bd_of hf
    refine r_callV (k := ((0, 0) : Ky)) C hW hl lk_X11_322 (c_X11_throwsIf h28) ⟨rfl, rfl⟩ ⟨Nat.le_of_ble_eq_true rfl, Nat.le_of_ble_eq_true rfl⟩ rfl rfl rfl (As := [.int (1 : Int32), .int (1 : Int32)]) (rest := []) rfl rfl (Nat.le_of_ble_eq_true rfl) dX11_knows_28 ⟨Nat.zero_le _, Nat.zero_le _⟩ (fun H locs hW => ?_)
    show W p l e (rmq 4 90) s m args below meth c H locs 0 0 Q (F0 m 31 ls [.int x28.1])
    refine lv_if_eq (tgt := 38) hx hb dX11_knows_31 (by decide) (fun c4 => ?_) (fun c4 => ?_)
    · have hf := (if_pos c4).symm.trans hf
      refine lv_aload_n hx hb dX11_knows_38 rfl (lv_at hl 0 rfl) ?_
      refine lv_iload_n hx hb dX11_knows_39 rfl (lv_at hl 1 rfl) ?_
      refine lv_iload_n hx hb dX11_knows_40 rfl (lv_at hl 2 rfl) ?_
      refine lv_aload_n hx hb dX11_knows_41 rfl (lv_at hl 0 rfl) ?_
      obtain ⟨x42, h42, hf⟩ := bd_of hf
      refine r_callV (k := ((0, 0) : Ky)) C hW hl lk_X11_121 (c_X11_here h42) ⟨rfl, rfl⟩ ⟨Nat.le_of_ble_eq_true rfl, Nat.le_of_ble_eq_true rfl⟩ rfl rfl rfl (As := []) (rest := [.int v2, .int v1, .ref (ad 0)]) rfl rfl (Nat.le_of_ble_eq_true rfl) dX11_knows_42 ⟨Nat.zero_le _, Nat.zero_le _⟩ (fun H locs hW => ?_)
      show W p l e (rmq 4 90) s m args below meth c H locs 0 0 Q (F0 m 45 ls [.int x42, .int v2, .int v1, .ref (ad 0)])
      obtain ⟨x45, h45, hf⟩ := bd_of hf
      refine r_callV (k := ((0, 0) : Ky)) C hW hl lk_X11_139 (c_X11_possibleOf h45) ⟨rfl, rfl⟩ ⟨Nat.le_of_ble_eq_true rfl, Nat.le_of_ble_eq_true rfl⟩ rfl rfl rfl (As := [.int v1, .int v2, .int x42]) (rest := []) rfl rfl (Nat.le_of_ble_eq_true rfl) dX11_knows_45 ⟨Nat.zero_le _, Nat.zero_le _⟩ (fun H locs hW => ?_)
      show W p l e (rmq 4 90) s m args below meth c H locs 0 0 Q (F0 m 48 ls [.int x45.1])
      obtain ⟨x48, h48, hf⟩ := bd_of hf
      refine r_callS C hW hl lk_X11_406 (c_X11_onlyOne h48) ⟨rfl, rfl⟩ ⟨Nat.le_of_ble_eq_true rfl, Nat.le_of_ble_eq_true rfl⟩ (As := [.int x45.1]) (rest := []) rfl rfl (Nat.le_of_ble_eq_true rfl) dX11_knows_48 ⟨Nat.zero_le _, Nat.zero_le _⟩ (fun H locs hW => ?_)
      show W p l e (rmq 4 90) s m args below meth c H locs 0 0 Q (F0 m 51 ls [.int x48])
      obtain rfl := Option.some.inj hf
      rw [hQ]
      exact r_iret C hr hk hW rfl rfl dX11_knows_51
    · have hf := (if_neg c4).symm.trans hf
      refine lv_iconst (v := 0) hx hb dX11_knows_34 (by decide) ?_
      refine lv_goto (tgt := 51) hx hb dX11_knows_35 (by decide) ?_
      obtain rfl := Option.some.inj hf
      rw [hQ]
      exact r_iret C hr hk hW rfl rfl dX11_knows_51
  · have hf := (if_pos c2).symm.trans hf
    refine lv_aload_n hx hb dX11_knows_14 rfl (lv_at hl 0 rfl) ?_
    refine lv_iload_n hx hb dX11_knows_15 rfl (lv_at hl 2 rfl) ?_
    obtain ⟨x16, h16, hf⟩ := bd_of hf
    refine r_callV (k := ((0, 0) : Ky)) C hW hl lk_X11_359 (c_X11_noPerson h16) ⟨rfl, rfl⟩ ⟨Nat.le_of_ble_eq_true rfl, Nat.le_of_ble_eq_true rfl⟩ rfl rfl rfl (As := [.int v2]) (rest := [.ref (ad 0)]) rfl rfl (Nat.le_of_ble_eq_true rfl) dX11_knows_16 ⟨Nat.zero_le _, Nat.zero_le _⟩ (fun H locs hW => ?_)
    show W p l e (rmq 4 90) s m args below meth c H locs 0 0 Q (F0 m 19 ls [.int x16, .ref (ad 0)])
    refine lv_if_eq (tgt := 26) hx hb dX11_knows_19 (by decide) (fun c9 => ?_) (fun c9 => ?_)
    · have hf := (if_pos c9).symm.trans hf
      refine lv_iconst (v := 0) hx hb dX11_knows_26 (by decide) ?_
      refine lv_iconst (v := 1) hx hb dX11_knows_27 (by decide) ?_
      obtain ⟨x28, h28, hf⟩ := bd_of hf
      refine r_callV (k := ((0, 0) : Ky)) C hW hl lk_X11_322 (c_X11_throwsIf h28) ⟨rfl, rfl⟩ ⟨Nat.le_of_ble_eq_true rfl, Nat.le_of_ble_eq_true rfl⟩ rfl rfl rfl (As := [.int (0 : Int32), .int (1 : Int32)]) (rest := []) rfl rfl (Nat.le_of_ble_eq_true rfl) dX11_knows_28 ⟨Nat.zero_le _, Nat.zero_le _⟩ (fun H locs hW => ?_)
      show W p l e (rmq 4 90) s m args below meth c H locs 0 0 Q (F0 m 31 ls [.int x28.1])
      refine lv_if_eq (tgt := 38) hx hb dX11_knows_31 (by decide) (fun c11 => ?_) (fun c11 => ?_)
      · have hf := (if_pos c11).symm.trans hf
        refine lv_aload_n hx hb dX11_knows_38 rfl (lv_at hl 0 rfl) ?_
        refine lv_iload_n hx hb dX11_knows_39 rfl (lv_at hl 1 rfl) ?_
        refine lv_iload_n hx hb dX11_knows_40 rfl (lv_at hl 2 rfl) ?_
        refine lv_aload_n hx hb dX11_knows_41 rfl (lv_at hl 0 rfl) ?_
        obtain ⟨x42, h42, hf⟩ := bd_of hf
        refine r_callV (k := ((0, 0) : Ky)) C hW hl lk_X11_121 (c_X11_here h42) ⟨rfl, rfl⟩ ⟨Nat.le_of_ble_eq_true rfl, Nat.le_of_ble_eq_true rfl⟩ rfl rfl rfl (As := []) (rest := [.int v2, .int v1, .ref (ad 0)]) rfl rfl (Nat.le_of_ble_eq_true rfl) dX11_knows_42 ⟨Nat.zero_le _, Nat.zero_le _⟩ (fun H locs hW => ?_)
        show W p l e (rmq 4 90) s m args below meth c H locs 0 0 Q (F0 m 45 ls [.int x42, .int v2, .int v1, .ref (ad 0)])
        obtain ⟨x45, h45, hf⟩ := bd_of hf
        refine r_callV (k := ((0, 0) : Ky)) C hW hl lk_X11_139 (c_X11_possibleOf h45) ⟨rfl, rfl⟩ ⟨Nat.le_of_ble_eq_true rfl, Nat.le_of_ble_eq_true rfl⟩ rfl rfl rfl (As := [.int v1, .int v2, .int x42]) (rest := []) rfl rfl (Nat.le_of_ble_eq_true rfl) dX11_knows_45 ⟨Nat.zero_le _, Nat.zero_le _⟩ (fun H locs hW => ?_)
        show W p l e (rmq 4 90) s m args below meth c H locs 0 0 Q (F0 m 48 ls [.int x45.1])
        obtain ⟨x48, h48, hf⟩ := bd_of hf
        refine r_callS C hW hl lk_X11_406 (c_X11_onlyOne h48) ⟨rfl, rfl⟩ ⟨Nat.le_of_ble_eq_true rfl, Nat.le_of_ble_eq_true rfl⟩ (As := [.int x45.1]) (rest := []) rfl rfl (Nat.le_of_ble_eq_true rfl) dX11_knows_48 ⟨Nat.zero_le _, Nat.zero_le _⟩ (fun H locs hW => ?_)
        show W p l e (rmq 4 90) s m args below meth c H locs 0 0 Q (F0 m 51 ls [.int x48])
        obtain rfl := Option.some.inj hf
        rw [hQ]
        exact r_iret C hr hk hW rfl rfl dX11_knows_51
      · have hf := (if_neg c11).symm.trans hf
        refine lv_iconst (v := 0) hx hb dX11_knows_34 (by decide) ?_
        refine lv_goto (tgt := 51) hx hb dX11_knows_35 (by decide) ?_
        obtain rfl := Option.some.inj hf
        rw [hQ]
        exact r_iret C hr hk hW rfl rfl dX11_knows_51
    · have hf := (if_neg c9).symm.trans hf
      refine lv_iconst (v := 1) hx hb dX11_knows_22 (by decide) ?_
      refine lv_goto (tgt := 27) hx hb dX11_knows_23 (by decide) ?_
      refine lv_iconst (v := 1) hx hb dX11_knows_27 (by decide) ?_
      obtain ⟨x28, h28, hf⟩ := bd_of hf
      refine r_callV (k := ((0, 0) : Ky)) C hW hl lk_X11_322 (c_X11_throwsIf h28) ⟨rfl, rfl⟩ ⟨Nat.le_of_ble_eq_true rfl, Nat.le_of_ble_eq_true rfl⟩ rfl rfl rfl (As := [.int (1 : Int32), .int (1 : Int32)]) (rest := []) rfl rfl (Nat.le_of_ble_eq_true rfl) dX11_knows_28 ⟨Nat.zero_le _, Nat.zero_le _⟩ (fun H locs hW => ?_)
      show W p l e (rmq 4 90) s m args below meth c H locs 0 0 Q (F0 m 31 ls [.int x28.1])
      refine lv_if_eq (tgt := 38) hx hb dX11_knows_31 (by decide) (fun c16 => ?_) (fun c16 => ?_)
      · have hf := (if_pos c16).symm.trans hf
        refine lv_aload_n hx hb dX11_knows_38 rfl (lv_at hl 0 rfl) ?_
        refine lv_iload_n hx hb dX11_knows_39 rfl (lv_at hl 1 rfl) ?_
        refine lv_iload_n hx hb dX11_knows_40 rfl (lv_at hl 2 rfl) ?_
        refine lv_aload_n hx hb dX11_knows_41 rfl (lv_at hl 0 rfl) ?_
        obtain ⟨x42, h42, hf⟩ := bd_of hf
        refine r_callV (k := ((0, 0) : Ky)) C hW hl lk_X11_121 (c_X11_here h42) ⟨rfl, rfl⟩ ⟨Nat.le_of_ble_eq_true rfl, Nat.le_of_ble_eq_true rfl⟩ rfl rfl rfl (As := []) (rest := [.int v2, .int v1, .ref (ad 0)]) rfl rfl (Nat.le_of_ble_eq_true rfl) dX11_knows_42 ⟨Nat.zero_le _, Nat.zero_le _⟩ (fun H locs hW => ?_)
        show W p l e (rmq 4 90) s m args below meth c H locs 0 0 Q (F0 m 45 ls [.int x42, .int v2, .int v1, .ref (ad 0)])
        obtain ⟨x45, h45, hf⟩ := bd_of hf
        refine r_callV (k := ((0, 0) : Ky)) C hW hl lk_X11_139 (c_X11_possibleOf h45) ⟨rfl, rfl⟩ ⟨Nat.le_of_ble_eq_true rfl, Nat.le_of_ble_eq_true rfl⟩ rfl rfl rfl (As := [.int v1, .int v2, .int x42]) (rest := []) rfl rfl (Nat.le_of_ble_eq_true rfl) dX11_knows_45 ⟨Nat.zero_le _, Nat.zero_le _⟩ (fun H locs hW => ?_)
        show W p l e (rmq 4 90) s m args below meth c H locs 0 0 Q (F0 m 48 ls [.int x45.1])
        obtain ⟨x48, h48, hf⟩ := bd_of hf
        refine r_callS C hW hl lk_X11_406 (c_X11_onlyOne h48) ⟨rfl, rfl⟩ ⟨Nat.le_of_ble_eq_true rfl, Nat.le_of_ble_eq_true rfl⟩ (As := [.int x45.1]) (rest := []) rfl rfl (Nat.le_of_ble_eq_true rfl) dX11_knows_48 ⟨Nat.zero_le _, Nat.zero_le _⟩ (fun H locs hW => ?_)
        show W p l e (rmq 4 90) s m args below meth c H locs 0 0 Q (F0 m 51 ls [.int x48])
        obtain rfl := Option.some.inj hf
        rw [hQ]
        exact r_iret C hr hk hW rfl rfl dX11_knows_51
      · have hf := (if_neg c16).symm.trans hf
        refine lv_iconst (v := 0) hx hb dX11_knows_34 (by decide) ?_
        refine lv_goto (tgt := 51) hx hb dX11_knows_35 (by decide) ?_
        obtain rfl := Option.some.inj hf
        rw [hQ]
        exact r_iret C hr hk hW rfl rfl dX11_knows_51
set_option maxHeartbeats 4000000 in
set_option maxRecDepth 100000 in
theorem c_X11_thinks {l : Launch} {D : va_G} {tc : Nat → ClassId} {ro : Ro} {ad : Nat → Nat} {μ : Mm} {v1 v2 v3 : Int32} {res : Int32 × Mm} (hf : f_X11_thinks μ v1 v2 v3 = some res) : Ct l D tc ro (faM ad) (feM tc ad) yX11_thinks cX11_thinks 6 (some .boolean) (rmq 3 67) [.ref (ad 0), .int v1, .int v2, .int v3] μ (some (.int res.1)) res.2 := by
  refine Ct.of (by decide) (Nat.le_of_ble_eq_true rfl) (fun p e s m args below meth c A C hr hk hW ls hl => ?_)
  have hx := C.1.1
  have hb := C.1.2.1
  obtain ⟨Q, hQ⟩ : ∃ Q, Q = MQ below (Ctq D (faM ad) (feM tc ad) (some (.int res.1)) res.2 A) args s 0 0 A := ⟨_, rfl⟩
  rw [← hQ]
  have hl : lv_has ls 6 [(0, .ref (ad 0)), (1, .int v1), (2, .int v2), (3, .int v3)] := hl
  unfold f_X11_thinks at hf
  have J35 : ∀ (μ : Mm) (s0 : Int32) (H : Heap) (locs : List Loc) (ls : Array Slot), f_X11_thinks_J35 μ v1 v2 v3 s0 = some res → Wd D (faM ad) (feM tc ad) A s.heap μ H locs → lv_has ls 6 [(0, .ref (ad 0)), (1, .int v1), (2, .int v2), (3, .int v3)] → W p l e (rmq 3 67) s m args below meth c H locs 0 0 Q (F0 m 35 ls [.int s0, .ref (ad 0)]) := by
    intro μ s0 H locs ls hf hW hl
    unfold f_X11_thinks_J35 at hf
    refine lv_iconst (v := 1) hx hb dX11_thinks_35 (by decide) ?_
    obtain ⟨x36, h36, hf⟩ := bd_of hf
    refine r_callV (k := ((0, 0) : Ky)) C hW hl lk_X11_322 (c_X11_throwsIf h36) ⟨rfl, rfl⟩ ⟨Nat.le_of_ble_eq_true rfl, Nat.le_of_ble_eq_true rfl⟩ rfl rfl rfl (As := [.int s0, .int (1 : Int32)]) (rest := []) rfl rfl (Nat.le_of_ble_eq_true rfl) dX11_thinks_36 ⟨Nat.zero_le _, Nat.zero_le _⟩ (fun H locs hW => ?_)
    show W p l e (rmq 3 67) s m args below meth c H locs 0 0 Q (F0 m 39 ls [.int x36.1])
    refine lv_if_eq (tgt := 44) hx hb dX11_thinks_39 (by decide) (fun c2 => ?_) (fun c2 => ?_)
    · have hf := (if_pos c2).symm.trans hf
      refine lv_aload_n hx hb dX11_thinks_44 rfl (lv_at hl 0 rfl) ?_
      refine lv_iload_n hx hb dX11_thinks_45 rfl (lv_at hl 2 rfl) ?_
      refine lv_iload_n hx hb dX11_thinks_46 rfl (lv_at hl 3 rfl) ?_
      obtain ⟨x47, h47, hf⟩ := bd_of hf
      refine r_callV (k := ((0, 0) : Ky)) C hW hl lk_X11_135 (c_X11_lays h47) ⟨rfl, rfl⟩ ⟨Nat.le_of_ble_eq_true rfl, Nat.le_of_ble_eq_true rfl⟩ rfl rfl rfl (As := [.int v2, .int v3]) (rest := []) rfl rfl (Nat.le_of_ble_eq_true rfl) dX11_thinks_47 ⟨Nat.zero_le _, Nat.zero_le _⟩ (fun H locs hW => ?_)
      show W p l e (rmq 3 67) s m args below meth c H locs 0 0 Q (F0 m 50 ls [])
      refine lv_iconst (v := 1) hx hb dX11_thinks_50 (by decide) ?_
      refine lv_istore (lv' := [(4, .int (1 : Int32)), (0, .ref (ad 0)), (1, .int v1), (2, .int v2), (3, .int v3)]) hx hb dX11_thinks_51 hl (by decide) rfl (fun ls hl => ?_)
      refine lv_iconst (v := 0) hx hb dX11_thinks_53 (by decide) ?_
      refine lv_istore (lv' := [(5, .int (0 : Int32)), (4, .int (1 : Int32)), (0, .ref (ad 0)), (1, .int v1), (2, .int v2), (3, .int v3)]) hx hb dX11_thinks_54 hl (by decide) rfl (fun ls hl => ?_)
      have L56 : ∀ (μ : Mm) (v4 v5 : Int32) (H : Heap) (locs : List Loc) (ls : Array Slot), Wh (fun z : Int32 × Int32 => f_X11_thinks_L56 v1 v2 μ z.1 z.2) (v4, v5) = some res → Wd D (faM ad) (feM tc ad) A s.heap μ H locs → lv_has ls 6 [(0, .ref (ad 0)), (1, .int v1), (2, .int v2), (4, .int v4), (5, .int v5)] → W p l e (rmq 3 67) s m args below meth c H locs 0 0 Q (F0 m 56 ls []) := by
        intro μ v4 v5 H locs ls hf hW hl
        refine Wh_rule hf (fun z : Int32 × Int32 => ∀ (H : Heap) (locs : List Loc) (ls : Array Slot), Wd D (faM ad) (feM tc ad) A s.heap μ H locs → lv_has ls 6 [(0, .ref (ad 0)), (1, .int v1), (2, .int v2), (4, .int z.1), (5, .int z.2)] → W p l e (rmq 3 67) s m args below meth c H locs 0 0 Q (F0 m 56 ls [])) (fun z o1 hf Kl1 Kr1 => ?_) _ _ _ hW hl
        obtain ⟨v4, v5⟩ := z
        intro H locs ls hW hl
        have hf : f_X11_thinks_L56 v1 v2 μ v4 v5 = some o1 := hf
        unfold f_X11_thinks_L56 at hf
        have hW : Wd D (faM ad) (feM tc ad) A s.heap μ H locs := hW
        have hl : lv_has ls 6 [(0, .ref (ad 0)), (1, .int v1), (2, .int v2), (4, .int v4), (5, .int v5)] := hl
        refine lv_iload hx hb dX11_thinks_56 (lv_at hl 4 rfl) ?_
        refine lv_aload_n hx hb dX11_thinks_58 rfl (lv_at hl 0 rfl) ?_
        obtain ⟨x59, h59, hf⟩ := bd_of hf
        refine r_callV (k := ((0, 0) : Ky)) C hW hl lk_X11_115 (c_X11_worlds h59) ⟨rfl, rfl⟩ ⟨Nat.le_of_ble_eq_true rfl, Nat.le_of_ble_eq_true rfl⟩ rfl rfl rfl (As := []) (rest := [.int v5]) rfl rfl (Nat.le_of_ble_eq_true rfl) dX11_thinks_59 ⟨Nat.zero_le _, Nat.zero_le _⟩ (fun H locs hW => ?_)
        show W p l e (rmq 3 67) s m args below meth c H locs 0 0 Q (F0 m 62 ls [.int x59, .int v5])
        refine lv_icmp_ge (tgt := 129) hx hb dX11_thinks_62 (by decide) (fun c5 => ?_) (fun c5 => ?_)
        · have hf := (if_pos c5).symm.trans hf
          obtain ⟨x9007, hf, hx9007⟩ := map_of hf
          have e9007 := (Kr1 _ hx9007.symm).symm
          subst e9007
          refine lv_iload hx hb dX11_thinks_129 (lv_at hl 3 rfl) ?_
          obtain ⟨hz6, hf⟩ := cb_of hf
          obtain rfl := Option.some.inj hf
          rw [hQ]
          exact r_zret C hr hk hW hz6 rfl rfl dX11_thinks_131
        · have hf := (if_neg c5).symm.trans hf
          refine lv_iload hx hb dX11_thinks_65 (lv_at hl 3 rfl) ?_
          refine lv_if_eq (tgt := 120) hx hb dX11_thinks_67 (by decide) (fun c8 => ?_) (fun c8 => ?_)
          · have hf := (if_pos c8).symm.trans hf
            refine lv_iconst (v := 0) hx hb dX11_thinks_120 (by decide) ?_
            refine lv_istore (lv' := [(4, .int (0 : Int32)), (0, .ref (ad 0)), (1, .int v1), (2, .int v2), (5, .int v5)]) hx hb dX11_thinks_121 hl (by decide) rfl (fun ls hl => ?_)
            refine lv_iinc (v := (v5 + (1 : Int32))) (lv' := [(5, .int (v5 + (1 : Int32))), (4, .int (0 : Int32)), (0, .ref (ad 0)), (1, .int v1), (2, .int v2)]) hx hb dX11_thinks_123 hl (k := 4) rfl rfl (by decide) rfl (fun ls hl => ?_)
            refine lv_goto (tgt := 56) hx hb dX11_thinks_126 (by decide) ?_
            obtain rfl := Option.some.inj hf
            exact Kl1 _ rfl _ _ _ hW (lv_sub hl [2, 3, 4, 1, 0] rfl)
          · have hf := (if_neg c8).symm.trans hf
            refine lv_aload_n hx hb dX11_thinks_70 rfl (lv_at hl 0 rfl) ?_
            refine lv_iload hx hb dX11_thinks_71 (lv_at hl 4 rfl) ?_
            obtain ⟨x73, h73, hf⟩ := bd_of hf
            refine r_callV (k := ((0, 0) : Ky)) C hW hl lk_X11_128 (c_X11_isLeft h73) ⟨rfl, rfl⟩ ⟨Nat.le_of_ble_eq_true rfl, Nat.le_of_ble_eq_true rfl⟩ rfl rfl rfl (As := [.int v5]) (rest := []) rfl rfl (Nat.le_of_ble_eq_true rfl) dX11_thinks_73 ⟨Nat.zero_le _, Nat.zero_le _⟩ (fun H locs hW => ?_)
            show W p l e (rmq 3 67) s m args below meth c H locs 0 0 Q (F0 m 76 ls [.int x73])
            refine lv_if_eq (tgt := 116) hx hb dX11_thinks_76 (by decide) (fun c10 => ?_) (fun c10 => ?_)
            · have hf := (if_pos c10).symm.trans hf
              refine lv_iconst (v := 1) hx hb dX11_thinks_116 (by decide) ?_
              refine lv_goto (tgt := 121) hx hb dX11_thinks_117 (by decide) ?_
              refine lv_istore (lv' := [(4, .int (1 : Int32)), (0, .ref (ad 0)), (1, .int v1), (2, .int v2), (5, .int v5)]) hx hb dX11_thinks_121 hl (by decide) rfl (fun ls hl => ?_)
              refine lv_iinc (v := (v5 + (1 : Int32))) (lv' := [(5, .int (v5 + (1 : Int32))), (4, .int (1 : Int32)), (0, .ref (ad 0)), (1, .int v1), (2, .int v2)]) hx hb dX11_thinks_123 hl (k := 4) rfl rfl (by decide) rfl (fun ls hl => ?_)
              refine lv_goto (tgt := 56) hx hb dX11_thinks_126 (by decide) ?_
              obtain rfl := Option.some.inj hf
              exact Kl1 _ rfl _ _ _ hW (lv_sub hl [2, 3, 4, 1, 0] rfl)
            · have hf := (if_neg c10).symm.trans hf
              refine lv_aload_n hx hb dX11_thinks_79 rfl (lv_at hl 0 rfl) ?_
              refine lv_iload_n hx hb dX11_thinks_80 rfl (lv_at hl 1 rfl) ?_
              refine lv_iload hx hb dX11_thinks_81 (lv_at hl 4 rfl) ?_
              obtain ⟨x83, h83, hf⟩ := bd_of hf
              refine r_callV (k := ((0, 0) : Ky)) C hW hl lk_X11_132 (c_X11_label h83) ⟨rfl, rfl⟩ ⟨Nat.le_of_ble_eq_true rfl, Nat.le_of_ble_eq_true rfl⟩ rfl rfl rfl (As := [.int v1, .int v5]) (rest := []) rfl rfl (Nat.le_of_ble_eq_true rfl) dX11_thinks_83 ⟨Nat.zero_le _, Nat.zero_le _⟩ (fun H locs hW => ?_)
              show W p l e (rmq 3 67) s m args below meth c H locs 0 0 Q (F0 m 86 ls [.int x83])
              refine lv_aload_n hx hb dX11_thinks_86 rfl (lv_at hl 0 rfl) ?_
              refine lv_iload_n hx hb dX11_thinks_87 rfl (lv_at hl 1 rfl) ?_
              refine lv_aload_n hx hb dX11_thinks_88 rfl (lv_at hl 0 rfl) ?_
              obtain ⟨x89, h89, hf⟩ := bd_of hf
              refine r_callV (k := ((0, 0) : Ky)) C hW hl lk_X11_121 (c_X11_here h89) ⟨rfl, rfl⟩ ⟨Nat.le_of_ble_eq_true rfl, Nat.le_of_ble_eq_true rfl⟩ rfl rfl rfl (As := []) (rest := [.int v1, .ref (ad 0), .int x83]) rfl rfl (Nat.le_of_ble_eq_true rfl) dX11_thinks_89 ⟨Nat.zero_le _, Nat.zero_le _⟩ (fun H locs hW => ?_)
              show W p l e (rmq 3 67) s m args below meth c H locs 0 0 Q (F0 m 92 ls [.int x89, .int v1, .ref (ad 0), .int x83])
              obtain ⟨x92, h92, hf⟩ := bd_of hf
              refine r_callV (k := ((0, 0) : Ky)) C hW hl lk_X11_132 (c_X11_label h92) ⟨rfl, rfl⟩ ⟨Nat.le_of_ble_eq_true rfl, Nat.le_of_ble_eq_true rfl⟩ rfl rfl rfl (As := [.int v1, .int x89]) (rest := [.int x83]) rfl rfl (Nat.le_of_ble_eq_true rfl) dX11_thinks_92 ⟨Nat.zero_le _, Nat.zero_le _⟩ (fun H locs hW => ?_)
              show W p l e (rmq 3 67) s m args below meth c H locs 0 0 Q (F0 m 95 ls [.int x92, .int x83])
              refine lv_icmp_ne (tgt := 116) hx hb dX11_thinks_95 (by decide) (fun c14 => ?_) (fun c14 => ?_)
              · have hf := (if_neg c14).symm.trans hf
                refine lv_iconst (v := 1) hx hb dX11_thinks_116 (by decide) ?_
                refine lv_goto (tgt := 121) hx hb dX11_thinks_117 (by decide) ?_
                refine lv_istore (lv' := [(4, .int (1 : Int32)), (0, .ref (ad 0)), (1, .int v1), (2, .int v2), (5, .int v5)]) hx hb dX11_thinks_121 hl (by decide) rfl (fun ls hl => ?_)
                refine lv_iinc (v := (v5 + (1 : Int32))) (lv' := [(5, .int (v5 + (1 : Int32))), (4, .int (1 : Int32)), (0, .ref (ad 0)), (1, .int v1), (2, .int v2)]) hx hb dX11_thinks_123 hl (k := 4) rfl rfl (by decide) rfl (fun ls hl => ?_)
                refine lv_goto (tgt := 56) hx hb dX11_thinks_126 (by decide) ?_
                obtain rfl := Option.some.inj hf
                exact Kl1 _ rfl _ _ _ hW (lv_sub hl [2, 3, 4, 1, 0] rfl)
              · have hf := (if_pos c14).symm.trans hf
                refine lv_aload_n hx hb dX11_thinks_98 rfl (lv_at hl 0 rfl) ?_
                refine gf_X11_30 C hW dX11_thinks_99 ?_
                refine lv_aload_n hx hb dX11_thinks_102 rfl (lv_at hl 0 rfl) ?_
                refine lv_iload_n hx hb dX11_thinks_103 rfl (lv_at hl 2 rfl) ?_
                refine lv_iload hx hb dX11_thinks_104 (lv_at hl 4 rfl) ?_
                obtain ⟨x106, h106, hf⟩ := bd_of hf
                refine r_callV (k := ((0, 0) : Ky)) C hW hl lk_X11_132 (c_X11_label h106) ⟨rfl, rfl⟩ ⟨Nat.le_of_ble_eq_true rfl, Nat.le_of_ble_eq_true rfl⟩ rfl rfl rfl (As := [.int v2, .int v5]) (rest := [.ref (ad 8)]) rfl rfl (Nat.le_of_ble_eq_true rfl) dX11_thinks_106 ⟨Nat.zero_le _, Nat.zero_le _⟩ (fun H locs hW => ?_)
                show W p l e (rmq 3 67) s m args below meth c H locs 0 0 Q (F0 m 109 ls [.int x106, .ref (ad 8)])
                obtain ⟨hi16, hf⟩ := ck_of hf
                refine r_iald (k := ((8, 0) : Ky)) (n := 512) C hW rfl rfl hi16 dX11_thinks_109 ?_
                obtain ⟨x110, h110, hf⟩ := bd_of hf
                refine r_callS C hW hl lk_X11_143 (c_X11_isOne h110) ⟨rfl, rfl⟩ ⟨Nat.le_of_ble_eq_true rfl, Nat.le_of_ble_eq_true rfl⟩ (As := [.int (μ (8, 0) x106.toNatClampNeg)]) (rest := []) rfl rfl (Nat.le_of_ble_eq_true rfl) dX11_thinks_110 ⟨Nat.zero_le _, Nat.zero_le _⟩ (fun H locs hW => ?_)
                show W p l e (rmq 3 67) s m args below meth c H locs 0 0 Q (F0 m 113 ls [.int x110])
                refine lv_if_eq (tgt := 120) hx hb dX11_thinks_113 (by decide) (fun c18 => ?_) (fun c18 => ?_)
                · have hf := (if_pos c18).symm.trans hf
                  refine lv_iconst (v := 0) hx hb dX11_thinks_120 (by decide) ?_
                  refine lv_istore (lv' := [(4, .int (0 : Int32)), (0, .ref (ad 0)), (1, .int v1), (2, .int v2), (5, .int v5)]) hx hb dX11_thinks_121 hl (by decide) rfl (fun ls hl => ?_)
                  refine lv_iinc (v := (v5 + (1 : Int32))) (lv' := [(5, .int (v5 + (1 : Int32))), (4, .int (0 : Int32)), (0, .ref (ad 0)), (1, .int v1), (2, .int v2)]) hx hb dX11_thinks_123 hl (k := 4) rfl rfl (by decide) rfl (fun ls hl => ?_)
                  refine lv_goto (tgt := 56) hx hb dX11_thinks_126 (by decide) ?_
                  obtain rfl := Option.some.inj hf
                  exact Kl1 _ rfl _ _ _ hW (lv_sub hl [2, 3, 4, 1, 0] rfl)
                · have hf := (if_neg c18).symm.trans hf
                  refine lv_iconst (v := 1) hx hb dX11_thinks_116 (by decide) ?_
                  refine lv_goto (tgt := 121) hx hb dX11_thinks_117 (by decide) ?_
                  refine lv_istore (lv' := [(4, .int (1 : Int32)), (0, .ref (ad 0)), (1, .int v1), (2, .int v2), (5, .int v5)]) hx hb dX11_thinks_121 hl (by decide) rfl (fun ls hl => ?_)
                  refine lv_iinc (v := (v5 + (1 : Int32))) (lv' := [(5, .int (v5 + (1 : Int32))), (4, .int (1 : Int32)), (0, .ref (ad 0)), (1, .int v1), (2, .int v2)]) hx hb dX11_thinks_123 hl (k := 4) rfl rfl (by decide) rfl (fun ls hl => ?_)
                  refine lv_goto (tgt := 56) hx hb dX11_thinks_126 (by decide) ?_
                  obtain rfl := Option.some.inj hf
                  exact Kl1 _ rfl _ _ _ hW (lv_sub hl [2, 3, 4, 1, 0] rfl)
      exact L56 x47 (1 : Int32) (0 : Int32) _ _ _ hf hW (lv_sub hl [2, 3, 4, 1, 0] rfl)
    · have hf := (if_neg c2).symm.trans hf
      refine lv_iconst (v := 0) hx hb dX11_thinks_42 (by decide) ?_
      obtain rfl := Option.some.inj hf
      rw [hQ]
      exact r_zret C hr hk hW (Or.inl rfl) rfl rfl dX11_thinks_43
  refine lv_aload_n hx hb dX11_thinks_0 rfl (lv_at hl 0 rfl) ?_
  refine lv_iconst (v := 0) hx hb dX11_thinks_1 (by decide) ?_
  refine pf_X11_3 C hW dX11_thinks_2 (fun H locs hW => ?_)
  refine lv_aload_n hx hb dX11_thinks_5 rfl (lv_at hl 0 rfl) ?_
  refine lv_aload_n hx hb dX11_thinks_6 rfl (lv_at hl 0 rfl) ?_
  refine lv_iload_n hx hb dX11_thinks_7 rfl (lv_at hl 1 rfl) ?_
  obtain ⟨x8, h8, hf⟩ := bd_of hf
  refine r_callV (k := ((0, 0) : Ky)) C hW hl lk_X11_359 (c_X11_noPerson h8) ⟨rfl, rfl⟩ ⟨Nat.le_of_ble_eq_true rfl, Nat.le_of_ble_eq_true rfl⟩ rfl rfl rfl (As := [.int v1]) (rest := [.ref (ad 0)]) rfl rfl (Nat.le_of_ble_eq_true rfl) dX11_thinks_8 ⟨Nat.zero_le _, Nat.zero_le _⟩ (fun H locs hW => ?_)
  show W p l e (rmq 3 67) s m args below meth c H locs 0 0 Q (F0 m 11 ls [.int x8, .ref (ad 0)])
  refine lv_if_ne (tgt := 30) hx hb dX11_thinks_11 (by decide) (fun c20 => ?_) (fun c20 => ?_)
  · have hf := (if_neg c20).symm.trans hf
    refine lv_iconst (v := 1) hx hb dX11_thinks_30 (by decide) ?_
    refine lv_goto (tgt := 35) hx hb dX11_thinks_31 (by decide) ?_
    exact J35 (mst μ (0, 0) 0 (0 : Int32)) (1 : Int32) _ _ _ hf hW (lv_sub hl [0, 1, 2, 3] rfl)
  · have hf := (if_pos c20).symm.trans hf
    refine lv_aload_n hx hb dX11_thinks_14 rfl (lv_at hl 0 rfl) ?_
    refine lv_iload_n hx hb dX11_thinks_15 rfl (lv_at hl 2 rfl) ?_
    obtain ⟨x16, h16, hf⟩ := bd_of hf
    refine r_callV (k := ((0, 0) : Ky)) C hW hl lk_X11_359 (c_X11_noPerson h16) ⟨rfl, rfl⟩ ⟨Nat.le_of_ble_eq_true rfl, Nat.le_of_ble_eq_true rfl⟩ rfl rfl rfl (As := [.int v2]) (rest := [.ref (ad 0)]) rfl rfl (Nat.le_of_ble_eq_true rfl) dX11_thinks_16 ⟨Nat.zero_le _, Nat.zero_le _⟩ (fun H locs hW => ?_)
    show W p l e (rmq 3 67) s m args below meth c H locs 0 0 Q (F0 m 19 ls [.int x16, .ref (ad 0)])
    refine lv_if_ne (tgt := 30) hx hb dX11_thinks_19 (by decide) (fun c22 => ?_) (fun c22 => ?_)
    · have hf := (if_neg c22).symm.trans hf
      refine lv_iconst (v := 1) hx hb dX11_thinks_30 (by decide) ?_
      refine lv_goto (tgt := 35) hx hb dX11_thinks_31 (by decide) ?_
      exact J35 (mst μ (0, 0) 0 (0 : Int32)) (1 : Int32) _ _ _ hf hW (lv_sub hl [0, 1, 2, 3] rfl)
    · have hf := (if_pos c22).symm.trans hf
      refine lv_aload_n hx hb dX11_thinks_22 rfl (lv_at hl 0 rfl) ?_
      refine lv_iload_n hx hb dX11_thinks_23 rfl (lv_at hl 3 rfl) ?_
      obtain ⟨x24, h24, hf⟩ := bd_of hf
      refine r_callV (k := ((0, 0) : Ky)) C hW hl lk_X11_359 (c_X11_noPerson h24) ⟨rfl, rfl⟩ ⟨Nat.le_of_ble_eq_true rfl, Nat.le_of_ble_eq_true rfl⟩ rfl rfl rfl (As := [.int v3]) (rest := [.ref (ad 0)]) rfl rfl (Nat.le_of_ble_eq_true rfl) dX11_thinks_24 ⟨Nat.zero_le _, Nat.zero_le _⟩ (fun H locs hW => ?_)
      show W p l e (rmq 3 67) s m args below meth c H locs 0 0 Q (F0 m 27 ls [.int x24, .ref (ad 0)])
      refine lv_if_eq (tgt := 34) hx hb dX11_thinks_27 (by decide) (fun c24 => ?_) (fun c24 => ?_)
      · have hf := (if_pos c24).symm.trans hf
        refine lv_iconst (v := 0) hx hb dX11_thinks_34 (by decide) ?_
        exact J35 (mst μ (0, 0) 0 (0 : Int32)) (0 : Int32) _ _ _ hf hW (lv_sub hl [0, 1, 2, 3] rfl)
      · have hf := (if_neg c24).symm.trans hf
        refine lv_iconst (v := 1) hx hb dX11_thinks_30 (by decide) ?_
        refine lv_goto (tgt := 35) hx hb dX11_thinks_31 (by decide) ?_
        exact J35 (mst μ (0, 0) 0 (0 : Int32)) (1 : Int32) _ _ _ hf hW (lv_sub hl [0, 1, 2, 3] rfl)
set_option maxHeartbeats 4000000 in
set_option maxRecDepth 100000 in
theorem c_X11_comes {l : Launch} {D : va_G} {tc : Nat → ClassId} {ro : Ro} {ad : Nat → Nat} {μ : Mm} {v1 : Int32} {res : Int32 × Mm} (hf : f_X11_comes μ v1 = some res) : Ct l D tc ro (faM ad) (feM tc ad) yX11_comes cX11_comes 4 (some .boolean) (rmq 1 22) [.ref (ad 0), .int v1] μ (some (.int res.1)) res.2 := by
  refine Ct.of (by decide) (Nat.le_of_ble_eq_true rfl) (fun p e s m args below meth c A C hr hk hW ls hl => ?_)
  have hx := C.1.1
  have hb := C.1.2.1
  obtain ⟨Q, hQ⟩ : ∃ Q, Q = MQ below (Ctq D (faM ad) (feM tc ad) (some (.int res.1)) res.2 A) args s 0 0 A := ⟨_, rfl⟩
  rw [← hQ]
  have hl : lv_has ls 4 [(0, .ref (ad 0)), (1, .int v1)] := hl
  unfold f_X11_comes at hf
  refine lv_iconst (v := 0) hx hb dX11_comes_0 (by decide) ?_
  refine lv_istore_n (lv' := [(2, .int (0 : Int32)), (0, .ref (ad 0)), (1, .int v1)]) hx hb dX11_comes_1 rfl hl (by decide) rfl (fun ls hl => ?_)
  have L2 : ∀ (μ : Mm) (v2 : Int32) (H : Heap) (locs : List Loc) (ls : Array Slot), Wh (fun z : Mm × Int32 => f_X11_comes_L2 v1 z.1 z.2) (μ, v2) = some res → Wd D (faM ad) (feM tc ad) A s.heap μ H locs → lv_has ls 4 [(0, .ref (ad 0)), (1, .int v1), (2, .int v2)] → W p l e (rmq 1 22) s m args below meth c H locs 0 0 Q (F0 m 2 ls []) := by
    intro μ v2 H locs ls hf hW hl
    refine Wh_rule hf (fun z : Mm × Int32 => ∀ (H : Heap) (locs : List Loc) (ls : Array Slot), Wd D (faM ad) (feM tc ad) A s.heap z.1 H locs → lv_has ls 4 [(0, .ref (ad 0)), (1, .int v1), (2, .int z.2)] → W p l e (rmq 1 22) s m args below meth c H locs 0 0 Q (F0 m 2 ls [])) (fun z o1 hf Kl1 Kr1 => ?_) _ _ _ hW hl
    obtain ⟨μ, v2⟩ := z
    intro H locs ls hW hl
    have hf : f_X11_comes_L2 v1 μ v2 = some o1 := hf
    unfold f_X11_comes_L2 at hf
    have hW : Wd D (faM ad) (feM tc ad) A s.heap μ H locs := hW
    have hl : lv_has ls 4 [(0, .ref (ad 0)), (1, .int v1), (2, .int v2)] := hl
    refine lv_iload_n hx hb dX11_comes_2 rfl (lv_at hl 2 rfl) ?_
    refine lv_sipush (v := 512) hx hb dX11_comes_3 (by decide) ?_
    refine lv_icmp_ge (tgt := 22) hx hb dX11_comes_6 (by decide) (fun c1 => ?_) (fun c1 => ?_)
    · have hf := (if_pos c1).symm.trans hf
      obtain ⟨x9021, hf, hx9021⟩ := map_of hf
      have e9021 := (Kr1 _ hx9021.symm).symm
      subst e9021
      refine lv_iconst (v := 0) hx hb dX11_comes_22 (by decide) ?_
      refine lv_istore_n (lv' := [(2, .int (0 : Int32)), (0, .ref (ad 0)), (1, .int v1)]) hx hb dX11_comes_23 rfl hl (by decide) rfl (fun ls hl => ?_)
      have L24 : ∀ (μ : Mm) (v2 : Int32) (H : Heap) (locs : List Loc) (ls : Array Slot), Wh (fun z : Mm × Int32 => f_X11_comes_L24 v1 z.1 z.2) (μ, v2) = some res → Wd D (faM ad) (feM tc ad) A s.heap μ H locs → lv_has ls 4 [(0, .ref (ad 0)), (1, .int v1), (2, .int v2)] → W p l e (rmq 1 22) s m args below meth c H locs 0 0 Q (F0 m 24 ls []) := by
        intro μ v2 H locs ls hf hW hl
        refine Wh_rule hf (fun z : Mm × Int32 => ∀ (H : Heap) (locs : List Loc) (ls : Array Slot), Wd D (faM ad) (feM tc ad) A s.heap z.1 H locs → lv_has ls 4 [(0, .ref (ad 0)), (1, .int v1), (2, .int z.2)] → W p l e (rmq 1 22) s m args below meth c H locs 0 0 Q (F0 m 24 ls [])) (fun z o1 hf Kl1 Kr1 => ?_) _ _ _ hW hl
        obtain ⟨μ, v2⟩ := z
        intro H locs ls hW hl
        have hf : f_X11_comes_L24 v1 μ v2 = some o1 := hf
        unfold f_X11_comes_L24 at hf
        have hW : Wd D (faM ad) (feM tc ad) A s.heap μ H locs := hW
        have hl : lv_has ls 4 [(0, .ref (ad 0)), (1, .int v1), (2, .int v2)] := hl
        refine lv_iload_n hx hb dX11_comes_24 rfl (lv_at hl 2 rfl) ?_
        refine lv_aload_n hx hb dX11_comes_25 rfl (lv_at hl 0 rfl) ?_
        obtain ⟨x26, h26, hf⟩ := bd_of hf
        refine r_callV (k := ((0, 0) : Ky)) C hW hl lk_X11_115 (c_X11_worlds h26) ⟨rfl, rfl⟩ ⟨Nat.le_of_ble_eq_true rfl, Nat.le_of_ble_eq_true rfl⟩ rfl rfl rfl (As := []) (rest := [.int v2]) rfl rfl (Nat.le_of_ble_eq_true rfl) dX11_comes_26 ⟨Nat.zero_le _, Nat.zero_le _⟩ (fun H locs hW => ?_)
        show W p l e (rmq 1 22) s m args below meth c H locs 0 0 Q (F0 m 29 ls [.int x26, .int v2])
        refine lv_icmp_ge (tgt := 59) hx hb dX11_comes_29 (by decide) (fun c3 => ?_) (fun c3 => ?_)
        · have hf := (if_pos c3).symm.trans hf
          obtain ⟨x9016, hf, hx9016⟩ := map_of hf
          have e9016 := (Kr1 _ hx9016.symm).symm
          subst e9016
          refine lv_iconst (v := 0) hx hb dX11_comes_59 (by decide) ?_
          refine lv_istore_n (lv' := [(2, .int (0 : Int32)), (0, .ref (ad 0)), (1, .int v1)]) hx hb dX11_comes_60 rfl hl (by decide) rfl (fun ls hl => ?_)
          refine lv_iconst (v := 0) hx hb dX11_comes_61 (by decide) ?_
          refine lv_istore_n (lv' := [(3, .int (0 : Int32)), (2, .int (0 : Int32)), (0, .ref (ad 0)), (1, .int v1)]) hx hb dX11_comes_62 rfl hl (by decide) rfl (fun ls hl => ?_)
          have L63 : ∀ (μ : Mm) (v2 v3 : Int32) (H : Heap) (locs : List Loc) (ls : Array Slot), Wh (fun z : Mm × Int32 × Int32 => f_X11_comes_L63 v1 z.1 z.2.1 z.2.2) (μ, v2, v3) = some res → Wd D (faM ad) (feM tc ad) A s.heap μ H locs → lv_has ls 4 [(0, .ref (ad 0)), (1, .int v1), (2, .int v2), (3, .int v3)] → W p l e (rmq 1 22) s m args below meth c H locs 0 0 Q (F0 m 63 ls []) := by
            intro μ v2 v3 H locs ls hf hW hl
            refine Wh_rule hf (fun z : Mm × Int32 × Int32 => ∀ (H : Heap) (locs : List Loc) (ls : Array Slot), Wd D (faM ad) (feM tc ad) A s.heap z.1 H locs → lv_has ls 4 [(0, .ref (ad 0)), (1, .int v1), (2, .int z.2.1), (3, .int z.2.2)] → W p l e (rmq 1 22) s m args below meth c H locs 0 0 Q (F0 m 63 ls [])) (fun z o1 hf Kl1 Kr1 => ?_) _ _ _ hW hl
            obtain ⟨μ, v2, v3⟩ := z
            intro H locs ls hW hl
            have hf : f_X11_comes_L63 v1 μ v2 v3 = some o1 := hf
            unfold f_X11_comes_L63 at hf
            have hW : Wd D (faM ad) (feM tc ad) A s.heap μ H locs := hW
            have hl : lv_has ls 4 [(0, .ref (ad 0)), (1, .int v1), (2, .int v2), (3, .int v3)] := hl
            refine lv_iload_n hx hb dX11_comes_63 rfl (lv_at hl 3 rfl) ?_
            refine lv_aload_n hx hb dX11_comes_64 rfl (lv_at hl 0 rfl) ?_
            obtain ⟨x65, h65, hf⟩ := bd_of hf
            refine r_callV (k := ((0, 0) : Ky)) C hW hl lk_X11_115 (c_X11_worlds h65) ⟨rfl, rfl⟩ ⟨Nat.le_of_ble_eq_true rfl, Nat.le_of_ble_eq_true rfl⟩ rfl rfl rfl (As := []) (rest := [.int v3]) rfl rfl (Nat.le_of_ble_eq_true rfl) dX11_comes_65 ⟨Nat.zero_le _, Nat.zero_le _⟩ (fun H locs hW => ?_)
            show W p l e (rmq 1 22) s m args below meth c H locs 0 0 Q (F0 m 68 ls [.int x65, .int v3])
            refine lv_icmp_ge (tgt := 120) hx hb dX11_comes_68 (by decide) (fun c5 => ?_) (fun c5 => ?_)
            · have hf := (if_pos c5).symm.trans hf
              obtain ⟨x9007, hf, hx9007⟩ := map_of hf
              have e9007 := (Kr1 _ hx9007.symm).symm
              subst e9007
              refine lv_iload_n hx hb dX11_comes_120 rfl (lv_at hl 2 rfl) ?_
              obtain ⟨hz6, hf⟩ := cb_of hf
              obtain rfl := Option.some.inj hf
              rw [hQ]
              exact r_zret C hr hk hW hz6 rfl rfl dX11_comes_121
            · have hf := (if_neg c5).symm.trans hf
              refine lv_aload_n hx hb dX11_comes_71 rfl (lv_at hl 0 rfl) ?_
              refine gf_X11_58 C hW dX11_comes_72 ?_
              refine lv_iload_n hx hb dX11_comes_75 rfl (lv_at hl 3 rfl) ?_
              obtain ⟨hi8, hf⟩ := ck_of hf
              refine r_zald (k := ((25, 0) : Ky)) (n := 512) C hW rfl rfl hi8 dX11_comes_76 ?_
              refine lv_if_ne (tgt := 114) hx hb dX11_comes_77 (by decide) (fun c9 => ?_) (fun c9 => ?_)
              · have hf := (if_neg c9).symm.trans hf
                refine lv_iinc (v := (v3 + (1 : Int32))) (lv' := [(3, .int (v3 + (1 : Int32))), (0, .ref (ad 0)), (1, .int v1), (2, .int v2)]) hx hb dX11_comes_114 hl (k := 3) rfl rfl (by decide) rfl (fun ls hl => ?_)
                refine lv_goto (tgt := 63) hx hb dX11_comes_117 (by decide) ?_
                obtain rfl := Option.some.inj hf
                exact Kl1 _ rfl _ _ _ hW (lv_sub hl [1, 2, 3, 0] rfl)
              · have hf := (if_pos c9).symm.trans hf
                refine lv_aload_n hx hb dX11_comes_80 rfl (lv_at hl 0 rfl) ?_
                refine lv_iload_n hx hb dX11_comes_81 rfl (lv_at hl 3 rfl) ?_
                obtain ⟨x82, h82, hf⟩ := bd_of hf
                refine r_callV (k := ((0, 0) : Ky)) C hW hl lk_X11_128 (c_X11_isLeft h82) ⟨rfl, rfl⟩ ⟨Nat.le_of_ble_eq_true rfl, Nat.le_of_ble_eq_true rfl⟩ rfl rfl rfl (As := [.int v3]) (rest := []) rfl rfl (Nat.le_of_ble_eq_true rfl) dX11_comes_82 ⟨Nat.zero_le _, Nat.zero_le _⟩ (fun H locs hW => ?_)
                show W p l e (rmq 1 22) s m args below meth c H locs 0 0 Q (F0 m 85 ls [.int x82])
                refine lv_if_eq (tgt := 114) hx hb dX11_comes_85 (by decide) (fun c11 => ?_) (fun c11 => ?_)
                · have hf := (if_pos c11).symm.trans hf
                  refine lv_iinc (v := (v3 + (1 : Int32))) (lv' := [(3, .int (v3 + (1 : Int32))), (0, .ref (ad 0)), (1, .int v1), (2, .int v2)]) hx hb dX11_comes_114 hl (k := 3) rfl rfl (by decide) rfl (fun ls hl => ?_)
                  refine lv_goto (tgt := 63) hx hb dX11_comes_117 (by decide) ?_
                  obtain rfl := Option.some.inj hf
                  exact Kl1 _ rfl _ _ _ hW (lv_sub hl [1, 2, 3, 0] rfl)
                · have hf := (if_neg c11).symm.trans hf
                  refine lv_aload_n hx hb dX11_comes_88 rfl (lv_at hl 0 rfl) ?_
                  refine gf_X11_62 C hW dX11_comes_89 ?_
                  refine lv_aload_n hx hb dX11_comes_92 rfl (lv_at hl 0 rfl) ?_
                  refine lv_iload_n hx hb dX11_comes_93 rfl (lv_at hl 1 rfl) ?_
                  refine lv_iload_n hx hb dX11_comes_94 rfl (lv_at hl 3 rfl) ?_
                  obtain ⟨x95, h95, hf⟩ := bd_of hf
                  refine r_callV (k := ((0, 0) : Ky)) C hW hl lk_X11_132 (c_X11_label h95) ⟨rfl, rfl⟩ ⟨Nat.le_of_ble_eq_true rfl, Nat.le_of_ble_eq_true rfl⟩ rfl rfl rfl (As := [.int v1, .int v3]) (rest := [.ref (ad 26)]) rfl rfl (Nat.le_of_ble_eq_true rfl) dX11_comes_95 ⟨Nat.zero_le _, Nat.zero_le _⟩ (fun H locs hW => ?_)
                  show W p l e (rmq 1 22) s m args below meth c H locs 0 0 Q (F0 m 98 ls [.int x95, .ref (ad 26)])
                  obtain ⟨hi13, hf⟩ := ck_of hf
                  refine r_zald (k := ((26, 0) : Ky)) (n := 512) C hW rfl rfl hi13 dX11_comes_98 ?_
                  refine lv_if_ne (tgt := 105) hx hb dX11_comes_99 (by decide) (fun c14 => ?_) (fun c14 => ?_)
                  · have hf := (if_neg c14).symm.trans hf
                    refine lv_aload_n hx hb dX11_comes_105 rfl (lv_at hl 0 rfl) ?_
                    refine gf_X11_58 C hW dX11_comes_106 ?_
                    refine lv_iload_n hx hb dX11_comes_109 rfl (lv_at hl 3 rfl) ?_
                    refine lv_iconst (v := 1) hx hb dX11_comes_110 (by decide) ?_
                    obtain ⟨hi15, hf⟩ := ck_of hf
                    refine r_zast (k := ((25, 0) : Ky)) (n := 512) C hW rfl (fun _ => rfl) hi15 dX11_comes_111 (fun H locs hW => ?_)
                    refine lv_iconst (v := 1) hx hb dX11_comes_112 (by decide) ?_
                    refine lv_istore_n (lv' := [(2, .int (1 : Int32)), (0, .ref (ad 0)), (1, .int v1), (3, .int v3)]) hx hb dX11_comes_113 rfl hl (by decide) rfl (fun ls hl => ?_)
                    refine lv_iinc (v := (v3 + (1 : Int32))) (lv' := [(3, .int (v3 + (1 : Int32))), (2, .int (1 : Int32)), (0, .ref (ad 0)), (1, .int v1)]) hx hb dX11_comes_114 hl (k := 3) rfl rfl (by decide) rfl (fun ls hl => ?_)
                    refine lv_goto (tgt := 63) hx hb dX11_comes_117 (by decide) ?_
                    obtain rfl := Option.some.inj hf
                    exact Kl1 _ rfl _ _ _ hW (lv_sub hl [2, 3, 1, 0] rfl)
                  · have hf := (if_pos c14).symm.trans hf
                    refine lv_goto (tgt := 114) hx hb dX11_comes_102 (by decide) ?_
                    refine lv_iinc (v := (v3 + (1 : Int32))) (lv' := [(3, .int (v3 + (1 : Int32))), (0, .ref (ad 0)), (1, .int v1), (2, .int v2)]) hx hb dX11_comes_114 hl (k := 3) rfl rfl (by decide) rfl (fun ls hl => ?_)
                    refine lv_goto (tgt := 63) hx hb dX11_comes_117 (by decide) ?_
                    obtain rfl := Option.some.inj hf
                    exact Kl1 _ rfl _ _ _ hW (lv_sub hl [1, 2, 3, 0] rfl)
          exact L63 μ (0 : Int32) (0 : Int32) _ _ _ hf hW (lv_sub hl [2, 3, 1, 0] rfl)
        · have hf := (if_neg c3).symm.trans hf
          refine lv_aload_n hx hb dX11_comes_32 rfl (lv_at hl 0 rfl) ?_
          refine gf_X11_58 C hW dX11_comes_33 ?_
          refine lv_iload_n hx hb dX11_comes_36 rfl (lv_at hl 2 rfl) ?_
          obtain ⟨hi17, hf⟩ := ck_of hf
          refine r_zald (k := ((25, 0) : Ky)) (n := 512) C hW rfl rfl hi17 dX11_comes_37 ?_
          refine lv_if_eq (tgt := 53) hx hb dX11_comes_38 (by decide) (fun c18 => ?_) (fun c18 => ?_)
          · have hf := (if_pos c18).symm.trans hf
            refine lv_iinc (v := (v2 + (1 : Int32))) (lv' := [(2, .int (v2 + (1 : Int32))), (0, .ref (ad 0)), (1, .int v1)]) hx hb dX11_comes_53 hl (k := 2) rfl rfl (by decide) rfl (fun ls hl => ?_)
            refine lv_goto (tgt := 24) hx hb dX11_comes_56 (by decide) ?_
            obtain rfl := Option.some.inj hf
            exact Kl1 _ rfl _ _ _ hW (lv_sub hl [1, 2, 0] rfl)
          · have hf := (if_neg c18).symm.trans hf
            refine lv_aload_n hx hb dX11_comes_41 rfl (lv_at hl 0 rfl) ?_
            refine gf_X11_62 C hW dX11_comes_42 ?_
            refine lv_aload_n hx hb dX11_comes_45 rfl (lv_at hl 0 rfl) ?_
            refine lv_iload_n hx hb dX11_comes_46 rfl (lv_at hl 1 rfl) ?_
            refine lv_iload_n hx hb dX11_comes_47 rfl (lv_at hl 2 rfl) ?_
            obtain ⟨x48, h48, hf⟩ := bd_of hf
            refine r_callV (k := ((0, 0) : Ky)) C hW hl lk_X11_132 (c_X11_label h48) ⟨rfl, rfl⟩ ⟨Nat.le_of_ble_eq_true rfl, Nat.le_of_ble_eq_true rfl⟩ rfl rfl rfl (As := [.int v1, .int v2]) (rest := [.ref (ad 26)]) rfl rfl (Nat.le_of_ble_eq_true rfl) dX11_comes_48 ⟨Nat.zero_le _, Nat.zero_le _⟩ (fun H locs hW => ?_)
            show W p l e (rmq 1 22) s m args below meth c H locs 0 0 Q (F0 m 51 ls [.int x48, .ref (ad 26)])
            refine lv_iconst (v := 1) hx hb dX11_comes_51 (by decide) ?_
            obtain ⟨hi20, hf⟩ := ck_of hf
            refine r_zast (k := ((26, 0) : Ky)) (n := 512) C hW rfl (fun _ => rfl) hi20 dX11_comes_52 (fun H locs hW => ?_)
            refine lv_iinc (v := (v2 + (1 : Int32))) (lv' := [(2, .int (v2 + (1 : Int32))), (0, .ref (ad 0)), (1, .int v1)]) hx hb dX11_comes_53 hl (k := 2) rfl rfl (by decide) rfl (fun ls hl => ?_)
            refine lv_goto (tgt := 24) hx hb dX11_comes_56 (by decide) ?_
            obtain rfl := Option.some.inj hf
            exact Kl1 _ rfl _ _ _ hW (lv_sub hl [1, 2, 0] rfl)
      exact L24 μ (0 : Int32) _ _ _ hf hW (lv_sub hl [1, 2, 0] rfl)
    · have hf := (if_neg c1).symm.trans hf
      refine lv_aload_n hx hb dX11_comes_9 rfl (lv_at hl 0 rfl) ?_
      refine gf_X11_62 C hW dX11_comes_10 ?_
      refine lv_iload_n hx hb dX11_comes_13 rfl (lv_at hl 2 rfl) ?_
      refine lv_iconst (v := 0) hx hb dX11_comes_14 (by decide) ?_
      obtain ⟨hi22, hf⟩ := ck_of hf
      refine r_zast (k := ((26, 0) : Ky)) (n := 512) C hW rfl (fun _ => rfl) hi22 dX11_comes_15 (fun H locs hW => ?_)
      refine lv_iinc (v := (v2 + (1 : Int32))) (lv' := [(2, .int (v2 + (1 : Int32))), (0, .ref (ad 0)), (1, .int v1)]) hx hb dX11_comes_16 hl (k := 2) rfl rfl (by decide) rfl (fun ls hl => ?_)
      refine lv_goto (tgt := 2) hx hb dX11_comes_19 (by decide) ?_
      obtain rfl := Option.some.inj hf
      exact Kl1 _ rfl _ _ _ hW (lv_sub hl [1, 2, 0] rfl)
  exact L2 μ (0 : Int32) _ _ _ hf hW (lv_sub hl [1, 2, 0] rfl)
