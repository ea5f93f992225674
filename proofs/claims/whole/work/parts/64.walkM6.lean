set_option maxHeartbeats 4000000 in
set_option maxRecDepth 100000 in
theorem c_X11_question {l : Launch} {D : va_G} {tc : Nat → ClassId} {ro : Ro} {ad : Nat → Nat} {μ : Mm} {v1 : Int32} {res : Int32 × Mm} (hf : f_X11_question μ v1 = some res) : Ct l D tc ro (faM ad) (feM tc ad) yX11_question cX11_question 2 (some .int) (rmq 6 138) [.ref (ad 0), .int v1] μ (some (.int res.1)) res.2 := by
  refine Ct.of (by decide) (Nat.le_of_ble_eq_true rfl) (fun p e s m args below meth c A C hr hk hW ls hl => ?_)
  have hx := C.1.1
  have hb := C.1.2.1
  obtain ⟨Q, hQ⟩ : ∃ Q, Q = MQ below (Ctq D (faM ad) (feM tc ad) (some (.int res.1)) res.2 A) args s 0 0 A := ⟨_, rfl⟩
  rw [← hQ]
  have hl : lv_has ls 2 [(0, .ref (ad 0)), (1, .int v1)] := hl
  unfold f_X11_question at hf
  refine lv_aload_n hx hb dX11_question_0 rfl (lv_at hl 0 rfl) ?_
  refine lv_iconst (v := 0) hx hb dX11_question_1 (by decide) ?_
  refine pf_X11_3 C hW dX11_question_2 (fun H locs hW => ?_)
  refine lv_aload_n hx hb dX11_question_5 rfl (lv_at hl 0 rfl) ?_
  refine lv_aload_n hx hb dX11_question_6 rfl (lv_at hl 0 rfl) ?_
  refine lv_iload_n hx hb dX11_question_7 rfl (lv_at hl 1 rfl) ?_
  obtain ⟨x8, h8, hf⟩ := bd_of hf
  refine r_callV (k := ((0, 0) : Ky)) C hW hl lk_X11_359 (c_X11_noPerson h8) ⟨rfl, rfl⟩ ⟨Nat.le_of_ble_eq_true rfl, Nat.le_of_ble_eq_true rfl⟩ rfl rfl rfl (As := [.int v1]) (rest := [.ref (ad 0)]) rfl rfl (Nat.le_of_ble_eq_true rfl) dX11_question_8 ⟨Nat.zero_le _, Nat.zero_le _⟩ (fun H locs hW => ?_)
  show W p l e (rmq 6 138) s m args below meth c H locs 0 0 Q (F0 m 11 ls [.int x8, .ref (ad 0)])
  refine lv_iconst (v := 1) hx hb dX11_question_11 (by decide) ?_
  obtain ⟨x12, h12, hf⟩ := bd_of hf
  refine r_callV (k := ((0, 0) : Ky)) C hW hl lk_X11_322 (c_X11_throwsIf h12) ⟨rfl, rfl⟩ ⟨Nat.le_of_ble_eq_true rfl, Nat.le_of_ble_eq_true rfl⟩ rfl rfl rfl (As := [.int x8, .int (1 : Int32)]) (rest := []) rfl rfl (Nat.le_of_ble_eq_true rfl) dX11_question_12 ⟨Nat.zero_le _, Nat.zero_le _⟩ (fun H locs hW => ?_)
  show W p l e (rmq 6 138) s m args below meth c H locs 0 0 Q (F0 m 15 ls [.int x12.1])
  refine lv_if_eq (tgt := 22) hx hb dX11_question_15 (by decide) (fun c3 => ?_) (fun c3 => ?_)
  · have hf := (if_pos c3).symm.trans hf
    refine lv_aload_n hx hb dX11_question_22 rfl (lv_at hl 0 rfl) ?_
    refine lv_iload_n hx hb dX11_question_23 rfl (lv_at hl 1 rfl) ?_
    obtain ⟨x24, h24, hf⟩ := bd_of hf
    refine r_callV (k := ((0, 0) : Ky)) C hW hl lk_X11_430 (c_X11_questionFor h24) ⟨rfl, rfl⟩ ⟨Nat.le_of_ble_eq_true rfl, Nat.le_of_ble_eq_true rfl⟩ rfl rfl rfl (As := [.int v1]) (rest := []) rfl rfl (Nat.le_of_ble_eq_true rfl) dX11_question_24 ⟨Nat.zero_le _, Nat.zero_le _⟩ (fun H locs hW => ?_)
    show W p l e (rmq 6 138) s m args below meth c H locs 0 0 Q (F0 m 27 ls [.int x24.1])
    obtain rfl := Option.some.inj hf
    rw [hQ]
    exact r_iret C hr hk hW rfl rfl dX11_question_27
  · have hf := (if_neg c3).symm.trans hf
    refine lv_iconst (v := 0) hx hb dX11_question_18 (by decide) ?_
    refine lv_goto (tgt := 27) hx hb dX11_question_19 (by decide) ?_
    obtain rfl := Option.some.inj hf
    rw [hQ]
    exact r_iret C hr hk hW rfl rfl dX11_question_27
set_option maxHeartbeats 4000000 in
set_option maxRecDepth 100000 in
theorem c_X11_queries {l : Launch} {D : va_G} {tc : Nat → ClassId} {ro : Ro} {ad : Nat → Nat} {μ : Mm} {v1 : Int32} {res : Int32 × Mm} (hf : f_X11_queries μ v1 = some res) : Ct l D tc ro (faM ad) (feM tc ad) yX11_queries cX11_queries 7 (some .int) (rmq 6 138) [.ref (ad 0), .int v1] μ (some (.int res.1)) res.2 := by
  refine Ct.of (by decide) (Nat.le_of_ble_eq_true rfl) (fun p e s m args below meth c A C hr hk hW ls hl => ?_)
  have hx := C.1.1
  have hb := C.1.2.1
  obtain ⟨Q, hQ⟩ : ∃ Q, Q = MQ below (Ctq D (faM ad) (feM tc ad) (some (.int res.1)) res.2 A) args s 0 0 A := ⟨_, rfl⟩
  rw [← hQ]
  have hl : lv_has ls 7 [(0, .ref (ad 0)), (1, .int v1)] := hl
  unfold f_X11_queries at hf
  refine lv_aload_n hx hb dX11_queries_0 rfl (lv_at hl 0 rfl) ?_
  refine lv_iconst (v := 0) hx hb dX11_queries_1 (by decide) ?_
  refine pf_X11_3 C hW dX11_queries_2 (fun H locs hW => ?_)
  refine lv_aload_n hx hb dX11_queries_5 rfl (lv_at hl 0 rfl) ?_
  refine lv_aload_n hx hb dX11_queries_6 rfl (lv_at hl 0 rfl) ?_
  refine lv_iload_n hx hb dX11_queries_7 rfl (lv_at hl 1 rfl) ?_
  obtain ⟨x8, h8, hf⟩ := bd_of hf
  refine r_callV (k := ((0, 0) : Ky)) C hW hl lk_X11_359 (c_X11_noPerson h8) ⟨rfl, rfl⟩ ⟨Nat.le_of_ble_eq_true rfl, Nat.le_of_ble_eq_true rfl⟩ rfl rfl rfl (As := [.int v1]) (rest := [.ref (ad 0)]) rfl rfl (Nat.le_of_ble_eq_true rfl) dX11_queries_8 ⟨Nat.zero_le _, Nat.zero_le _⟩ (fun H locs hW => ?_)
  show W p l e (rmq 6 138) s m args below meth c H locs 0 0 Q (F0 m 11 ls [.int x8, .ref (ad 0)])
  refine lv_iconst (v := 1) hx hb dX11_queries_11 (by decide) ?_
  obtain ⟨x12, h12, hf⟩ := bd_of hf
  refine r_callV (k := ((0, 0) : Ky)) C hW hl lk_X11_322 (c_X11_throwsIf h12) ⟨rfl, rfl⟩ ⟨Nat.le_of_ble_eq_true rfl, Nat.le_of_ble_eq_true rfl⟩ rfl rfl rfl (As := [.int x8, .int (1 : Int32)]) (rest := []) rfl rfl (Nat.le_of_ble_eq_true rfl) dX11_queries_12 ⟨Nat.zero_le _, Nat.zero_le _⟩ (fun H locs hW => ?_)
  show W p l e (rmq 6 138) s m args below meth c H locs 0 0 Q (F0 m 15 ls [.int x12.1])
  refine lv_if_eq (tgt := 20) hx hb dX11_queries_15 (by decide) (fun c3 => ?_) (fun c3 => ?_)
  · have hf := (if_pos c3).symm.trans hf
    refine lv_aload_n hx hb dX11_queries_20 rfl (lv_at hl 0 rfl) ?_
    obtain ⟨x21, h21, hf⟩ := bd_of hf
    refine r_callV (k := ((0, 0) : Ky)) C hW hl lk_X11_107 (c_X11_people h21) ⟨rfl, rfl⟩ ⟨Nat.le_of_ble_eq_true rfl, Nat.le_of_ble_eq_true rfl⟩ rfl rfl rfl (As := []) (rest := []) rfl rfl (Nat.le_of_ble_eq_true rfl) dX11_queries_21 ⟨Nat.zero_le _, Nat.zero_le _⟩ (fun H locs hW => ?_)
    show W p l e (rmq 6 138) s m args below meth c H locs 0 0 Q (F0 m 24 ls [.int x21])
    refine lv_bipush (v := 6) hx hb dX11_queries_24 (by decide) ?_
    refine lv_icmp_le (tgt := 32) hx hb dX11_queries_26 (by decide) (fun c5 => ?_) (fun c5 => ?_)
    · have hf := (if_pos c5).symm.trans hf
      refine lv_aload_n hx hb dX11_queries_32 rfl (lv_at hl 0 rfl) ?_
      refine lv_iload_n hx hb dX11_queries_33 rfl (lv_at hl 1 rfl) ?_
      refine lv_aload_n hx hb dX11_queries_34 rfl (lv_at hl 0 rfl) ?_
      obtain ⟨x35, h35, hf⟩ := bd_of hf
      refine r_callV (k := ((0, 0) : Ky)) C hW hl lk_X11_121 (c_X11_here h35) ⟨rfl, rfl⟩ ⟨Nat.le_of_ble_eq_true rfl, Nat.le_of_ble_eq_true rfl⟩ rfl rfl rfl (As := []) (rest := [.int v1, .ref (ad 0)]) rfl rfl (Nat.le_of_ble_eq_true rfl) dX11_queries_35 ⟨Nat.zero_le _, Nat.zero_le _⟩ (fun H locs hW => ?_)
      show W p l e (rmq 6 138) s m args below meth c H locs 0 0 Q (F0 m 38 ls [.int x35, .int v1, .ref (ad 0)])
      obtain ⟨x38, h38, hf⟩ := bd_of hf
      refine r_callV (k := ((0, 0) : Ky)) C hW hl lk_X11_146 (c_X11_isSure h38) ⟨rfl, rfl⟩ ⟨Nat.le_of_ble_eq_true rfl, Nat.le_of_ble_eq_true rfl⟩ rfl rfl rfl (As := [.int v1, .int x35]) (rest := []) rfl rfl (Nat.le_of_ble_eq_true rfl) dX11_queries_38 ⟨Nat.zero_le _, Nat.zero_le _⟩ (fun H locs hW => ?_)
      show W p l e (rmq 6 138) s m args below meth c H locs 0 0 Q (F0 m 41 ls [.int x38.1])
      refine lv_if_eq (tgt := 46) hx hb dX11_queries_41 (by decide) (fun c8 => ?_) (fun c8 => ?_)
      · have hf := (if_pos c8).symm.trans hf
        refine lv_aload_n hx hb dX11_queries_46 rfl (lv_at hl 0 rfl) ?_
        refine lv_iload_n hx hb dX11_queries_47 rfl (lv_at hl 1 rfl) ?_
        obtain ⟨x48, h48, hf⟩ := bd_of hf
        refine r_callV (k := ((0, 0) : Ky)) C hW hl lk_X11_430 (c_X11_questionFor h48) ⟨rfl, rfl⟩ ⟨Nat.le_of_ble_eq_true rfl, Nat.le_of_ble_eq_true rfl⟩ rfl rfl rfl (As := [.int v1]) (rest := []) rfl rfl (Nat.le_of_ble_eq_true rfl) dX11_queries_48 ⟨Nat.zero_le _, Nat.zero_le _⟩ (fun H locs hW => ?_)
        show W p l e (rmq 6 138) s m args below meth c H locs 0 0 Q (F0 m 51 ls [.int x48.1])
        refine lv_if_lt (tgt := 56) hx hb dX11_queries_51 (by decide) (fun c10 => ?_) (fun c10 => ?_)
        · have hf := (if_pos c10).symm.trans hf
          refine lv_iconst (v := 0) hx hb dX11_queries_56 (by decide) ?_
          refine lv_istore_n (lv' := [(2, .int (0 : Int32)), (0, .ref (ad 0)), (1, .int v1)]) hx hb dX11_queries_57 rfl hl (by decide) rfl (fun ls hl => ?_)
          have L58 : ∀ (μ : Mm) (v2 : Int32) (H : Heap) (locs : List Loc) (ls : Array Slot), Wh (fun z : Mm × Int32 => f_X11_queries_L58 v1 z.1 z.2) (μ, v2) = some res → Wd D (faM ad) (feM tc ad) A s.heap μ H locs → lv_has ls 7 [(0, .ref (ad 0)), (1, .int v1), (2, .int v2)] → W p l e (rmq 6 138) s m args below meth c H locs 0 0 Q (F0 m 58 ls []) := by
            intro μ v2 H locs ls hf hW hl
            refine Wh_rule hf (fun z : Mm × Int32 => ∀ (H : Heap) (locs : List Loc) (ls : Array Slot), Wd D (faM ad) (feM tc ad) A s.heap z.1 H locs → lv_has ls 7 [(0, .ref (ad 0)), (1, .int v1), (2, .int z.2)] → W p l e (rmq 6 138) s m args below meth c H locs 0 0 Q (F0 m 58 ls [])) (fun z o1 hf Kl1 Kr1 => ?_) _ _ _ hW hl
            obtain ⟨μ, v2⟩ := z
            intro H locs ls hW hl
            have hf : f_X11_queries_L58 v1 μ v2 = some o1 := hf
            unfold f_X11_queries_L58 at hf
            have hW : Wd D (faM ad) (feM tc ad) A s.heap μ H locs := hW
            have hl : lv_has ls 7 [(0, .ref (ad 0)), (1, .int v1), (2, .int v2)] := hl
            refine lv_iload_n hx hb dX11_queries_58 rfl (lv_at hl 2 rfl) ?_
            refine lv_sipush (v := 512) hx hb dX11_queries_59 (by decide) ?_
            refine lv_icmp_ge (tgt := 86) hx hb dX11_queries_62 (by decide) (fun c11 => ?_) (fun c11 => ?_)
            · have hf := (if_pos c11).symm.trans hf
              obtain ⟨x9039, hf, hx9039⟩ := map_of hf
              have e9039 := (Kr1 _ hx9039.symm).symm
              subst e9039
              refine lv_iconst (v := 0) hx hb dX11_queries_86 (by decide) ?_
              refine lv_istore_n (lv' := [(2, .int (0 : Int32)), (0, .ref (ad 0)), (1, .int v1)]) hx hb dX11_queries_87 rfl hl (by decide) rfl (fun ls hl => ?_)
              refine lv_iconst (v := 0) hx hb dX11_queries_88 (by decide) ?_
              refine lv_istore_n (lv' := [(3, .int (0 : Int32)), (2, .int (0 : Int32)), (0, .ref (ad 0)), (1, .int v1)]) hx hb dX11_queries_89 rfl hl (by decide) rfl (fun ls hl => ?_)
              have L90 : ∀ (μ : Mm) (v2 v3 : Int32) (H : Heap) (locs : List Loc) (ls : Array Slot), Wh (fun z : Mm × Int32 × Int32 => f_X11_queries_L90 v1 z.1 z.2.1 z.2.2) (μ, v2, v3) = some res → Wd D (faM ad) (feM tc ad) A s.heap μ H locs → lv_has ls 7 [(0, .ref (ad 0)), (1, .int v1), (2, .int v2), (3, .int v3)] → W p l e (rmq 6 138) s m args below meth c H locs 0 0 Q (F0 m 90 ls []) := by
                intro μ v2 v3 H locs ls hf hW hl
                refine Wh_rule hf (fun z : Mm × Int32 × Int32 => ∀ (H : Heap) (locs : List Loc) (ls : Array Slot), Wd D (faM ad) (feM tc ad) A s.heap z.1 H locs → lv_has ls 7 [(0, .ref (ad 0)), (1, .int v1), (2, .int z.2.1), (3, .int z.2.2)] → W p l e (rmq 6 138) s m args below meth c H locs 0 0 Q (F0 m 90 ls [])) (fun z o1 hf Kl1 Kr1 => ?_) _ _ _ hW hl
                obtain ⟨μ, v2, v3⟩ := z
                intro H locs ls hW hl
                have hf : f_X11_queries_L90 v1 μ v2 v3 = some o1 := hf
                unfold f_X11_queries_L90 at hf
                have hW : Wd D (faM ad) (feM tc ad) A s.heap μ H locs := hW
                have hl : lv_has ls 7 [(0, .ref (ad 0)), (1, .int v1), (2, .int v2), (3, .int v3)] := hl
                refine lv_iload_n hx hb dX11_queries_90 rfl (lv_at hl 3 rfl) ?_
                refine lv_aload_n hx hb dX11_queries_91 rfl (lv_at hl 0 rfl) ?_
                obtain ⟨x92, h92, hf⟩ := bd_of hf
                refine r_callV (k := ((0, 0) : Ky)) C hW hl lk_X11_107 (c_X11_people h92) ⟨rfl, rfl⟩ ⟨Nat.le_of_ble_eq_true rfl, Nat.le_of_ble_eq_true rfl⟩ rfl rfl rfl (As := []) (rest := [.int v3]) rfl rfl (Nat.le_of_ble_eq_true rfl) dX11_queries_92 ⟨Nat.zero_le _, Nat.zero_le _⟩ (fun H locs hW => ?_)
                show W p l e (rmq 6 138) s m args below meth c H locs 0 0 Q (F0 m 95 ls [.int x92, .int v3])
                refine lv_icmp_ge (tgt := 227) hx hb dX11_queries_95 (by decide) (fun c13 => ?_) (fun c13 => ?_)
                · have hf := (if_pos c13).symm.trans hf
                  obtain ⟨x9015, hf, hx9015⟩ := map_of hf
                  have e9015 := (Kr1 _ hx9015.symm).symm
                  subst e9015
                  refine lv_iload_n hx hb dX11_queries_227 rfl (lv_at hl 2 rfl) ?_
                  refine lv_if_eq (tgt := 235) hx hb dX11_queries_228 (by decide) (fun c14 => ?_) (fun c14 => ?_)
                  · have hf := (if_pos c14).symm.trans hf
                    refine lv_iconst (v := -1) hx hb dX11_queries_235 (by decide) ?_
                    obtain rfl := Option.some.inj hf
                    rw [hQ]
                    exact r_iret C hr hk hW rfl rfl dX11_queries_236
                  · have hf := (if_neg c14).symm.trans hf
                    refine lv_iconst (v := 2) hx hb dX11_queries_231 (by decide) ?_
                    refine lv_goto (tgt := 236) hx hb dX11_queries_232 (by decide) ?_
                    obtain rfl := Option.some.inj hf
                    rw [hQ]
                    exact r_iret C hr hk hW rfl rfl dX11_queries_236
                · have hf := (if_neg c13).symm.trans hf
                  refine lv_iload_n hx hb dX11_queries_98 rfl (lv_at hl 2 rfl) ?_
                  refine lv_if_ne (tgt := 227) hx hb dX11_queries_99 (by decide) (fun c16 => ?_) (fun c16 => ?_)
                  · have hf := (if_neg c16).symm.trans hf
                    obtain ⟨x9018, hf, hx9018⟩ := map_of hf
                    have e9018 := (Kr1 _ hx9018.symm).symm
                    subst e9018
                    refine lv_iload_n hx hb dX11_queries_227 rfl (lv_at hl 2 rfl) ?_
                    refine lv_if_eq (tgt := 235) hx hb dX11_queries_228 (by decide) (fun c17 => ?_) (fun c17 => ?_)
                    · have hf := (if_pos c17).symm.trans hf
                      refine lv_iconst (v := -1) hx hb dX11_queries_235 (by decide) ?_
                      obtain rfl := Option.some.inj hf
                      rw [hQ]
                      exact r_iret C hr hk hW rfl rfl dX11_queries_236
                    · have hf := (if_neg c17).symm.trans hf
                      refine lv_iconst (v := 2) hx hb dX11_queries_231 (by decide) ?_
                      refine lv_goto (tgt := 236) hx hb dX11_queries_232 (by decide) ?_
                      obtain rfl := Option.some.inj hf
                      rw [hQ]
                      exact r_iret C hr hk hW rfl rfl dX11_queries_236
                  · have hf := (if_pos c16).symm.trans hf
                    refine lv_iconst (v := 0) hx hb dX11_queries_102 (by decide) ?_
                    refine lv_istore (lv' := [(4, .int (0 : Int32)), (0, .ref (ad 0)), (1, .int v1), (2, .int v2), (3, .int v3)]) hx hb dX11_queries_103 hl (by decide) rfl (fun ls hl => ?_)
                    have L105 : ∀ (μ : Mm) (v2 v3 v4 : Int32) (H : Heap) (locs : List Loc) (ls : Array Slot), Wh (fun z : Mm × Int32 × Int32 => f_X11_queries_L105 v1 v3 z.1 z.2.1 z.2.2) (μ, v2, v4) = some o1 → Wd D (faM ad) (feM tc ad) A s.heap μ H locs → lv_has ls 7 [(0, .ref (ad 0)), (1, .int v1), (2, .int v2), (3, .int v3), (4, .int v4)] → W p l e (rmq 6 138) s m args below meth c H locs 0 0 Q (F0 m 105 ls []) := by
                      intro μ v2 v3 v4 H locs ls hf hW hl
                      refine Wh_rule hf (fun z : Mm × Int32 × Int32 => ∀ (H : Heap) (locs : List Loc) (ls : Array Slot), Wd D (faM ad) (feM tc ad) A s.heap z.1 H locs → lv_has ls 7 [(0, .ref (ad 0)), (1, .int v1), (2, .int z.2.1), (3, .int v3), (4, .int z.2.2)] → W p l e (rmq 6 138) s m args below meth c H locs 0 0 Q (F0 m 105 ls [])) (fun z o2 hf Kl2 Kr2 => ?_) _ _ _ hW hl
                      obtain ⟨μ, v2, v4⟩ := z
                      intro H locs ls hW hl
                      have hf : f_X11_queries_L105 v1 v3 μ v2 v4 = some o2 := hf
                      unfold f_X11_queries_L105 at hf
                      have hW : Wd D (faM ad) (feM tc ad) A s.heap μ H locs := hW
                      have hl : lv_has ls 7 [(0, .ref (ad 0)), (1, .int v1), (2, .int v2), (3, .int v3), (4, .int v4)] := hl
                      refine lv_iload hx hb dX11_queries_105 (lv_at hl 4 rfl) ?_
                      refine lv_aload_n hx hb dX11_queries_107 rfl (lv_at hl 0 rfl) ?_
                      obtain ⟨x108, h108, hf⟩ := bd_of hf
                      refine r_callV (k := ((0, 0) : Ky)) C hW hl lk_X11_107 (c_X11_people h108) ⟨rfl, rfl⟩ ⟨Nat.le_of_ble_eq_true rfl, Nat.le_of_ble_eq_true rfl⟩ rfl rfl rfl (As := []) (rest := [.int v4]) rfl rfl (Nat.le_of_ble_eq_true rfl) dX11_queries_108 ⟨Nat.zero_le _, Nat.zero_le _⟩ (fun H locs hW => ?_)
                      show W p l e (rmq 6 138) s m args below meth c H locs 0 0 Q (F0 m 111 ls [.int x108, .int v4])
                      refine lv_icmp_ge (tgt := 221) hx hb dX11_queries_111 (by decide) (fun c20 => ?_) (fun c20 => ?_)
                      · have hf := (if_pos c20).symm.trans hf
                        obtain ⟨x9021, hf, hx9021⟩ := map_of hf
                        have e9021 := (Kr2 _ hx9021.symm).symm
                        subst e9021
                        refine lv_iinc (v := (v3 + (1 : Int32))) (lv' := [(3, .int (v3 + (1 : Int32))), (0, .ref (ad 0)), (1, .int v1), (2, .int v2), (4, .int v4)]) hx hb dX11_queries_221 hl (k := 3) rfl rfl (by decide) rfl (fun ls hl => ?_)
                        refine lv_goto (tgt := 90) hx hb dX11_queries_224 (by decide) ?_
                        obtain rfl := Option.some.inj hf
                        exact Kl1 _ rfl _ _ _ hW (lv_sub hl [1, 2, 3, 0] rfl)
                      · have hf := (if_neg c20).symm.trans hf
                        refine lv_iload_n hx hb dX11_queries_114 rfl (lv_at hl 2 rfl) ?_
                        refine lv_if_ne (tgt := 221) hx hb dX11_queries_115 (by decide) (fun c22 => ?_) (fun c22 => ?_)
                        · have hf := (if_neg c22).symm.trans hf
                          obtain ⟨x9023, hf, hx9023⟩ := map_of hf
                          have e9023 := (Kr2 _ hx9023.symm).symm
                          subst e9023
                          refine lv_iinc (v := (v3 + (1 : Int32))) (lv' := [(3, .int (v3 + (1 : Int32))), (0, .ref (ad 0)), (1, .int v1), (2, .int v2), (4, .int v4)]) hx hb dX11_queries_221 hl (k := 3) rfl rfl (by decide) rfl (fun ls hl => ?_)
                          refine lv_goto (tgt := 90) hx hb dX11_queries_224 (by decide) ?_
                          obtain rfl := Option.some.inj hf
                          exact Kl1 _ rfl _ _ _ hW (lv_sub hl [1, 2, 3, 0] rfl)
                        · have hf := (if_pos c22).symm.trans hf
                          refine lv_iconst (v := 0) hx hb dX11_queries_118 (by decide) ?_
                          refine lv_istore (lv' := [(5, .int (0 : Int32)), (0, .ref (ad 0)), (1, .int v1), (2, .int v2), (3, .int v3), (4, .int v4)]) hx hb dX11_queries_119 hl (by decide) rfl (fun ls hl => ?_)
                          have L121 : ∀ (μ : Mm) (v2 v4 v5 : Int32) (H : Heap) (locs : List Loc) (ls : Array Slot), Wh (fun z : Mm × Int32 × Int32 => f_X11_queries_L121 v1 v3 v4 z.1 z.2.1 z.2.2) (μ, v2, v5) = some o2 → Wd D (faM ad) (feM tc ad) A s.heap μ H locs → lv_has ls 7 [(0, .ref (ad 0)), (1, .int v1), (2, .int v2), (3, .int v3), (4, .int v4), (5, .int v5)] → W p l e (rmq 6 138) s m args below meth c H locs 0 0 Q (F0 m 121 ls []) := by
                            intro μ v2 v4 v5 H locs ls hf hW hl
                            refine Wh_rule hf (fun z : Mm × Int32 × Int32 => ∀ (H : Heap) (locs : List Loc) (ls : Array Slot), Wd D (faM ad) (feM tc ad) A s.heap z.1 H locs → lv_has ls 7 [(0, .ref (ad 0)), (1, .int v1), (2, .int z.2.1), (3, .int v3), (4, .int v4), (5, .int z.2.2)] → W p l e (rmq 6 138) s m args below meth c H locs 0 0 Q (F0 m 121 ls [])) (fun z o3 hf Kl3 Kr3 => ?_) _ _ _ hW hl
                            obtain ⟨μ, v2, v5⟩ := z
                            intro H locs ls hW hl
                            have hf : f_X11_queries_L121 v1 v3 v4 μ v2 v5 = some o3 := hf
                            unfold f_X11_queries_L121 at hf
                            have hW : Wd D (faM ad) (feM tc ad) A s.heap μ H locs := hW
                            have hl : lv_has ls 7 [(0, .ref (ad 0)), (1, .int v1), (2, .int v2), (3, .int v3), (4, .int v4), (5, .int v5)] := hl
                            have J174 : ∀ (μ : Mm) (v5 s0 : Int32) (H : Heap) (locs : List Loc) (ls : Array Slot), f_X11_queries_J174 μ v1 v3 v4 v5 s0 = some o3 → Wd D (faM ad) (feM tc ad) A s.heap μ H locs → lv_has ls 7 [(0, .ref (ad 0)), (1, .int v1), (3, .int v3), (4, .int v4), (5, .int v5)] → W p l e (rmq 6 138) s m args below meth c H locs 0 0 Q (F0 m 174 ls [.int s0]) := by
                              intro μ v5 s0 H locs ls hf hW hl
                              unfold f_X11_queries_J174 at hf
                              refine lv_istore_n (lv' := [(2, .int s0), (0, .ref (ad 0)), (1, .int v1), (3, .int v3), (4, .int v4), (5, .int v5)]) hx hb dX11_queries_174 rfl hl (by decide) rfl (fun ls hl => ?_)
                              refine lv_iconst (v := 0) hx hb dX11_queries_175 (by decide) ?_
                              refine lv_istore (lv' := [(6, .int (0 : Int32)), (2, .int s0), (0, .ref (ad 0)), (1, .int v1), (3, .int v3), (4, .int v4), (5, .int v5)]) hx hb dX11_queries_176 hl (by decide) rfl (fun ls hl => ?_)
                              have L178 : ∀ (μ : Mm) (v2 v5 v6 : Int32) (H : Heap) (locs : List Loc) (ls : Array Slot), Wh (fun z : Mm × Int32 => f_X11_queries_L178 v1 v2 v3 v4 v5 z.1 z.2) (μ, v6) = some o3 → Wd D (faM ad) (feM tc ad) A s.heap μ H locs → lv_has ls 7 [(0, .ref (ad 0)), (1, .int v1), (2, .int v2), (3, .int v3), (4, .int v4), (5, .int v5), (6, .int v6)] → W p l e (rmq 6 138) s m args below meth c H locs 0 0 Q (F0 m 178 ls []) := by
                                intro μ v2 v5 v6 H locs ls hf hW hl
                                refine Wh_rule hf (fun z : Mm × Int32 => ∀ (H : Heap) (locs : List Loc) (ls : Array Slot), Wd D (faM ad) (feM tc ad) A s.heap z.1 H locs → lv_has ls 7 [(0, .ref (ad 0)), (1, .int v1), (2, .int v2), (3, .int v3), (4, .int v4), (5, .int v5), (6, .int z.2)] → W p l e (rmq 6 138) s m args below meth c H locs 0 0 Q (F0 m 178 ls [])) (fun z o4 hf Kl4 Kr4 => ?_) _ _ _ hW hl
                                obtain ⟨μ, v6⟩ := z
                                intro H locs ls hW hl
                                have hf : f_X11_queries_L178 v1 v2 v3 v4 v5 μ v6 = some o4 := hf
                                unfold f_X11_queries_L178 at hf
                                have hW : Wd D (faM ad) (feM tc ad) A s.heap μ H locs := hW
                                have hl : lv_has ls 7 [(0, .ref (ad 0)), (1, .int v1), (2, .int v2), (3, .int v3), (4, .int v4), (5, .int v5), (6, .int v6)] := hl
                                refine lv_iload hx hb dX11_queries_178 (lv_at hl 6 rfl) ?_
                                refine lv_sipush (v := 512) hx hb dX11_queries_180 (by decide) ?_
                                refine lv_icmp_ge (tgt := 209) hx hb dX11_queries_183 (by decide) (fun c24 => ?_) (fun c24 => ?_)
                                · have hf := (if_pos c24).symm.trans hf
                                  obtain ⟨x9025, hf, hx9025⟩ := map_of hf
                                  have e9025 := (Kr4 _ hx9025.symm).symm
                                  subst e9025
                                  refine lv_iinc (v := (v5 + (1 : Int32))) (lv' := [(5, .int (v5 + (1 : Int32))), (0, .ref (ad 0)), (1, .int v1), (2, .int v2), (3, .int v3), (4, .int v4), (6, .int v6)]) hx hb dX11_queries_209 hl (k := 5) rfl rfl (by decide) rfl (fun ls hl => ?_)
                                  refine lv_goto (tgt := 121) hx hb dX11_queries_212 (by decide) ?_
                                  obtain rfl := Option.some.inj hf
                                  exact Kl3 _ rfl _ _ _ hW (lv_sub hl [1, 2, 3, 4, 5, 0] rfl)
                                · have hf := (if_neg c24).symm.trans hf
                                  refine lv_aload_n hx hb dX11_queries_186 rfl (lv_at hl 0 rfl) ?_
                                  refine gf_X11_13 C hW dX11_queries_187 ?_
                                  refine lv_bipush (v := 20) hx hb dX11_queries_190 (by decide) ?_
                                  refine lv_iload hx hb dX11_queries_192 (lv_at hl 6 rfl) ?_
                                  refine lv_iadd hx hb dX11_queries_194 ?_
                                  refine lv_aload_n hx hb dX11_queries_195 rfl (lv_at hl 0 rfl) ?_
                                  refine gf_X11_68 C hW dX11_queries_196 ?_
                                  refine lv_iload hx hb dX11_queries_199 (lv_at hl 6 rfl) ?_
                                  obtain ⟨hi26, hf⟩ := ck_of hf
                                  refine r_iald (k := ((28, 0) : Ky)) (n := 512) C hW rfl rfl hi26 dX11_queries_201 ?_
                                  obtain ⟨hi27, hf⟩ := ck_of hf
                                  refine r_iast (k := ((1, 0) : Ky)) (n := 7114) C hW rfl (fun _ => rfl) hi27 dX11_queries_202 (fun H locs hW => ?_)
                                  refine lv_iinc (v := (v6 + (1 : Int32))) (lv' := [(6, .int (v6 + (1 : Int32))), (0, .ref (ad 0)), (1, .int v1), (2, .int v2), (3, .int v3), (4, .int v4), (5, .int v5)]) hx hb dX11_queries_203 hl (k := 6) rfl rfl (by decide) rfl (fun ls hl => ?_)
                                  refine lv_goto (tgt := 178) hx hb dX11_queries_206 (by decide) ?_
                                  obtain rfl := Option.some.inj hf
                                  exact Kl4 _ rfl _ _ _ hW (lv_sub hl [1, 2, 3, 4, 5, 6, 0] rfl)
                              exact L178 μ s0 v5 (0 : Int32) _ _ _ hf hW (lv_sub hl [2, 3, 1, 4, 5, 6, 0] rfl)
                            refine lv_iload hx hb dX11_queries_121 (lv_at hl 5 rfl) ?_
                            refine lv_aload_n hx hb dX11_queries_123 rfl (lv_at hl 0 rfl) ?_
                            obtain ⟨x124, h124, hf⟩ := bd_of hf
                            refine r_callV (k := ((0, 0) : Ky)) C hW hl lk_X11_118 (c_X11_values h124) ⟨rfl, rfl⟩ ⟨Nat.le_of_ble_eq_true rfl, Nat.le_of_ble_eq_true rfl⟩ rfl rfl rfl (As := []) (rest := [.int v5]) rfl rfl (Nat.le_of_ble_eq_true rfl) dX11_queries_124 ⟨Nat.zero_le _, Nat.zero_le _⟩ (fun H locs hW => ?_)
                            show W p l e (rmq 6 138) s m args below meth c H locs 0 0 Q (F0 m 127 ls [.int x124, .int v5])
                            refine lv_icmp_ge (tgt := 215) hx hb dX11_queries_127 (by decide) (fun c29 => ?_) (fun c29 => ?_)
                            · have hf := (if_pos c29).symm.trans hf
                              obtain ⟨x9030, hf, hx9030⟩ := map_of hf
                              have e9030 := (Kr3 _ hx9030.symm).symm
                              subst e9030
                              refine lv_iinc (v := (v4 + (1 : Int32))) (lv' := [(4, .int (v4 + (1 : Int32))), (0, .ref (ad 0)), (1, .int v1), (2, .int v2), (3, .int v3), (5, .int v5)]) hx hb dX11_queries_215 hl (k := 4) rfl rfl (by decide) rfl (fun ls hl => ?_)
                              refine lv_goto (tgt := 105) hx hb dX11_queries_218 (by decide) ?_
                              obtain rfl := Option.some.inj hf
                              exact Kl2 _ rfl _ _ _ hW (lv_sub hl [1, 2, 3, 4, 0] rfl)
                            · have hf := (if_neg c29).symm.trans hf
                              refine lv_iload_n hx hb dX11_queries_130 rfl (lv_at hl 2 rfl) ?_
                              refine lv_if_ne (tgt := 215) hx hb dX11_queries_131 (by decide) (fun c31 => ?_) (fun c31 => ?_)
                              · have hf := (if_neg c31).symm.trans hf
                                obtain ⟨x9032, hf, hx9032⟩ := map_of hf
                                have e9032 := (Kr3 _ hx9032.symm).symm
                                subst e9032
                                refine lv_iinc (v := (v4 + (1 : Int32))) (lv' := [(4, .int (v4 + (1 : Int32))), (0, .ref (ad 0)), (1, .int v1), (2, .int v2), (3, .int v3), (5, .int v5)]) hx hb dX11_queries_215 hl (k := 4) rfl rfl (by decide) rfl (fun ls hl => ?_)
                                refine lv_goto (tgt := 105) hx hb dX11_queries_218 (by decide) ?_
                                obtain rfl := Option.some.inj hf
                                exact Kl2 _ rfl _ _ _ hW (lv_sub hl [1, 2, 3, 4, 0] rfl)
                              · have hf := (if_pos c31).symm.trans hf
                                refine lv_iload_n hx hb dX11_queries_134 rfl (lv_at hl 3 rfl) ?_
                                refine lv_iload_n hx hb dX11_queries_135 rfl (lv_at hl 1 rfl) ?_
                                refine lv_icmp_eq (tgt := 209) hx hb dX11_queries_136 (by decide) (fun c33 => ?_) (fun c33 => ?_)
                                · have hf := (if_pos c33).symm.trans hf
                                  refine lv_iinc (v := (v5 + (1 : Int32))) (lv' := [(5, .int (v5 + (1 : Int32))), (0, .ref (ad 0)), (1, .int v1), (2, .int v2), (3, .int v3), (4, .int v4)]) hx hb dX11_queries_209 hl (k := 5) rfl rfl (by decide) rfl (fun ls hl => ?_)
                                  refine lv_goto (tgt := 121) hx hb dX11_queries_212 (by decide) ?_
                                  obtain rfl := Option.some.inj hf
                                  exact Kl3 _ rfl _ _ _ hW (lv_sub hl [1, 2, 3, 4, 5, 0] rfl)
                                · have hf := (if_neg c33).symm.trans hf
                                  refine lv_iload hx hb dX11_queries_139 (lv_at hl 4 rfl) ?_
                                  refine lv_iload_n hx hb dX11_queries_141 rfl (lv_at hl 1 rfl) ?_
                                  refine lv_icmp_ne (tgt := 148) hx hb dX11_queries_142 (by decide) (fun c34 => ?_) (fun c34 => ?_)
                                  · have hf := (if_neg c34).symm.trans hf
                                    refine lv_aload_n hx hb dX11_queries_148 rfl (lv_at hl 0 rfl) ?_
                                    refine lv_iload_n hx hb dX11_queries_149 rfl (lv_at hl 3 rfl) ?_
                                    refine lv_iload hx hb dX11_queries_150 (lv_at hl 4 rfl) ?_
                                    refine lv_iload hx hb dX11_queries_152 (lv_at hl 5 rfl) ?_
                                    obtain ⟨x154, h154, hf⟩ := bd_of hf
                                    refine r_callV (k := ((0, 0) : Ky)) C hW hl lk_X11_378 (c_X11_answersCome h154) ⟨rfl, rfl⟩ ⟨Nat.le_of_ble_eq_true rfl, Nat.le_of_ble_eq_true rfl⟩ rfl rfl rfl (As := [.int v3, .int v4, .int v5]) (rest := []) rfl rfl (Nat.le_of_ble_eq_true rfl) dX11_queries_154 ⟨Nat.zero_le _, Nat.zero_le _⟩ (fun H locs hW => ?_)
                                    show W p l e (rmq 6 138) s m args below meth c H locs 0 0 Q (F0 m 157 ls [])
                                    refine lv_aload_n hx hb dX11_queries_157 rfl (lv_at hl 0 rfl) ?_
                                    obtain ⟨x158, h158, hf⟩ := bd_of hf
                                    refine r_callV (k := ((0, 0) : Ky)) C hW hl lk_X11_206 (c_X11_drops h158) ⟨rfl, rfl⟩ ⟨Nat.le_of_ble_eq_true rfl, Nat.le_of_ble_eq_true rfl⟩ rfl rfl rfl (As := []) (rest := []) rfl rfl (Nat.le_of_ble_eq_true rfl) dX11_queries_158 ⟨Nat.zero_le _, Nat.zero_le _⟩ (fun H locs hW => ?_)
                                    show W p l e (rmq 6 138) s m args below meth c H locs 0 0 Q (F0 m 161 ls [])
                                    refine lv_aload_n hx hb dX11_queries_161 rfl (lv_at hl 0 rfl) ?_
                                    refine lv_iload_n hx hb dX11_queries_162 rfl (lv_at hl 1 rfl) ?_
                                    obtain ⟨x163, h163, hf⟩ := bd_of hf
                                    refine r_callV (k := ((0, 0) : Ky)) C hW hl lk_X11_430 (c_X11_questionFor h163) ⟨rfl, rfl⟩ ⟨Nat.le_of_ble_eq_true rfl, Nat.le_of_ble_eq_true rfl⟩ rfl rfl rfl (As := [.int v1]) (rest := []) rfl rfl (Nat.le_of_ble_eq_true rfl) dX11_queries_163 ⟨Nat.zero_le _, Nat.zero_le _⟩ (fun H locs hW => ?_)
                                    show W p l e (rmq 6 138) s m args below meth c H locs 0 0 Q (F0 m 166 ls [.int x163.1])
                                    refine lv_if_lt (tgt := 173) hx hb dX11_queries_166 (by decide) (fun c38 => ?_) (fun c38 => ?_)
                                    · have hf := (if_pos c38).symm.trans hf
                                      refine lv_iconst (v := 0) hx hb dX11_queries_173 (by decide) ?_
                                      exact J174 x163.2 v5 (0 : Int32) _ _ _ hf hW (lv_sub hl [0, 1, 3, 4, 5] rfl)
                                    · have hf := (if_neg c38).symm.trans hf
                                      refine lv_iconst (v := 1) hx hb dX11_queries_169 (by decide) ?_
                                      refine lv_goto (tgt := 174) hx hb dX11_queries_170 (by decide) ?_
                                      exact J174 x163.2 v5 (1 : Int32) _ _ _ hf hW (lv_sub hl [0, 1, 3, 4, 5] rfl)
                                  · have hf := (if_pos c34).symm.trans hf
                                    refine lv_goto (tgt := 209) hx hb dX11_queries_145 (by decide) ?_
                                    refine lv_iinc (v := (v5 + (1 : Int32))) (lv' := [(5, .int (v5 + (1 : Int32))), (0, .ref (ad 0)), (1, .int v1), (2, .int v2), (3, .int v3), (4, .int v4)]) hx hb dX11_queries_209 hl (k := 5) rfl rfl (by decide) rfl (fun ls hl => ?_)
                                    refine lv_goto (tgt := 121) hx hb dX11_queries_212 (by decide) ?_
                                    obtain rfl := Option.some.inj hf
                                    exact Kl3 _ rfl _ _ _ hW (lv_sub hl [1, 2, 3, 4, 5, 0] rfl)
                          exact L121 μ v2 v4 (0 : Int32) _ _ _ hf hW (lv_sub hl [1, 2, 3, 4, 5, 0] rfl)
                    exact L105 μ v2 v3 (0 : Int32) _ _ _ hf hW (lv_sub hl [1, 2, 3, 4, 0] rfl)
              exact L90 μ (0 : Int32) (0 : Int32) _ _ _ hf hW (lv_sub hl [2, 3, 1, 0] rfl)
            · have hf := (if_neg c11).symm.trans hf
              refine lv_aload_n hx hb dX11_queries_65 rfl (lv_at hl 0 rfl) ?_
              refine gf_X11_68 C hW dX11_queries_66 ?_
              refine lv_iload_n hx hb dX11_queries_69 rfl (lv_at hl 2 rfl) ?_
              refine lv_aload_n hx hb dX11_queries_70 rfl (lv_at hl 0 rfl) ?_
              refine gf_X11_13 C hW dX11_queries_71 ?_
              refine lv_bipush (v := 20) hx hb dX11_queries_74 (by decide) ?_
              refine lv_iload_n hx hb dX11_queries_76 rfl (lv_at hl 2 rfl) ?_
              refine lv_iadd hx hb dX11_queries_77 ?_
              obtain ⟨hi40, hf⟩ := ck_of hf
              refine r_iald (k := ((1, 0) : Ky)) (n := 7114) C hW rfl rfl hi40 dX11_queries_78 ?_
              obtain ⟨hi41, hf⟩ := ck_of hf
              refine r_iast (k := ((28, 0) : Ky)) (n := 512) C hW rfl (fun _ => rfl) hi41 dX11_queries_79 (fun H locs hW => ?_)
              refine lv_iinc (v := (v2 + (1 : Int32))) (lv' := [(2, .int (v2 + (1 : Int32))), (0, .ref (ad 0)), (1, .int v1)]) hx hb dX11_queries_80 hl (k := 2) rfl rfl (by decide) rfl (fun ls hl => ?_)
              refine lv_goto (tgt := 58) hx hb dX11_queries_83 (by decide) ?_
              obtain rfl := Option.some.inj hf
              exact Kl1 _ rfl _ _ _ hW (lv_sub hl [1, 2, 0] rfl)
          exact L58 x48.2 (0 : Int32) _ _ _ hf hW (lv_sub hl [1, 2, 0] rfl)
        · have hf := (if_neg c10).symm.trans hf
          refine lv_iconst (v := 1) hx hb dX11_queries_54 (by decide) ?_
          obtain rfl := Option.some.inj hf
          rw [hQ]
          exact r_iret C hr hk hW rfl rfl dX11_queries_55
      · have hf := (if_neg c8).symm.trans hf
        refine lv_iconst (v := 0) hx hb dX11_queries_44 (by decide) ?_
        obtain rfl := Option.some.inj hf
        rw [hQ]
        exact r_iret C hr hk hW rfl rfl dX11_queries_45
    · have hf := (if_neg c5).symm.trans hf
      refine lv_bipush (v := -3) hx hb dX11_queries_29 (by decide) ?_
      obtain rfl := Option.some.inj hf
      rw [hQ]
      exact r_iret C hr hk hW rfl rfl dX11_queries_31
  · have hf := (if_neg c3).symm.trans hf
    refine lv_iconst (v := 0) hx hb dX11_queries_18 (by decide) ?_
    obtain rfl := Option.some.inj hf
    rw [hQ]
    exact r_iret C hr hk hW rfl rfl dX11_queries_19
set_option maxHeartbeats 4000000 in
set_option maxRecDepth 100000 in
theorem c_X11_spills {l : Launch} {D : va_G} {tc : Nat → ClassId} {ro : Ro} {ad : Nat → Nat} {μ : Mm} {v1 : Int32} {res : Int32 × Mm} (hf : f_X11_spills μ v1 = some res) : Ct l D tc ro (faM ad) (feM tc ad) yX11_spills cX11_spills 4 (some .int) (rmq 6 135) [.ref (ad 0), .int v1] μ (some (.int res.1)) res.2 := by
  refine Ct.of (by decide) (Nat.le_of_ble_eq_true rfl) (fun p e s m args below meth c A C hr hk hW ls hl => ?_)
  have hx := C.1.1
  have hb := C.1.2.1
  obtain ⟨Q, hQ⟩ : ∃ Q, Q = MQ below (Ctq D (faM ad) (feM tc ad) (some (.int res.1)) res.2 A) args s 0 0 A := ⟨_, rfl⟩
  rw [← hQ]
  have hl : lv_has ls 4 [(0, .ref (ad 0)), (1, .int v1)] := hl
  unfold f_X11_spills at hf
  refine lv_aload_n hx hb dX11_spills_0 rfl (lv_at hl 0 rfl) ?_
  refine lv_aload_n hx hb dX11_spills_1 rfl (lv_at hl 0 rfl) ?_
  obtain ⟨x2, h2, hf⟩ := bd_of hf
  refine r_callV (k := ((0, 0) : Ky)) C hW hl lk_X11_121 (c_X11_here h2) ⟨rfl, rfl⟩ ⟨Nat.le_of_ble_eq_true rfl, Nat.le_of_ble_eq_true rfl⟩ rfl rfl rfl (As := []) (rest := [.ref (ad 0)]) rfl rfl (Nat.le_of_ble_eq_true rfl) dX11_spills_2 ⟨Nat.zero_le _, Nat.zero_le _⟩ (fun H locs hW => ?_)
  show W p l e (rmq 6 135) s m args below meth c H locs 0 0 Q (F0 m 5 ls [.int x2, .ref (ad 0)])
  obtain ⟨x5, h5, hf⟩ := bd_of hf
  refine r_callV (k := ((0, 0) : Ky)) C hW hl lk_X11_340 (c_X11_sureOnes h5) ⟨rfl, rfl⟩ ⟨Nat.le_of_ble_eq_true rfl, Nat.le_of_ble_eq_true rfl⟩ rfl rfl rfl (As := [.int x2]) (rest := []) rfl rfl (Nat.le_of_ble_eq_true rfl) dX11_spills_5 ⟨Nat.zero_le _, Nat.zero_le _⟩ (fun H locs hW => ?_)
  show W p l e (rmq 6 135) s m args below meth c H locs 0 0 Q (F0 m 8 ls [.int x5.1])
  refine lv_istore_n (lv' := [(2, .int x5.1), (0, .ref (ad 0)), (1, .int v1)]) hx hb dX11_spills_8 rfl hl (by decide) rfl (fun ls hl => ?_)
  refine lv_aload_n hx hb dX11_spills_9 rfl (lv_at hl 1 rfl) ?_
  obtain ⟨x10, h10, hf⟩ := bd_of hf
  refine r_callV (k := ((0, 0) : Ky)) C hW hl lk_X11_412 (c_X11_keepsLeft h10) ⟨rfl, rfl⟩ ⟨Nat.le_of_ble_eq_true rfl, Nat.le_of_ble_eq_true rfl⟩ rfl rfl rfl (As := []) (rest := []) rfl rfl (Nat.le_of_ble_eq_true rfl) dX11_spills_10 ⟨Nat.zero_le _, Nat.zero_le _⟩ (fun H locs hW => ?_)
  show W p l e (rmq 6 135) s m args below meth c H locs 0 0 Q (F0 m 13 ls [])
  refine lv_aload_n hx hb dX11_spills_13 rfl (lv_at hl 1 rfl) ?_
  refine lv_iload_n hx hb dX11_spills_14 rfl (lv_at hl 2 rfl) ?_
  obtain ⟨x15, h15, hf⟩ := bd_of hf
  refine r_callV (k := ((0, 0) : Ky)) C hW hl lk_X11_375 (c_X11_readsOut h15) ⟨rfl, rfl⟩ ⟨Nat.le_of_ble_eq_true rfl, Nat.le_of_ble_eq_true rfl⟩ rfl rfl rfl (As := [.int v1]) (rest := []) rfl rfl (Nat.le_of_ble_eq_true rfl) dX11_spills_15 ⟨Nat.zero_le _, Nat.zero_le _⟩ (fun H locs hW => ?_)
  show W p l e (rmq 6 135) s m args below meth c H locs 0 0 Q (F0 m 18 ls [])
  refine lv_aload_n hx hb dX11_spills_18 rfl (lv_at hl 1 rfl) ?_
  refine lv_aload_n hx hb dX11_spills_19 rfl (lv_at hl 1 rfl) ?_
  obtain ⟨x20, h20, hf⟩ := bd_of hf
  refine r_callV (k := ((0, 0) : Ky)) C hW hl lk_X11_121 (c_X11_here h20) ⟨rfl, rfl⟩ ⟨Nat.le_of_ble_eq_true rfl, Nat.le_of_ble_eq_true rfl⟩ rfl rfl rfl (As := []) (rest := [.ref (ad 0)]) rfl rfl (Nat.le_of_ble_eq_true rfl) dX11_spills_20 ⟨Nat.zero_le _, Nat.zero_le _⟩ (fun H locs hW => ?_)
  show W p l e (rmq 6 135) s m args below meth c H locs 0 0 Q (F0 m 23 ls [.int x20, .ref (ad 0)])
  obtain ⟨x23, h23, hf⟩ := bd_of hf
  refine r_callV (k := ((0, 0) : Ky)) C hW hl lk_X11_340 (c_X11_sureOnes h23) ⟨rfl, rfl⟩ ⟨Nat.le_of_ble_eq_true rfl, Nat.le_of_ble_eq_true rfl⟩ rfl rfl rfl (As := [.int x20]) (rest := []) rfl rfl (Nat.le_of_ble_eq_true rfl) dX11_spills_23 ⟨Nat.zero_le _, Nat.zero_le _⟩ (fun H locs hW => ?_)
  show W p l e (rmq 6 135) s m args below meth c H locs 0 0 Q (F0 m 26 ls [.int x23.1])
  refine lv_istore_n (lv' := [(3, .int x23.1), (2, .int x5.1), (0, .ref (ad 0)), (1, .int v1)]) hx hb dX11_spills_26 rfl hl (by decide) rfl (fun ls hl => ?_)
  refine lv_aload_n hx hb dX11_spills_27 rfl (lv_at hl 2 rfl) ?_
  obtain ⟨x28, h28, hf⟩ := bd_of hf
  refine r_callV (k := ((0, 0) : Ky)) C hW hl lk_X11_415 (c_X11_bringsLeft h28) ⟨rfl, rfl⟩ ⟨Nat.le_of_ble_eq_true rfl, Nat.le_of_ble_eq_true rfl⟩ rfl rfl rfl (As := []) (rest := []) rfl rfl (Nat.le_of_ble_eq_true rfl) dX11_spills_28 ⟨Nat.zero_le _, Nat.zero_le _⟩ (fun H locs hW => ?_)
  show W p l e (rmq 6 135) s m args below meth c H locs 0 0 Q (F0 m 31 ls [])
  refine lv_iload_n hx hb dX11_spills_31 rfl (lv_at hl 0 rfl) ?_
  refine lv_iload_n hx hb dX11_spills_32 rfl (lv_at hl 1 rfl) ?_
  refine lv_iconst (v := -1) hx hb dX11_spills_33 (by decide) ?_
  refine lv_ixor hx hb dX11_spills_34 ?_
  refine lv_iand hx hb dX11_spills_35 ?_
  obtain rfl := Option.some.inj hf
  rw [hQ]
  exact r_iret C hr hk hW rfl rfl dX11_spills_36
set_option maxHeartbeats 4000000 in
set_option maxRecDepth 100000 in
theorem c_X11_spill {l : Launch} {D : va_G} {tc : Nat → ClassId} {ro : Ro} {ad : Nat → Nat} {μ : Mm} {v1 : Int32} {res : Int32 × Mm} (hf : f_X11_spill μ v1 = some res) : Ct l D tc ro (faM ad) (feM tc ad) yX11_spill cX11_spill 2 (some .int) (rmq 7 158) [.ref (ad 0), .int v1] μ (some (.int res.1)) res.2 := by
  refine Ct.of (by decide) (Nat.le_of_ble_eq_true rfl) (fun p e s m args below meth c A C hr hk hW ls hl => ?_)
  have hx := C.1.1
  have hb := C.1.2.1
  obtain ⟨Q, hQ⟩ : ∃ Q, Q = MQ below (Ctq D (faM ad) (feM tc ad) (some (.int res.1)) res.2 A) args s 0 0 A := ⟨_, rfl⟩
  rw [← hQ]
  have hl : lv_has ls 2 [(0, .ref (ad 0)), (1, .int v1)] := hl
  unfold f_X11_spill at hf
  refine lv_aload_n hx hb dX11_spill_0 rfl (lv_at hl 0 rfl) ?_
  refine lv_iconst (v := 0) hx hb dX11_spill_1 (by decide) ?_
  refine pf_X11_3 C hW dX11_spill_2 (fun H locs hW => ?_)
  refine lv_aload_n hx hb dX11_spill_5 rfl (lv_at hl 0 rfl) ?_
  refine lv_aload_n hx hb dX11_spill_6 rfl (lv_at hl 0 rfl) ?_
  refine lv_iload_n hx hb dX11_spill_7 rfl (lv_at hl 1 rfl) ?_
  obtain ⟨x8, h8, hf⟩ := bd_of hf
  refine r_callV (k := ((0, 0) : Ky)) C hW hl lk_X11_359 (c_X11_noPerson h8) ⟨rfl, rfl⟩ ⟨Nat.le_of_ble_eq_true rfl, Nat.le_of_ble_eq_true rfl⟩ rfl rfl rfl (As := [.int v1]) (rest := [.ref (ad 0)]) rfl rfl (Nat.le_of_ble_eq_true rfl) dX11_spill_8 ⟨Nat.zero_le _, Nat.zero_le _⟩ (fun H locs hW => ?_)
  show W p l e (rmq 7 158) s m args below meth c H locs 0 0 Q (F0 m 11 ls [.int x8, .ref (ad 0)])
  refine lv_iconst (v := 1) hx hb dX11_spill_11 (by decide) ?_
  obtain ⟨x12, h12, hf⟩ := bd_of hf
  refine r_callV (k := ((0, 0) : Ky)) C hW hl lk_X11_322 (c_X11_throwsIf h12) ⟨rfl, rfl⟩ ⟨Nat.le_of_ble_eq_true rfl, Nat.le_of_ble_eq_true rfl⟩ rfl rfl rfl (As := [.int x8, .int (1 : Int32)]) (rest := []) rfl rfl (Nat.le_of_ble_eq_true rfl) dX11_spill_12 ⟨Nat.zero_le _, Nat.zero_le _⟩ (fun H locs hW => ?_)
  show W p l e (rmq 7 158) s m args below meth c H locs 0 0 Q (F0 m 15 ls [.int x12.1])
  refine lv_if_eq (tgt := 22) hx hb dX11_spill_15 (by decide) (fun c3 => ?_) (fun c3 => ?_)
  · have hf := (if_pos c3).symm.trans hf
    refine lv_aload_n hx hb dX11_spill_22 rfl (lv_at hl 0 rfl) ?_
    refine lv_iload_n hx hb dX11_spill_23 rfl (lv_at hl 1 rfl) ?_
    obtain ⟨x24, h24, hf⟩ := bd_of hf
    refine r_callV (k := ((0, 0) : Ky)) C hW hl lk_X11_433 (c_X11_spills h24) ⟨rfl, rfl⟩ ⟨Nat.le_of_ble_eq_true rfl, Nat.le_of_ble_eq_true rfl⟩ rfl rfl rfl (As := [.int v1]) (rest := []) rfl rfl (Nat.le_of_ble_eq_true rfl) dX11_spill_24 ⟨Nat.zero_le _, Nat.zero_le _⟩ (fun H locs hW => ?_)
    show W p l e (rmq 7 158) s m args below meth c H locs 0 0 Q (F0 m 27 ls [.int x24.1])
    obtain rfl := Option.some.inj hf
    rw [hQ]
    exact r_iret C hr hk hW rfl rfl dX11_spill_27
  · have hf := (if_neg c3).symm.trans hf
    refine lv_iconst (v := 0) hx hb dX11_spill_18 (by decide) ?_
    refine lv_goto (tgt := 27) hx hb dX11_spill_19 (by decide) ?_
    obtain rfl := Option.some.inj hf
    rw [hQ]
    exact r_iret C hr hk hW rfl rfl dX11_spill_27
set_option maxHeartbeats 4000000 in
set_option maxRecDepth 100000 in
theorem c_X11_quiet {l : Launch} {D : va_G} {tc : Nat → ClassId} {ro : Ro} {ad : Nat → Nat} {μ : Mm} {res : Int32 × Mm} (hf : f_X11_quiet μ = some res) : Ct l D tc ro (faM ad) (feM tc ad) yX11_quiet cX11_quiet 3 (some .int) (rmq 7 158) [.ref (ad 0)] μ (some (.int res.1)) res.2 := by
  refine Ct.of (by decide) (Nat.le_of_ble_eq_true rfl) (fun p e s m args below meth c A C hr hk hW ls hl => ?_)
  have hx := C.1.1
  have hb := C.1.2.1
  obtain ⟨Q, hQ⟩ : ∃ Q, Q = MQ below (Ctq D (faM ad) (feM tc ad) (some (.int res.1)) res.2 A) args s 0 0 A := ⟨_, rfl⟩
  rw [← hQ]
  have hl : lv_has ls 3 [(0, .ref (ad 0))] := hl
  unfold f_X11_quiet at hf
  refine lv_aload_n hx hb dX11_quiet_0 rfl (lv_at hl 0 rfl) ?_
  refine lv_iconst (v := 0) hx hb dX11_quiet_1 (by decide) ?_
  refine pf_X11_3 C hW dX11_quiet_2 (fun H locs hW => ?_)
  refine lv_iconst (v := 0) hx hb dX11_quiet_5 (by decide) ?_
  refine lv_istore_n (lv' := [(1, .int (0 : Int32)), (0, .ref (ad 0))]) hx hb dX11_quiet_6 rfl hl (by decide) rfl (fun ls hl => ?_)
  refine lv_iconst (v := 0) hx hb dX11_quiet_7 (by decide) ?_
  refine lv_istore_n (lv' := [(2, .int (0 : Int32)), (1, .int (0 : Int32)), (0, .ref (ad 0))]) hx hb dX11_quiet_8 rfl hl (by decide) rfl (fun ls hl => ?_)
  have L9 : ∀ (μ : Mm) (v1 v2 : Int32) (H : Heap) (locs : List Loc) (ls : Array Slot), Wh (fun z : Mm × Int32 × Int32 => f_X11_quiet_L9 z.1 z.2.1 z.2.2) (μ, v1, v2) = some res → Wd D (faM ad) (feM tc ad) A s.heap μ H locs → lv_has ls 3 [(0, .ref (ad 0)), (1, .int v1), (2, .int v2)] → W p l e (rmq 7 158) s m args below meth c H locs 0 0 Q (F0 m 9 ls []) := by
    intro μ v1 v2 H locs ls hf hW hl
    refine Wh_rule hf (fun z : Mm × Int32 × Int32 => ∀ (H : Heap) (locs : List Loc) (ls : Array Slot), Wd D (faM ad) (feM tc ad) A s.heap z.1 H locs → lv_has ls 3 [(0, .ref (ad 0)), (1, .int z.2.1), (2, .int z.2.2)] → W p l e (rmq 7 158) s m args below meth c H locs 0 0 Q (F0 m 9 ls [])) (fun z o1 hf Kl1 Kr1 => ?_) _ _ _ hW hl
    obtain ⟨μ, v1, v2⟩ := z
    intro H locs ls hW hl
    have hf : f_X11_quiet_L9 μ v1 v2 = some o1 := hf
    unfold f_X11_quiet_L9 at hf
    have hW : Wd D (faM ad) (feM tc ad) A s.heap μ H locs := hW
    have hl : lv_has ls 3 [(0, .ref (ad 0)), (1, .int v1), (2, .int v2)] := hl
    refine lv_iload_n hx hb dX11_quiet_9 rfl (lv_at hl 2 rfl) ?_
    refine lv_aload_n hx hb dX11_quiet_10 rfl (lv_at hl 0 rfl) ?_
    obtain ⟨x11, h11, hf⟩ := bd_of hf
    refine r_callV (k := ((0, 0) : Ky)) C hW hl lk_X11_107 (c_X11_people h11) ⟨rfl, rfl⟩ ⟨Nat.le_of_ble_eq_true rfl, Nat.le_of_ble_eq_true rfl⟩ rfl rfl rfl (As := []) (rest := [.int v2]) rfl rfl (Nat.le_of_ble_eq_true rfl) dX11_quiet_11 ⟨Nat.zero_le _, Nat.zero_le _⟩ (fun H locs hW => ?_)
    show W p l e (rmq 7 158) s m args below meth c H locs 0 0 Q (F0 m 14 ls [.int x11, .int v2])
    refine lv_icmp_ge (tgt := 41) hx hb dX11_quiet_14 (by decide) (fun c2 => ?_) (fun c2 => ?_)
    · have hf := (if_pos c2).symm.trans hf
      obtain ⟨x9003, hf, hx9003⟩ := map_of hf
      have e9003 := (Kr1 _ hx9003.symm).symm
      subst e9003
      refine lv_iload_n hx hb dX11_quiet_41 rfl (lv_at hl 1 rfl) ?_
      obtain rfl := Option.some.inj hf
      rw [hQ]
      exact r_iret C hr hk hW rfl rfl dX11_quiet_42
    · have hf := (if_neg c2).symm.trans hf
      refine lv_iload_n hx hb dX11_quiet_17 rfl (lv_at hl 1 rfl) ?_
      refine lv_aload_n hx hb dX11_quiet_18 rfl (lv_at hl 0 rfl) ?_
      refine lv_iload_n hx hb dX11_quiet_19 rfl (lv_at hl 2 rfl) ?_
      obtain ⟨x20, h20, hf⟩ := bd_of hf
      refine r_callV (k := ((0, 0) : Ky)) C hW hl lk_X11_433 (c_X11_spills h20) ⟨rfl, rfl⟩ ⟨Nat.le_of_ble_eq_true rfl, Nat.le_of_ble_eq_true rfl⟩ rfl rfl rfl (As := [.int v2]) (rest := [.int v1]) rfl rfl (Nat.le_of_ble_eq_true rfl) dX11_quiet_20 ⟨Nat.zero_le _, Nat.zero_le _⟩ (fun H locs hW => ?_)
      show W p l e (rmq 7 158) s m args below meth c H locs 0 0 Q (F0 m 23 ls [.int x20.1, .int v1])
      refine lv_if_ne (tgt := 32) hx hb dX11_quiet_23 (by decide) (fun c5 => ?_) (fun c5 => ?_)
      · have hf := (if_neg c5).symm.trans hf
        refine lv_iconst (v := 0) hx hb dX11_quiet_32 (by decide) ?_
        refine lv_ior hx hb dX11_quiet_33 ?_
        refine lv_istore_n (lv' := [(1, .int (v1 ||| (0 : Int32))), (0, .ref (ad 0)), (2, .int v2)]) hx hb dX11_quiet_34 rfl hl (by decide) rfl (fun ls hl => ?_)
        refine lv_iinc (v := (v2 + (1 : Int32))) (lv' := [(2, .int (v2 + (1 : Int32))), (1, .int (v1 ||| (0 : Int32))), (0, .ref (ad 0))]) hx hb dX11_quiet_35 hl (k := 2) rfl rfl (by decide) rfl (fun ls hl => ?_)
        refine lv_goto (tgt := 9) hx hb dX11_quiet_38 (by decide) ?_
        obtain rfl := Option.some.inj hf
        exact Kl1 _ rfl _ _ _ hW (lv_sub hl [2, 1, 0] rfl)
      · have hf := (if_pos c5).symm.trans hf
        refine lv_iconst (v := 1) hx hb dX11_quiet_26 (by decide) ?_
        refine lv_iload_n hx hb dX11_quiet_27 rfl (lv_at hl 2 rfl) ?_
        refine lv_ishl hx hb dX11_quiet_28 ?_
        refine lv_goto (tgt := 33) hx hb dX11_quiet_29 (by decide) ?_
        refine lv_ior hx hb dX11_quiet_33 ?_
        refine lv_istore_n (lv' := [(1, .int (v1 ||| ((1 : Int32) <<< (v2 &&& 31)))), (0, .ref (ad 0)), (2, .int v2)]) hx hb dX11_quiet_34 rfl hl (by decide) rfl (fun ls hl => ?_)
        refine lv_iinc (v := (v2 + (1 : Int32))) (lv' := [(2, .int (v2 + (1 : Int32))), (1, .int (v1 ||| ((1 : Int32) <<< (v2 &&& 31)))), (0, .ref (ad 0))]) hx hb dX11_quiet_35 hl (k := 2) rfl rfl (by decide) rfl (fun ls hl => ?_)
        refine lv_goto (tgt := 9) hx hb dX11_quiet_38 (by decide) ?_
        obtain rfl := Option.some.inj hf
        exact Kl1 _ rfl _ _ _ hW (lv_sub hl [2, 1, 0] rfl)
  exact L9 (mst μ (0, 0) 0 (0 : Int32)) (0 : Int32) (0 : Int32) _ _ _ hf hW (lv_sub hl [2, 1, 0] rfl)
set_option maxHeartbeats 4000000 in
set_option maxRecDepth 100000 in
theorem c_X11_winBy {l : Launch} {D : va_G} {tc : Nat → ClassId} {ro : Ro} {ad : Nat → Nat} {μ : Mm} {v1 v2 : Int32} {res : Int32} (hf : f_X11_winBy μ v1 v2 = some res) : Ct l D tc ro (faM ad) (feM tc ad) yX11_winBy cX11_winBy 3 (some .int) (rmq 0 0) [.ref (ad 0), .int v1, .int v2] μ (some (.int res)) μ := by
  refine Ct.of (by decide) (Nat.le_of_ble_eq_true rfl) (fun p e s m args below meth c A C hr hk hW ls hl => ?_)
  have hx := C.1.1
  have hb := C.1.2.1
  obtain ⟨Q, hQ⟩ : ∃ Q, Q = MQ below (Ctq D (faM ad) (feM tc ad) (some (.int res)) μ A) args s 0 0 A := ⟨_, rfl⟩
  rw [← hQ]
  have hl : lv_has ls 3 [(0, .ref (ad 0)), (1, .int v1), (2, .int v2)] := hl
  unfold f_X11_winBy at hf
  refine lv_aload_n hx hb dX11_winBy_0 rfl (lv_at hl 0 rfl) ?_
  refine gf_X11_74 C hW dX11_winBy_1 ?_
  refine lv_iload_n hx hb dX11_winBy_4 rfl (lv_at hl 1 rfl) ?_
  refine lv_iconst (v := 1) hx hb dX11_winBy_5 (by decide) ?_
  refine lv_iload_n hx hb dX11_winBy_6 rfl (lv_at hl 2 rfl) ?_
  refine lv_ishl hx hb dX11_winBy_7 ?_
  refine lv_ior hx hb dX11_winBy_8 ?_
  obtain ⟨hi1, hf⟩ := ck_of hf
  refine r_zald (k := ((30, 0) : Ky)) (n := 512) C hW rfl rfl hi1 dX11_winBy_9 ?_
  refine lv_if_eq (tgt := 17) hx hb dX11_winBy_10 (by decide) (fun c2 => ?_) (fun c2 => ?_)
  · have hf := (if_pos c2).symm.trans hf
    refine lv_aload_n hx hb dX11_winBy_17 rfl (lv_at hl 0 rfl) ?_
    refine gf_X11_77 C hW dX11_winBy_18 ?_
    refine lv_iload_n hx hb dX11_winBy_21 rfl (lv_at hl 1 rfl) ?_
    refine lv_iconst (v := 1) hx hb dX11_winBy_22 (by decide) ?_
    refine lv_iload_n hx hb dX11_winBy_23 rfl (lv_at hl 2 rfl) ?_
    refine lv_ishl hx hb dX11_winBy_24 ?_
    refine lv_ior hx hb dX11_winBy_25 ?_
    obtain ⟨hi3, hf⟩ := ck_of hf
    refine r_iald (k := ((31, 0) : Ky)) (n := 512) C hW rfl rfl hi3 dX11_winBy_26 ?_
    refine lv_ineg hx hb dX11_winBy_27 ?_
    obtain rfl := Option.some.inj hf
    rw [hQ]
    exact r_iret C hr hk hW rfl rfl dX11_winBy_28
  · have hf := (if_neg c2).symm.trans hf
    refine lv_iconst (v := -1) hx hb dX11_winBy_13 (by decide) ?_
    refine lv_goto (tgt := 28) hx hb dX11_winBy_14 (by decide) ?_
    obtain rfl := Option.some.inj hf
    rw [hQ]
    exact r_iret C hr hk hW rfl rfl dX11_winBy_28
set_option maxHeartbeats 4000000 in
set_option maxRecDepth 100000 in
theorem c_X11_bestOf {l : Launch} {D : va_G} {tc : Nat → ClassId} {ro : Ro} {ad : Nat → Nat} {μ : Mm} {v1 v2 : Int32} {res : Int32} (hf : f_X11_bestOf μ v1 v2 = some res) : Ct l D tc ro (faM ad) (feM tc ad) yX11_bestOf cX11_bestOf 5 (some .int) (rmq 1 22) [.ref (ad 0), .int v1, .int v2] μ (some (.int res)) μ := by
  refine Ct.of (by decide) (Nat.le_of_ble_eq_true rfl) (fun p e s m args below meth c A C hr hk hW ls hl => ?_)
  have hx := C.1.1
  have hb := C.1.2.1
  obtain ⟨Q, hQ⟩ : ∃ Q, Q = MQ below (Ctq D (faM ad) (feM tc ad) (some (.int res)) μ A) args s 0 0 A := ⟨_, rfl⟩
  rw [← hQ]
  have hl : lv_has ls 5 [(0, .ref (ad 0)), (1, .int v1), (2, .int v2)] := hl
  unfold f_X11_bestOf at hf
  refine lv_iconst (v := -1) hx hb dX11_bestOf_0 (by decide) ?_
  refine lv_istore_n (lv' := [(3, .int (-1 : Int32)), (0, .ref (ad 0)), (1, .int v1), (2, .int v2)]) hx hb dX11_bestOf_1 rfl hl (by decide) rfl (fun ls hl => ?_)
  refine lv_iconst (v := 0) hx hb dX11_bestOf_2 (by decide) ?_
  refine lv_istore (lv' := [(4, .int (0 : Int32)), (3, .int (-1 : Int32)), (0, .ref (ad 0)), (1, .int v1), (2, .int v2)]) hx hb dX11_bestOf_3 hl (by decide) rfl (fun ls hl => ?_)
  have L5 : ∀ (v3 v4 : Int32) (H : Heap) (locs : List Loc) (ls : Array Slot), Wh (fun z : Int32 × Int32 => f_X11_bestOf_L5 v1 v2 μ z.1 z.2) (v3, v4) = some res → Wd D (faM ad) (feM tc ad) A s.heap μ H locs → lv_has ls 5 [(0, .ref (ad 0)), (1, .int v1), (2, .int v2), (3, .int v3), (4, .int v4)] → W p l e (rmq 1 22) s m args below meth c H locs 0 0 Q (F0 m 5 ls []) := by
    intro v3 v4 H locs ls hf hW hl
    refine Wh_rule hf (fun z : Int32 × Int32 => ∀ (H : Heap) (locs : List Loc) (ls : Array Slot), Wd D (faM ad) (feM tc ad) A s.heap μ H locs → lv_has ls 5 [(0, .ref (ad 0)), (1, .int v1), (2, .int v2), (3, .int z.1), (4, .int z.2)] → W p l e (rmq 1 22) s m args below meth c H locs 0 0 Q (F0 m 5 ls [])) (fun z o1 hf Kl1 Kr1 => ?_) _ _ _ hW hl
    obtain ⟨v3, v4⟩ := z
    intro H locs ls hW hl
    have hf : f_X11_bestOf_L5 v1 v2 μ v3 v4 = some o1 := hf
    unfold f_X11_bestOf_L5 at hf
    have hW : Wd D (faM ad) (feM tc ad) A s.heap μ H locs := hW
    have hl : lv_has ls 5 [(0, .ref (ad 0)), (1, .int v1), (2, .int v2), (3, .int v3), (4, .int v4)] := hl
    refine lv_iload hx hb dX11_bestOf_5 (lv_at hl 4 rfl) ?_
    refine lv_aload_n hx hb dX11_bestOf_7 rfl (lv_at hl 0 rfl) ?_
    obtain ⟨x8, h8, hf⟩ := bd_of hf
    refine r_callV (k := ((0, 0) : Ky)) C hW hl lk_X11_107 (c_X11_people h8) ⟨rfl, rfl⟩ ⟨Nat.le_of_ble_eq_true rfl, Nat.le_of_ble_eq_true rfl⟩ rfl rfl rfl (As := []) (rest := [.int v4]) rfl rfl (Nat.le_of_ble_eq_true rfl) dX11_bestOf_8 ⟨Nat.zero_le _, Nat.zero_le _⟩ (fun H locs hW => ?_)
    show W p l e (rmq 1 22) s m args below meth c H locs 0 0 Q (F0 m 11 ls [.int x8, .int v4])
    refine lv_icmp_ge (tgt := 58) hx hb dX11_bestOf_11 (by decide) (fun c2 => ?_) (fun c2 => ?_)
    · have hf := (if_pos c2).symm.trans hf
      obtain ⟨x9003, hf, hx9003⟩ := map_of hf
      have e9003 := (Kr1 _ hx9003.symm).symm
      subst e9003
      refine lv_iload_n hx hb dX11_bestOf_58 rfl (lv_at hl 3 rfl) ?_
      obtain rfl := Option.some.inj hf
      rw [hQ]
      exact r_iret C hr hk hW rfl rfl dX11_bestOf_59
    · have hf := (if_neg c2).symm.trans hf
      refine lv_iload hx hb dX11_bestOf_14 (lv_at hl 4 rfl) ?_
      refine lv_iload_n hx hb dX11_bestOf_16 rfl (lv_at hl 1 rfl) ?_
      refine lv_icmp_eq (tgt := 52) hx hb dX11_bestOf_17 (by decide) (fun c4 => ?_) (fun c4 => ?_)
      · have hf := (if_pos c4).symm.trans hf
        refine lv_iinc (v := (v4 + (1 : Int32))) (lv' := [(4, .int (v4 + (1 : Int32))), (0, .ref (ad 0)), (1, .int v1), (2, .int v2), (3, .int v3)]) hx hb dX11_bestOf_52 hl (k := 4) rfl rfl (by decide) rfl (fun ls hl => ?_)
        refine lv_goto (tgt := 5) hx hb dX11_bestOf_55 (by decide) ?_
        obtain rfl := Option.some.inj hf
        exact Kl1 _ rfl _ _ _ hW (lv_sub hl [1, 2, 3, 4, 0] rfl)
      · have hf := (if_neg c4).symm.trans hf
        refine lv_iload_n hx hb dX11_bestOf_20 rfl (lv_at hl 2 rfl) ?_
        refine lv_iload hx hb dX11_bestOf_21 (lv_at hl 4 rfl) ?_
        obtain ⟨x23, h23, hf⟩ := bd_of hf
        refine r_callS C hW hl lk_X11_103 (c_X11_has h23) ⟨rfl, rfl⟩ ⟨Nat.le_of_ble_eq_true rfl, Nat.le_of_ble_eq_true rfl⟩ (As := [.int v2, .int v4]) (rest := []) rfl rfl (Nat.le_of_ble_eq_true rfl) dX11_bestOf_23 ⟨Nat.zero_le _, Nat.zero_le _⟩ (fun H locs hW => ?_)
        show W p l e (rmq 1 22) s m args below meth c H locs 0 0 Q (F0 m 26 ls [.int x23])
        refine lv_if_ne (tgt := 52) hx hb dX11_bestOf_26 (by decide) (fun c6 => ?_) (fun c6 => ?_)
        · have hf := (if_neg c6).symm.trans hf
          refine lv_iinc (v := (v4 + (1 : Int32))) (lv' := [(4, .int (v4 + (1 : Int32))), (0, .ref (ad 0)), (1, .int v1), (2, .int v2), (3, .int v3)]) hx hb dX11_bestOf_52 hl (k := 4) rfl rfl (by decide) rfl (fun ls hl => ?_)
          refine lv_goto (tgt := 5) hx hb dX11_bestOf_55 (by decide) ?_
          obtain rfl := Option.some.inj hf
          exact Kl1 _ rfl _ _ _ hW (lv_sub hl [1, 2, 3, 4, 0] rfl)
        · have hf := (if_pos c6).symm.trans hf
          refine lv_iload_n hx hb dX11_bestOf_29 rfl (lv_at hl 3 rfl) ?_
          refine lv_if_lt (tgt := 49) hx hb dX11_bestOf_30 (by decide) (fun c7 => ?_) (fun c7 => ?_)
          · have hf := (if_pos c7).symm.trans hf
            refine lv_iload hx hb dX11_bestOf_49 (lv_at hl 4 rfl) ?_
            refine lv_istore_n (lv' := [(3, .int v4), (0, .ref (ad 0)), (1, .int v1), (2, .int v2), (4, .int v4)]) hx hb dX11_bestOf_51 rfl hl (by decide) rfl (fun ls hl => ?_)
            refine lv_iinc (v := (v4 + (1 : Int32))) (lv' := [(4, .int (v4 + (1 : Int32))), (3, .int v4), (0, .ref (ad 0)), (1, .int v1), (2, .int v2)]) hx hb dX11_bestOf_52 hl (k := 4) rfl rfl (by decide) rfl (fun ls hl => ?_)
            refine lv_goto (tgt := 5) hx hb dX11_bestOf_55 (by decide) ?_
            obtain rfl := Option.some.inj hf
            exact Kl1 _ rfl _ _ _ hW (lv_sub hl [2, 3, 4, 1, 0] rfl)
          · have hf := (if_neg c7).symm.trans hf
            refine lv_aload_n hx hb dX11_bestOf_33 rfl (lv_at hl 0 rfl) ?_
            refine lv_iload_n hx hb dX11_bestOf_34 rfl (lv_at hl 2 rfl) ?_
            refine lv_iload hx hb dX11_bestOf_35 (lv_at hl 4 rfl) ?_
            obtain ⟨x37, h37, hf⟩ := bd_of hf
            refine r_callV (k := ((0, 0) : Ky)) C hW hl lk_X11_436 (c_X11_winBy h37) ⟨rfl, rfl⟩ ⟨Nat.le_of_ble_eq_true rfl, Nat.le_of_ble_eq_true rfl⟩ rfl rfl rfl (As := [.int v2, .int v4]) (rest := []) rfl rfl (Nat.le_of_ble_eq_true rfl) dX11_bestOf_37 ⟨Nat.zero_le _, Nat.zero_le _⟩ (fun H locs hW => ?_)
            show W p l e (rmq 1 22) s m args below meth c H locs 0 0 Q (F0 m 40 ls [.int x37])
            refine lv_aload_n hx hb dX11_bestOf_40 rfl (lv_at hl 0 rfl) ?_
            refine lv_iload_n hx hb dX11_bestOf_41 rfl (lv_at hl 2 rfl) ?_
            refine lv_iload_n hx hb dX11_bestOf_42 rfl (lv_at hl 3 rfl) ?_
            obtain ⟨x43, h43, hf⟩ := bd_of hf
            refine r_callV (k := ((0, 0) : Ky)) C hW hl lk_X11_436 (c_X11_winBy h43) ⟨rfl, rfl⟩ ⟨Nat.le_of_ble_eq_true rfl, Nat.le_of_ble_eq_true rfl⟩ rfl rfl rfl (As := [.int v2, .int v3]) (rest := [.int x37]) rfl rfl (Nat.le_of_ble_eq_true rfl) dX11_bestOf_43 ⟨Nat.zero_le _, Nat.zero_le _⟩ (fun H locs hW => ?_)
            show W p l e (rmq 1 22) s m args below meth c H locs 0 0 Q (F0 m 46 ls [.int x43, .int x37])
            refine lv_icmp_le (tgt := 52) hx hb dX11_bestOf_46 (by decide) (fun c10 => ?_) (fun c10 => ?_)
            · have hf := (if_pos c10).symm.trans hf
              refine lv_iinc (v := (v4 + (1 : Int32))) (lv' := [(4, .int (v4 + (1 : Int32))), (0, .ref (ad 0)), (1, .int v1), (2, .int v2), (3, .int v3)]) hx hb dX11_bestOf_52 hl (k := 4) rfl rfl (by decide) rfl (fun ls hl => ?_)
              refine lv_goto (tgt := 5) hx hb dX11_bestOf_55 (by decide) ?_
              obtain rfl := Option.some.inj hf
              exact Kl1 _ rfl _ _ _ hW (lv_sub hl [1, 2, 3, 4, 0] rfl)
            · have hf := (if_neg c10).symm.trans hf
              refine lv_iload hx hb dX11_bestOf_49 (lv_at hl 4 rfl) ?_
              refine lv_istore_n (lv' := [(3, .int v4), (0, .ref (ad 0)), (1, .int v1), (2, .int v2), (4, .int v4)]) hx hb dX11_bestOf_51 rfl hl (by decide) rfl (fun ls hl => ?_)
              refine lv_iinc (v := (v4 + (1 : Int32))) (lv' := [(4, .int (v4 + (1 : Int32))), (3, .int v4), (0, .ref (ad 0)), (1, .int v1), (2, .int v2)]) hx hb dX11_bestOf_52 hl (k := 4) rfl rfl (by decide) rfl (fun ls hl => ?_)
              refine lv_goto (tgt := 5) hx hb dX11_bestOf_55 (by decide) ?_
              obtain rfl := Option.some.inj hf
              exact Kl1 _ rfl _ _ _ hW (lv_sub hl [2, 3, 4, 1, 0] rfl)
  exact L5 (-1 : Int32) (0 : Int32) _ _ _ hf hW (lv_sub hl [2, 3, 4, 1, 0] rfl)
set_option maxHeartbeats 4000000 in
set_option maxRecDepth 100000 in
theorem c_X11_game {l : Launch} {D : va_G} {tc : Nat → ClassId} {ro : Ro} {ad : Nat → Nat} {μ : Mm} {v1 v2 : Int32} {res : Int32 × Mm} (hf : f_X11_game μ v1 v2 = some res) : Ct l D tc ro (faM ad) (feM tc ad) yX11_game cX11_game 5 (some .int) (rmq 5 112) [.ref (ad 0), .int v1, .int v2] μ (some (.int res.1)) res.2 := by
  refine Ct.of (by decide) (Nat.le_of_ble_eq_true rfl) (fun p e s m args below meth c A C hr hk hW ls hl => ?_)
  have hx := C.1.1
  have hb := C.1.2.1
  obtain ⟨Q, hQ⟩ : ∃ Q, Q = MQ below (Ctq D (faM ad) (feM tc ad) (some (.int res.1)) res.2 A) args s 0 0 A := ⟨_, rfl⟩
  rw [← hQ]
  have hl : lv_has ls 5 [(0, .ref (ad 0)), (1, .int v1), (2, .int v2)] := hl
  unfold f_X11_game at hf
  refine lv_aload_n hx hb dX11_game_0 rfl (lv_at hl 0 rfl) ?_
  refine lv_iconst (v := 0) hx hb dX11_game_1 (by decide) ?_
  refine pf_X11_3 C hW dX11_game_2 (fun H locs hW => ?_)
  refine lv_aload_n hx hb dX11_game_5 rfl (lv_at hl 0 rfl) ?_
  refine lv_aload_n hx hb dX11_game_6 rfl (lv_at hl 0 rfl) ?_
  refine lv_iload_n hx hb dX11_game_7 rfl (lv_at hl 1 rfl) ?_
  obtain ⟨x8, h8, hf⟩ := bd_of hf
  refine r_callV (k := ((0, 0) : Ky)) C hW hl lk_X11_359 (c_X11_noPerson h8) ⟨rfl, rfl⟩ ⟨Nat.le_of_ble_eq_true rfl, Nat.le_of_ble_eq_true rfl⟩ rfl rfl rfl (As := [.int v1]) (rest := [.ref (ad 0)]) rfl rfl (Nat.le_of_ble_eq_true rfl) dX11_game_8 ⟨Nat.zero_le _, Nat.zero_le _⟩ (fun H locs hW => ?_)
  show W p l e (rmq 5 112) s m args below meth c H locs 0 0 Q (F0 m 11 ls [.int x8, .ref (ad 0)])
  refine lv_iconst (v := 1) hx hb dX11_game_11 (by decide) ?_
  obtain ⟨x12, h12, hf⟩ := bd_of hf
  refine r_callV (k := ((0, 0) : Ky)) C hW hl lk_X11_322 (c_X11_throwsIf h12) ⟨rfl, rfl⟩ ⟨Nat.le_of_ble_eq_true rfl, Nat.le_of_ble_eq_true rfl⟩ rfl rfl rfl (As := [.int x8, .int (1 : Int32)]) (rest := []) rfl rfl (Nat.le_of_ble_eq_true rfl) dX11_game_12 ⟨Nat.zero_le _, Nat.zero_le _⟩ (fun H locs hW => ?_)
  show W p l e (rmq 5 112) s m args below meth c H locs 0 0 Q (F0 m 15 ls [.int x12.1])
  refine lv_if_eq (tgt := 20) hx hb dX11_game_15 (by decide) (fun c3 => ?_) (fun c3 => ?_)
  · have hf := (if_pos c3).symm.trans hf
    refine lv_aload_n hx hb dX11_game_20 rfl (lv_at hl 0 rfl) ?_
    refine lv_iload_n hx hb dX11_game_21 rfl (lv_at hl 1 rfl) ?_
    refine lv_aload_n hx hb dX11_game_22 rfl (lv_at hl 0 rfl) ?_
    obtain ⟨x23, h23, hf⟩ := bd_of hf
    refine r_callV (k := ((0, 0) : Ky)) C hW hl lk_X11_121 (c_X11_here h23) ⟨rfl, rfl⟩ ⟨Nat.le_of_ble_eq_true rfl, Nat.le_of_ble_eq_true rfl⟩ rfl rfl rfl (As := []) (rest := [.int v1, .ref (ad 0)]) rfl rfl (Nat.le_of_ble_eq_true rfl) dX11_game_23 ⟨Nat.zero_le _, Nat.zero_le _⟩ (fun H locs hW => ?_)
    show W p l e (rmq 5 112) s m args below meth c H locs 0 0 Q (F0 m 26 ls [.int x23, .int v1, .ref (ad 0)])
    obtain ⟨x26, h26, hf⟩ := bd_of hf
    refine r_callV (k := ((0, 0) : Ky)) C hW hl lk_X11_146 (c_X11_isSure h26) ⟨rfl, rfl⟩ ⟨Nat.le_of_ble_eq_true rfl, Nat.le_of_ble_eq_true rfl⟩ rfl rfl rfl (As := [.int v1, .int x23]) (rest := []) rfl rfl (Nat.le_of_ble_eq_true rfl) dX11_game_26 ⟨Nat.zero_le _, Nat.zero_le _⟩ (fun H locs hW => ?_)
    show W p l e (rmq 5 112) s m args below meth c H locs 0 0 Q (F0 m 29 ls [.int x26.1])
    refine lv_if_eq (tgt := 35) hx hb dX11_game_29 (by decide) (fun c6 => ?_) (fun c6 => ?_)
    · have hf := (if_pos c6).symm.trans hf
      refine lv_aload_n hx hb dX11_game_35 rfl (lv_at hl 0 rfl) ?_
      obtain ⟨x36, h36, hf⟩ := bd_of hf
      refine r_callV (k := ((0, 0) : Ky)) C hW hl lk_X11_412 (c_X11_keepsLeft h36) ⟨rfl, rfl⟩ ⟨Nat.le_of_ble_eq_true rfl, Nat.le_of_ble_eq_true rfl⟩ rfl rfl rfl (As := []) (rest := []) rfl rfl (Nat.le_of_ble_eq_true rfl) dX11_game_36 ⟨Nat.zero_le _, Nat.zero_le _⟩ (fun H locs hW => ?_)
      show W p l e (rmq 5 112) s m args below meth c H locs 0 0 Q (F0 m 39 ls [])
      refine lv_iconst (v := 1) hx hb dX11_game_39 (by decide) ?_
      refine lv_aload_n hx hb dX11_game_40 rfl (lv_at hl 0 rfl) ?_
      obtain ⟨x41, h41, hf⟩ := bd_of hf
      refine r_callV (k := ((0, 0) : Ky)) C hW hl lk_X11_107 (c_X11_people h41) ⟨rfl, rfl⟩ ⟨Nat.le_of_ble_eq_true rfl, Nat.le_of_ble_eq_true rfl⟩ rfl rfl rfl (As := []) (rest := [.int (1 : Int32)]) rfl rfl (Nat.le_of_ble_eq_true rfl) dX11_game_41 ⟨Nat.zero_le _, Nat.zero_le _⟩ (fun H locs hW => ?_)
      show W p l e (rmq 5 112) s m args below meth c H locs 0 0 Q (F0 m 44 ls [.int x41, .int (1 : Int32)])
      refine lv_ishl hx hb dX11_game_44 ?_
      refine lv_iconst (v := 1) hx hb dX11_game_45 (by decide) ?_
      refine lv_isub hx hb dX11_game_46 ?_
      refine lv_istore_n (lv' := [(3, .int (((1 : Int32) <<< (x41 &&& 31)) - (1 : Int32))), (0, .ref (ad 0)), (1, .int v1), (2, .int v2)]) hx hb dX11_game_47 rfl hl (by decide) rfl (fun ls hl => ?_)
      have L48 : ∀ (μ : Mm) (v3 : Int32) (H : Heap) (locs : List Loc) (ls : Array Slot), Wh (fun z : Mm × Int32 => f_X11_game_L48 v1 v2 z.1 z.2) (μ, v3) = some res → Wd D (faM ad) (feM tc ad) A s.heap μ H locs → lv_has ls 5 [(0, .ref (ad 0)), (1, .int v1), (2, .int v2), (3, .int v3)] → W p l e (rmq 5 112) s m args below meth c H locs 0 0 Q (F0 m 48 ls []) := by
        intro μ v3 H locs ls hf hW hl
        refine Wh_rule hf (fun z : Mm × Int32 => ∀ (H : Heap) (locs : List Loc) (ls : Array Slot), Wd D (faM ad) (feM tc ad) A s.heap z.1 H locs → lv_has ls 5 [(0, .ref (ad 0)), (1, .int v1), (2, .int v2), (3, .int z.2)] → W p l e (rmq 5 112) s m args below meth c H locs 0 0 Q (F0 m 48 ls [])) (fun z o1 hf Kl1 Kr1 => ?_) _ _ _ hW hl
        obtain ⟨μ, v3⟩ := z
        intro H locs ls hW hl
        have hf : f_X11_game_L48 v1 v2 μ v3 = some o1 := hf
        unfold f_X11_game_L48 at hf
        have hW : Wd D (faM ad) (feM tc ad) A s.heap μ H locs := hW
        have hl : lv_has ls 5 [(0, .ref (ad 0)), (1, .int v1), (2, .int v2), (3, .int v3)] := hl
        refine lv_iload_n hx hb dX11_game_48 rfl (lv_at hl 3 rfl) ?_
        refine lv_if_lt (tgt := 123) hx hb dX11_game_49 (by decide) (fun c9 => ?_) (fun c9 => ?_)
        · have hf := (if_pos c9).symm.trans hf
          obtain ⟨x9013, hf, hx9013⟩ := map_of hf
          have e9013 := (Kr1 _ hx9013.symm).symm
          subst e9013
          refine lv_iload_n hx hb dX11_game_123 rfl (lv_at hl 2 rfl) ?_
          refine lv_if_eq (tgt := 136) hx hb dX11_game_124 (by decide) (fun c10 => ?_) (fun c10 => ?_)
          · have hf := (if_pos c10).symm.trans hf
            refine lv_aload_n hx hb dX11_game_136 rfl (lv_at hl 0 rfl) ?_
            refine gf_X11_77 C hW dX11_game_137 ?_
            refine lv_iconst (v := 0) hx hb dX11_game_140 (by decide) ?_
            obtain ⟨hi11, hf⟩ := ck_of hf
            refine r_iald (k := ((31, 0) : Ky)) (n := 512) C hW rfl rfl hi11 dX11_game_141 ?_
            obtain rfl := Option.some.inj hf
            rw [hQ]
            exact r_iret C hr hk hW rfl rfl dX11_game_142
          · have hf := (if_neg c10).symm.trans hf
            refine lv_aload_n hx hb dX11_game_127 rfl (lv_at hl 0 rfl) ?_
            refine lv_iload_n hx hb dX11_game_128 rfl (lv_at hl 1 rfl) ?_
            refine lv_iconst (v := 0) hx hb dX11_game_129 (by decide) ?_
            obtain ⟨x130, h130, hf⟩ := bd_of hf
            refine r_callV (k := ((0, 0) : Ky)) C hW hl lk_X11_439 (c_X11_bestOf h130) ⟨rfl, rfl⟩ ⟨Nat.le_of_ble_eq_true rfl, Nat.le_of_ble_eq_true rfl⟩ rfl rfl rfl (As := [.int v1, .int (0 : Int32)]) (rest := []) rfl rfl (Nat.le_of_ble_eq_true rfl) dX11_game_130 ⟨Nat.zero_le _, Nat.zero_le _⟩ (fun H locs hW => ?_)
            show W p l e (rmq 5 112) s m args below meth c H locs 0 0 Q (F0 m 133 ls [.int x130])
            refine lv_goto (tgt := 142) hx hb dX11_game_133 (by decide) ?_
            obtain rfl := Option.some.inj hf
            rw [hQ]
            exact r_iret C hr hk hW rfl rfl dX11_game_142
        · have hf := (if_neg c9).symm.trans hf
          refine lv_iload_n hx hb dX11_game_52 rfl (lv_at hl 3 rfl) ?_
          refine lv_iload_n hx hb dX11_game_53 rfl (lv_at hl 1 rfl) ?_
          obtain ⟨x54, h54, hf⟩ := bd_of hf
          refine r_callS C hW hl lk_X11_103 (c_X11_has h54) ⟨rfl, rfl⟩ ⟨Nat.le_of_ble_eq_true rfl, Nat.le_of_ble_eq_true rfl⟩ (As := [.int v3, .int v1]) (rest := []) rfl rfl (Nat.le_of_ble_eq_true rfl) dX11_game_54 ⟨Nat.zero_le _, Nat.zero_le _⟩ (fun H locs hW => ?_)
          show W p l e (rmq 5 112) s m args below meth c H locs 0 0 Q (F0 m 57 ls [.int x54])
          refine lv_if_eq (tgt := 63) hx hb dX11_game_57 (by decide) (fun c15 => ?_) (fun c15 => ?_)
          · have hf := (if_pos c15).symm.trans hf
            refine lv_aload_n hx hb dX11_game_63 rfl (lv_at hl 0 rfl) ?_
            refine lv_iload_n hx hb dX11_game_64 rfl (lv_at hl 3 rfl) ?_
            obtain ⟨x65, h65, hf⟩ := bd_of hf
            refine r_callV (k := ((0, 0) : Ky)) C hW hl lk_X11_421 (c_X11_readsAll h65) ⟨rfl, rfl⟩ ⟨Nat.le_of_ble_eq_true rfl, Nat.le_of_ble_eq_true rfl⟩ rfl rfl rfl (As := [.int v3]) (rest := []) rfl rfl (Nat.le_of_ble_eq_true rfl) dX11_game_65 ⟨Nat.zero_le _, Nat.zero_le _⟩ (fun H locs hW => ?_)
            show W p l e (rmq 5 112) s m args below meth c H locs 0 0 Q (F0 m 68 ls [])
            refine lv_aload_n hx hb dX11_game_68 rfl (lv_at hl 0 rfl) ?_
            refine gf_X11_74 C hW dX11_game_69 ?_
            refine lv_iload_n hx hb dX11_game_72 rfl (lv_at hl 3 rfl) ?_
            refine lv_aload_n hx hb dX11_game_73 rfl (lv_at hl 0 rfl) ?_
            refine lv_iload_n hx hb dX11_game_74 rfl (lv_at hl 1 rfl) ?_
            refine lv_aload_n hx hb dX11_game_75 rfl (lv_at hl 0 rfl) ?_
            obtain ⟨x76, h76, hf⟩ := bd_of hf
            refine r_callV (k := ((0, 0) : Ky)) C hW hl lk_X11_121 (c_X11_here h76) ⟨rfl, rfl⟩ ⟨Nat.le_of_ble_eq_true rfl, Nat.le_of_ble_eq_true rfl⟩ rfl rfl rfl (As := []) (rest := [.int v1, .ref (ad 0), .int v3, .ref (ad 30)]) rfl rfl (Nat.le_of_ble_eq_true rfl) dX11_game_76 ⟨Nat.zero_le _, Nat.zero_le _⟩ (fun H locs hW => ?_)
            show W p l e (rmq 5 112) s m args below meth c H locs 0 0 Q (F0 m 79 ls [.int x76, .int v1, .ref (ad 0), .int v3, .ref (ad 30)])
            obtain ⟨x79, h79, hf⟩ := bd_of hf
            refine r_callV (k := ((0, 0) : Ky)) C hW hl lk_X11_146 (c_X11_isSure h79) ⟨rfl, rfl⟩ ⟨Nat.le_of_ble_eq_true rfl, Nat.le_of_ble_eq_true rfl⟩ rfl rfl rfl (As := [.int v1, .int x76]) (rest := [.int v3, .ref (ad 30)]) rfl rfl (Nat.le_of_ble_eq_true rfl) dX11_game_79 ⟨Nat.zero_le _, Nat.zero_le _⟩ (fun H locs hW => ?_)
            show W p l e (rmq 5 112) s m args below meth c H locs 0 0 Q (F0 m 82 ls [.int x79.1, .int v3, .ref (ad 30)])
            obtain ⟨hi19, hf⟩ := ck_of hf
            refine r_zast (k := ((30, 0) : Ky)) (n := 512) C hW rfl (fun _ => rfl) hi19 dX11_game_82 (fun H locs hW => ?_)
            refine lv_aload_n hx hb dX11_game_83 rfl (lv_at hl 0 rfl) ?_
            obtain ⟨x84, h84, hf⟩ := bd_of hf
            refine r_callV (k := ((0, 0) : Ky)) C hW hl lk_X11_415 (c_X11_bringsLeft h84) ⟨rfl, rfl⟩ ⟨Nat.le_of_ble_eq_true rfl, Nat.le_of_ble_eq_true rfl⟩ rfl rfl rfl (As := []) (rest := []) rfl rfl (Nat.le_of_ble_eq_true rfl) dX11_game_84 ⟨Nat.zero_le _, Nat.zero_le _⟩ (fun H locs hW => ?_)
            show W p l e (rmq 5 112) s m args below meth c H locs 0 0 Q (F0 m 87 ls [])
            refine lv_aload_n hx hb dX11_game_87 rfl (lv_at hl 0 rfl) ?_
            refine lv_iload_n hx hb dX11_game_88 rfl (lv_at hl 1 rfl) ?_
            refine lv_iload_n hx hb dX11_game_89 rfl (lv_at hl 3 rfl) ?_
            obtain ⟨x90, h90, hf⟩ := bd_of hf
            refine r_callV (k := ((0, 0) : Ky)) C hW hl lk_X11_439 (c_X11_bestOf h90) ⟨rfl, rfl⟩ ⟨Nat.le_of_ble_eq_true rfl, Nat.le_of_ble_eq_true rfl⟩ rfl rfl rfl (As := [.int v1, .int v3]) (rest := []) rfl rfl (Nat.le_of_ble_eq_true rfl) dX11_game_90 ⟨Nat.zero_le _, Nat.zero_le _⟩ (fun H locs hW => ?_)
            show W p l e (rmq 5 112) s m args below meth c H locs 0 0 Q (F0 m 93 ls [.int x90])
            refine lv_istore (lv' := [(4, .int x90), (0, .ref (ad 0)), (1, .int v1), (2, .int v2), (3, .int v3)]) hx hb dX11_game_93 hl (by decide) rfl (fun ls hl => ?_)
            refine lv_aload_n hx hb dX11_game_95 rfl (lv_at hl 1 rfl) ?_
            refine gf_X11_77 C hW dX11_game_96 ?_
            refine lv_iload_n hx hb dX11_game_99 rfl (lv_at hl 4 rfl) ?_
            refine lv_iload hx hb dX11_game_100 (lv_at hl 0 rfl) ?_
            refine lv_if_ge (tgt := 109) hx hb dX11_game_102 (by decide) (fun c22 => ?_) (fun c22 => ?_)
            · have hf := (if_pos c22).symm.trans hf
              refine lv_aload_n hx hb dX11_game_109 rfl (lv_at hl 1 rfl) ?_
              refine lv_iload_n hx hb dX11_game_110 rfl (lv_at hl 4 rfl) ?_
              refine lv_iload hx hb dX11_game_111 (lv_at hl 0 rfl) ?_
              obtain ⟨x113, h113, hf⟩ := bd_of hf
              refine r_callV (k := ((0, 0) : Ky)) C hW hl lk_X11_436 (c_X11_winBy h113) ⟨rfl, rfl⟩ ⟨Nat.le_of_ble_eq_true rfl, Nat.le_of_ble_eq_true rfl⟩ rfl rfl rfl (As := [.int v3, .int x90]) (rest := [.int v3, .ref (ad 31)]) rfl rfl (Nat.le_of_ble_eq_true rfl) dX11_game_113 ⟨Nat.zero_le _, Nat.zero_le _⟩ (fun H locs hW => ?_)
              show W p l e (rmq 5 112) s m args below meth c H locs 0 0 Q (F0 m 116 ls [.int x113, .int v3, .ref (ad 31)])
              obtain ⟨hi24, hf⟩ := ck_of hf
              refine r_iast (k := ((31, 0) : Ky)) (n := 512) C hW rfl (fun _ => rfl) hi24 dX11_game_116 (fun H locs hW => ?_)
              refine lv_iinc (v := (v3 + (-1 : Int32))) (lv' := [(3, .int (v3 + (-1 : Int32))), (4, .int x90), (0, .ref (ad 0)), (1, .int v1), (2, .int v2)]) hx hb dX11_game_117 hl (k := 4) rfl rfl (by decide) rfl (fun ls hl => ?_)
              refine lv_goto (tgt := 48) hx hb dX11_game_120 (by decide) ?_
              obtain rfl := Option.some.inj hf
              exact Kl1 _ rfl _ _ _ hW (lv_sub hl [2, 3, 4, 0] rfl)
            · have hf := (if_neg c22).symm.trans hf
              refine lv_iconst (v := 0) hx hb dX11_game_105 (by decide) ?_
              refine lv_goto (tgt := 116) hx hb dX11_game_106 (by decide) ?_
              obtain ⟨hi25, hf⟩ := ck_of hf
              refine r_iast (k := ((31, 0) : Ky)) (n := 512) C hW rfl (fun _ => rfl) hi25 dX11_game_116 (fun H locs hW => ?_)
              refine lv_iinc (v := (v3 + (-1 : Int32))) (lv' := [(3, .int (v3 + (-1 : Int32))), (4, .int x90), (0, .ref (ad 0)), (1, .int v1), (2, .int v2)]) hx hb dX11_game_117 hl (k := 4) rfl rfl (by decide) rfl (fun ls hl => ?_)
              refine lv_goto (tgt := 48) hx hb dX11_game_120 (by decide) ?_
              obtain rfl := Option.some.inj hf
              exact Kl1 _ rfl _ _ _ hW (lv_sub hl [2, 3, 4, 0] rfl)
          · have hf := (if_neg c15).symm.trans hf
            refine lv_goto (tgt := 117) hx hb dX11_game_60 (by decide) ?_
            refine lv_iinc (v := (v3 + (-1 : Int32))) (lv' := [(3, .int (v3 + (-1 : Int32))), (0, .ref (ad 0)), (1, .int v1), (2, .int v2)]) hx hb dX11_game_117 hl (k := 3) rfl rfl (by decide) rfl (fun ls hl => ?_)
            refine lv_goto (tgt := 48) hx hb dX11_game_120 (by decide) ?_
            obtain rfl := Option.some.inj hf
            exact Kl1 _ rfl _ _ _ hW (lv_sub hl [1, 2, 3, 0] rfl)
      exact L48 x36 (((1 : Int32) <<< (x41 &&& 31)) - (1 : Int32)) _ _ _ hf hW (lv_sub hl [1, 2, 3, 0] rfl)
    · have hf := (if_neg c6).symm.trans hf
      refine lv_bipush (v := -2) hx hb dX11_game_32 (by decide) ?_
      obtain rfl := Option.some.inj hf
      rw [hQ]
      exact r_iret C hr hk hW rfl rfl dX11_game_34
  · have hf := (if_neg c3).symm.trans hf
    refine lv_iconst (v := 0) hx hb dX11_game_18 (by decide) ?_
    obtain rfl := Option.some.inj hf
    rw [hQ]
    exact r_iret C hr hk hW rfl rfl dX11_game_19
set_option maxHeartbeats 4000000 in
set_option maxRecDepth 100000 in
theorem c_X11_steps {l : Launch} {D : va_G} {tc : Nat → ClassId} {ro : Ro} {ad : Nat → Nat} {μ : Mm} {v1 v2 : Int32} {res : Int32 × Mm} (hf : f_X11_steps μ v1 v2 = some res) : Ct l D tc ro (faM ad) (feM tc ad) yX11_steps cX11_steps 7 (some .int) (rmq 2 43) [.ref (ad 0), .int v1, .int v2] μ (some (.int res.1)) res.2 := by
  refine Ct.of (by decide) (Nat.le_of_ble_eq_true rfl) (fun p e s m args below meth c A C hr hk hW ls hl => ?_)
  have hx := C.1.1
  have hb := C.1.2.1
  obtain ⟨Q, hQ⟩ : ∃ Q, Q = MQ below (Ctq D (faM ad) (feM tc ad) (some (.int res.1)) res.2 A) args s 0 0 A := ⟨_, rfl⟩
  rw [← hQ]
  have hl : lv_has ls 7 [(0, .ref (ad 0)), (1, .int v1), (2, .int v2)] := hl
  unfold f_X11_steps at hf
  have J27 : ∀ (μ : Mm) (s0 : Int32) (H : Heap) (locs : List Loc) (ls : Array Slot), f_X11_steps_J27 μ v1 v2 s0 = some res → Wd D (faM ad) (feM tc ad) A s.heap μ H locs → lv_has ls 7 [(0, .ref (ad 0)), (1, .int v1), (2, .int v2)] → W p l e (rmq 2 43) s m args below meth c H locs 0 0 Q (F0 m 27 ls [.int s0, .ref (ad 0)]) := by
    intro μ s0 H locs ls hf hW hl
    unfold f_X11_steps_J27 at hf
    refine lv_iconst (v := 1) hx hb dX11_steps_27 (by decide) ?_
    obtain ⟨x28, h28, hf⟩ := bd_of hf
    refine r_callV (k := ((0, 0) : Ky)) C hW hl lk_X11_322 (c_X11_throwsIf h28) ⟨rfl, rfl⟩ ⟨Nat.le_of_ble_eq_true rfl, Nat.le_of_ble_eq_true rfl⟩ rfl rfl rfl (As := [.int s0, .int (1 : Int32)]) (rest := []) rfl rfl (Nat.le_of_ble_eq_true rfl) dX11_steps_28 ⟨Nat.zero_le _, Nat.zero_le _⟩ (fun H locs hW => ?_)
    show W p l e (rmq 2 43) s m args below meth c H locs 0 0 Q (F0 m 31 ls [.int x28.1])
    refine lv_if_eq (tgt := 36) hx hb dX11_steps_31 (by decide) (fun c2 => ?_) (fun c2 => ?_)
    · have hf := (if_pos c2).symm.trans hf
      refine lv_iconst (v := 1) hx hb dX11_steps_36 (by decide) ?_
      refine lv_iload_n hx hb dX11_steps_37 rfl (lv_at hl 1 rfl) ?_
      refine lv_ishl hx hb dX11_steps_38 ?_
      refine lv_istore_n (lv' := [(3, .int ((1 : Int32) <<< (v1 &&& 31))), (0, .ref (ad 0)), (1, .int v1), (2, .int v2)]) hx hb dX11_steps_39 rfl hl (by decide) rfl (fun ls hl => ?_)
      refine lv_iconst (v := 0) hx hb dX11_steps_40 (by decide) ?_
      refine lv_istore (lv' := [(4, .int (0 : Int32)), (3, .int ((1 : Int32) <<< (v1 &&& 31))), (0, .ref (ad 0)), (1, .int v1), (2, .int v2)]) hx hb dX11_steps_41 hl (by decide) rfl (fun ls hl => ?_)
      have L43 : ∀ (μ : Mm) (v3 v4 : Int32) (H : Heap) (locs : List Loc) (ls : Array Slot), Wh (fun z : Int32 × Int32 => f_X11_steps_L43 v2 μ z.1 z.2) (v3, v4) = some res → Wd D (faM ad) (feM tc ad) A s.heap μ H locs → lv_has ls 7 [(0, .ref (ad 0)), (2, .int v2), (3, .int v3), (4, .int v4)] → W p l e (rmq 2 43) s m args below meth c H locs 0 0 Q (F0 m 43 ls []) := by
        intro μ v3 v4 H locs ls hf hW hl
        refine Wh_rule hf (fun z : Int32 × Int32 => ∀ (H : Heap) (locs : List Loc) (ls : Array Slot), Wd D (faM ad) (feM tc ad) A s.heap μ H locs → lv_has ls 7 [(0, .ref (ad 0)), (2, .int v2), (3, .int z.1), (4, .int z.2)] → W p l e (rmq 2 43) s m args below meth c H locs 0 0 Q (F0 m 43 ls [])) (fun z o1 hf Kl1 Kr1 => ?_) _ _ _ hW hl
        obtain ⟨v3, v4⟩ := z
        intro H locs ls hW hl
        have hf : f_X11_steps_L43 v2 μ v3 v4 = some o1 := hf
        unfold f_X11_steps_L43 at hf
        have hW : Wd D (faM ad) (feM tc ad) A s.heap μ H locs := hW
        have hl : lv_has ls 7 [(0, .ref (ad 0)), (2, .int v2), (3, .int v3), (4, .int v4)] := hl
        refine lv_iload hx hb dX11_steps_43 (lv_at hl 3 rfl) ?_
        refine lv_aload_n hx hb dX11_steps_45 rfl (lv_at hl 0 rfl) ?_
        obtain ⟨x46, h46, hf⟩ := bd_of hf
        refine r_callV (k := ((0, 0) : Ky)) C hW hl lk_X11_107 (c_X11_people h46) ⟨rfl, rfl⟩ ⟨Nat.le_of_ble_eq_true rfl, Nat.le_of_ble_eq_true rfl⟩ rfl rfl rfl (As := []) (rest := [.int v4]) rfl rfl (Nat.le_of_ble_eq_true rfl) dX11_steps_46 ⟨Nat.zero_le _, Nat.zero_le _⟩ (fun H locs hW => ?_)
        show W p l e (rmq 2 43) s m args below meth c H locs 0 0 Q (F0 m 49 ls [.int x46, .int v4])
        refine lv_icmp_ge (tgt := 121) hx hb dX11_steps_49 (by decide) (fun c4 => ?_) (fun c4 => ?_)
        · have hf := (if_pos c4).symm.trans hf
          obtain ⟨x9005, hf, hx9005⟩ := map_of hf
          have e9005 := (Kr1 _ hx9005.symm).symm
          subst e9005
          refine lv_iconst (v := -1) hx hb dX11_steps_121 (by decide) ?_
          obtain rfl := Option.some.inj hf
          rw [hQ]
          exact r_iret C hr hk hW rfl rfl dX11_steps_122
        · have hf := (if_neg c4).symm.trans hf
          refine lv_iload_n hx hb dX11_steps_52 rfl (lv_at hl 2 rfl) ?_
          refine lv_iload_n hx hb dX11_steps_53 rfl (lv_at hl 1 rfl) ?_
          obtain ⟨x54, h54, hf⟩ := bd_of hf
          refine r_callS C hW hl lk_X11_103 (c_X11_has h54) ⟨rfl, rfl⟩ ⟨Nat.le_of_ble_eq_true rfl, Nat.le_of_ble_eq_true rfl⟩ (As := [.int v3, .int v2]) (rest := []) rfl rfl (Nat.le_of_ble_eq_true rfl) dX11_steps_54 ⟨Nat.zero_le _, Nat.zero_le _⟩ (fun H locs hW => ?_)
          show W p l e (rmq 2 43) s m args below meth c H locs 0 0 Q (F0 m 57 ls [.int x54])
          refine lv_if_eq (tgt := 63) hx hb dX11_steps_57 (by decide) (fun c7 => ?_) (fun c7 => ?_)
          · have hf := (if_pos c7).symm.trans hf
            refine lv_iload_n hx hb dX11_steps_63 rfl (lv_at hl 2 rfl) ?_
            refine lv_istore (lv' := [(5, .int v3), (0, .ref (ad 0)), (2, .int v2), (3, .int v3), (4, .int v4)]) hx hb dX11_steps_64 hl (by decide) rfl (fun ls hl => ?_)
            refine lv_iconst (v := 0) hx hb dX11_steps_66 (by decide) ?_
            refine lv_istore (lv' := [(6, .int (0 : Int32)), (5, .int v3), (0, .ref (ad 0)), (2, .int v2), (3, .int v3), (4, .int v4)]) hx hb dX11_steps_67 hl (by decide) rfl (fun ls hl => ?_)
            have L69 : ∀ (v3 v4 v5 v6 : Int32) (H : Heap) (locs : List Loc) (ls : Array Slot), Wh (fun z : Int32 × Int32 => f_X11_steps_L69 v2 v3 v4 μ z.1 z.2) (v5, v6) = some o1 → Wd D (faM ad) (feM tc ad) A s.heap μ H locs → lv_has ls 7 [(0, .ref (ad 0)), (2, .int v2), (3, .int v3), (4, .int v4), (5, .int v5), (6, .int v6)] → W p l e (rmq 2 43) s m args below meth c H locs 0 0 Q (F0 m 69 ls []) := by
              intro v3 v4 v5 v6 H locs ls hf hW hl
              refine Wh_rule hf (fun z : Int32 × Int32 => ∀ (H : Heap) (locs : List Loc) (ls : Array Slot), Wd D (faM ad) (feM tc ad) A s.heap μ H locs → lv_has ls 7 [(0, .ref (ad 0)), (2, .int v2), (3, .int v3), (4, .int v4), (5, .int z.1), (6, .int z.2)] → W p l e (rmq 2 43) s m args below meth c H locs 0 0 Q (F0 m 69 ls [])) (fun z o2 hf Kl2 Kr2 => ?_) _ _ _ hW hl
              obtain ⟨v5, v6⟩ := z
              intro H locs ls hW hl
              have hf : f_X11_steps_L69 v2 v3 v4 μ v5 v6 = some o2 := hf
              unfold f_X11_steps_L69 at hf
              have hW : Wd D (faM ad) (feM tc ad) A s.heap μ H locs := hW
              have hl : lv_has ls 7 [(0, .ref (ad 0)), (2, .int v2), (3, .int v3), (4, .int v4), (5, .int v5), (6, .int v6)] := hl
              refine lv_iload hx hb dX11_steps_69 (lv_at hl 5 rfl) ?_
              refine lv_aload_n hx hb dX11_steps_71 rfl (lv_at hl 0 rfl) ?_
              obtain ⟨x72, h72, hf⟩ := bd_of hf
              refine r_callV (k := ((0, 0) : Ky)) C hW hl lk_X11_107 (c_X11_people h72) ⟨rfl, rfl⟩ ⟨Nat.le_of_ble_eq_true rfl, Nat.le_of_ble_eq_true rfl⟩ rfl rfl rfl (As := []) (rest := [.int v6]) rfl rfl (Nat.le_of_ble_eq_true rfl) dX11_steps_72 ⟨Nat.zero_le _, Nat.zero_le _⟩ (fun H locs hW => ?_)
              show W p l e (rmq 2 43) s m args below meth c H locs 0 0 Q (F0 m 75 ls [.int x72, .int v6])
              refine lv_icmp_ge (tgt := 112) hx hb dX11_steps_75 (by decide) (fun c9 => ?_) (fun c9 => ?_)
              · have hf := (if_pos c9).symm.trans hf
                obtain ⟨x9010, hf, hx9010⟩ := map_of hf
                have e9010 := (Kr2 _ hx9010.symm).symm
                subst e9010
                refine lv_iload hx hb dX11_steps_112 (lv_at hl 4 rfl) ?_
                refine lv_istore_n (lv' := [(3, .int v5), (0, .ref (ad 0)), (2, .int v2), (4, .int v4), (5, .int v5), (6, .int v6)]) hx hb dX11_steps_114 rfl hl (by decide) rfl (fun ls hl => ?_)
                refine lv_iinc (v := (v4 + (1 : Int32))) (lv' := [(4, .int (v4 + (1 : Int32))), (3, .int v5), (0, .ref (ad 0)), (2, .int v2), (5, .int v5), (6, .int v6)]) hx hb dX11_steps_115 hl (k := 3) rfl rfl (by decide) rfl (fun ls hl => ?_)
                refine lv_goto (tgt := 43) hx hb dX11_steps_118 (by decide) ?_
                obtain rfl := Option.some.inj hf
                exact Kl1 _ rfl _ _ _ hW (lv_sub hl [2, 3, 1, 0] rfl)
              · have hf := (if_neg c9).symm.trans hf
                refine lv_iload hx hb dX11_steps_78 (lv_at hl 4 rfl) ?_
                refine lv_iload_n hx hb dX11_steps_80 rfl (lv_at hl 2 rfl) ?_
                refine lv_iload hx hb dX11_steps_81 (lv_at hl 5 rfl) ?_
                obtain ⟨x83, h83, hf⟩ := bd_of hf
                refine r_callS C hW hl lk_X11_103 (c_X11_has h83) ⟨rfl, rfl⟩ ⟨Nat.le_of_ble_eq_true rfl, Nat.le_of_ble_eq_true rfl⟩ (As := [.int v3, .int v6]) (rest := [.int v5]) rfl rfl (Nat.le_of_ble_eq_true rfl) dX11_steps_83 ⟨Nat.zero_le _, Nat.zero_le _⟩ (fun H locs hW => ?_)
                show W p l e (rmq 2 43) s m args below meth c H locs 0 0 Q (F0 m 86 ls [.int x83, .int v5])
                refine lv_if_eq (tgt := 102) hx hb dX11_steps_86 (by decide) (fun c12 => ?_) (fun c12 => ?_)
                · have hf := (if_pos c12).symm.trans hf
                  refine lv_iconst (v := 0) hx hb dX11_steps_102 (by decide) ?_
                  refine lv_ior hx hb dX11_steps_103 ?_
                  refine lv_istore (lv' := [(5, .int (v5 ||| (0 : Int32))), (0, .ref (ad 0)), (2, .int v2), (3, .int v3), (4, .int v4), (6, .int v6)]) hx hb dX11_steps_104 hl (by decide) rfl (fun ls hl => ?_)
                  refine lv_iinc (v := (v6 + (1 : Int32))) (lv' := [(6, .int (v6 + (1 : Int32))), (5, .int (v5 ||| (0 : Int32))), (0, .ref (ad 0)), (2, .int v2), (3, .int v3), (4, .int v4)]) hx hb dX11_steps_106 hl (k := 5) rfl rfl (by decide) rfl (fun ls hl => ?_)
                  refine lv_goto (tgt := 69) hx hb dX11_steps_109 (by decide) ?_
                  obtain rfl := Option.some.inj hf
                  exact Kl2 _ rfl _ _ _ hW (lv_sub hl [2, 3, 4, 5, 1, 0] rfl)
                · have hf := (if_neg c12).symm.trans hf
                  refine lv_aload_n hx hb dX11_steps_89 rfl (lv_at hl 0 rfl) ?_
                  refine gf_X11_13 C hW dX11_steps_90 ?_
                  refine lv_bipush (v := 11) hx hb dX11_steps_93 (by decide) ?_
                  refine lv_iload hx hb dX11_steps_95 (lv_at hl 5 rfl) ?_
                  refine lv_iadd hx hb dX11_steps_97 ?_
                  obtain ⟨hi13, hf⟩ := ck_of hf
                  refine r_iald (k := ((1, 0) : Ky)) (n := 7114) C hW rfl rfl hi13 dX11_steps_98 ?_
                  refine lv_goto (tgt := 103) hx hb dX11_steps_99 (by decide) ?_
                  refine lv_ior hx hb dX11_steps_103 ?_
                  refine lv_istore (lv' := [(5, .int (v5 ||| (μ (1, 0) ((11 : Int32) + v6).toNatClampNeg))), (0, .ref (ad 0)), (2, .int v2), (3, .int v3), (4, .int v4), (6, .int v6)]) hx hb dX11_steps_104 hl (by decide) rfl (fun ls hl => ?_)
                  refine lv_iinc (v := (v6 + (1 : Int32))) (lv' := [(6, .int (v6 + (1 : Int32))), (5, .int (v5 ||| (μ (1, 0) ((11 : Int32) + v6).toNatClampNeg))), (0, .ref (ad 0)), (2, .int v2), (3, .int v3), (4, .int v4)]) hx hb dX11_steps_106 hl (k := 5) rfl rfl (by decide) rfl (fun ls hl => ?_)
                  refine lv_goto (tgt := 69) hx hb dX11_steps_109 (by decide) ?_
                  obtain rfl := Option.some.inj hf
                  exact Kl2 _ rfl _ _ _ hW (lv_sub hl [2, 3, 4, 5, 1, 0] rfl)
            exact L69 v3 v4 v3 (0 : Int32) _ _ _ hf hW (lv_sub hl [2, 3, 4, 5, 1, 0] rfl)
          · have hf := (if_neg c7).symm.trans hf
            obtain ⟨x9014, hf, hx9014⟩ := map_of hf
            have e9014 := (Kr1 _ hx9014.symm).symm
            subst e9014
            refine lv_iload hx hb dX11_steps_60 (lv_at hl 3 rfl) ?_
            obtain rfl := Option.some.inj hf
            rw [hQ]
            exact r_iret C hr hk hW rfl rfl dX11_steps_62
      exact L43 x28.2 ((1 : Int32) <<< (v1 &&& 31)) (0 : Int32) _ _ _ hf hW (lv_sub hl [2, 4, 1, 0] rfl)
    · have hf := (if_neg c2).symm.trans hf
      refine lv_iconst (v := 0) hx hb dX11_steps_34 (by decide) ?_
      obtain rfl := Option.some.inj hf
      rw [hQ]
      exact r_iret C hr hk hW rfl rfl dX11_steps_35
  refine lv_aload_n hx hb dX11_steps_0 rfl (lv_at hl 0 rfl) ?_
  refine lv_iconst (v := 0) hx hb dX11_steps_1 (by decide) ?_
  refine pf_X11_3 C hW dX11_steps_2 (fun H locs hW => ?_)
  refine lv_aload_n hx hb dX11_steps_5 rfl (lv_at hl 0 rfl) ?_
  refine lv_aload_n hx hb dX11_steps_6 rfl (lv_at hl 0 rfl) ?_
  refine lv_iload_n hx hb dX11_steps_7 rfl (lv_at hl 1 rfl) ?_
  obtain ⟨x8, h8, hf⟩ := bd_of hf
  refine r_callV (k := ((0, 0) : Ky)) C hW hl lk_X11_359 (c_X11_noPerson h8) ⟨rfl, rfl⟩ ⟨Nat.le_of_ble_eq_true rfl, Nat.le_of_ble_eq_true rfl⟩ rfl rfl rfl (As := [.int v1]) (rest := [.ref (ad 0)]) rfl rfl (Nat.le_of_ble_eq_true rfl) dX11_steps_8 ⟨Nat.zero_le _, Nat.zero_le _⟩ (fun H locs hW => ?_)
  show W p l e (rmq 2 43) s m args below meth c H locs 0 0 Q (F0 m 11 ls [.int x8, .ref (ad 0)])
  refine lv_if_ne (tgt := 22) hx hb dX11_steps_11 (by decide) (fun c16 => ?_) (fun c16 => ?_)
  · have hf := (if_neg c16).symm.trans hf
    refine lv_iconst (v := 1) hx hb dX11_steps_22 (by decide) ?_
    refine lv_goto (tgt := 27) hx hb dX11_steps_23 (by decide) ?_
    exact J27 (mst μ (0, 0) 0 (0 : Int32)) (1 : Int32) _ _ _ hf hW (lv_sub hl [0, 1, 2] rfl)
  · have hf := (if_pos c16).symm.trans hf
    refine lv_aload_n hx hb dX11_steps_14 rfl (lv_at hl 0 rfl) ?_
    refine lv_iload_n hx hb dX11_steps_15 rfl (lv_at hl 2 rfl) ?_
    obtain ⟨x16, h16, hf⟩ := bd_of hf
    refine r_callV (k := ((0, 0) : Ky)) C hW hl lk_X11_359 (c_X11_noPerson h16) ⟨rfl, rfl⟩ ⟨Nat.le_of_ble_eq_true rfl, Nat.le_of_ble_eq_true rfl⟩ rfl rfl rfl (As := [.int v2]) (rest := [.ref (ad 0)]) rfl rfl (Nat.le_of_ble_eq_true rfl) dX11_steps_16 ⟨Nat.zero_le _, Nat.zero_le _⟩ (fun H locs hW => ?_)
    show W p l e (rmq 2 43) s m args below meth c H locs 0 0 Q (F0 m 19 ls [.int x16, .ref (ad 0)])
    refine lv_if_eq (tgt := 26) hx hb dX11_steps_19 (by decide) (fun c18 => ?_) (fun c18 => ?_)
    · have hf := (if_pos c18).symm.trans hf
      refine lv_iconst (v := 0) hx hb dX11_steps_26 (by decide) ?_
      exact J27 (mst μ (0, 0) 0 (0 : Int32)) (0 : Int32) _ _ _ hf hW (lv_sub hl [0, 1, 2] rfl)
    · have hf := (if_neg c18).symm.trans hf
      refine lv_iconst (v := 1) hx hb dX11_steps_22 (by decide) ?_
      refine lv_goto (tgt := 27) hx hb dX11_steps_23 (by decide) ?_
      exact J27 (mst μ (0, 0) 0 (0 : Int32)) (1 : Int32) _ _ _ hf hW (lv_sub hl [0, 1, 2] rfl)
set_option maxHeartbeats 4000000 in
set_option maxRecDepth 100000 in
theorem c_X11_trial {l : Launch} {D : va_G} {tc : Nat → ClassId} {ro : Ro} {ad : Nat → Nat} {μ : Mm} {v1 : Int32} {res : Int32 × Mm} (hf : f_X11_trial μ v1 = some res) : Ct l D tc ro (faM ad) (feM tc ad) yX11_trial cX11_trial 3 (some .int) (rmq 9 210) [.ref (ad 0), .int v1] μ (some (.int res.1)) res.2 := by
  refine Ct.of (by decide) (Nat.le_of_ble_eq_true rfl) (fun p e s m args below meth c A C hr hk hW ls hl => ?_)
  have hx := C.1.1
  have hb := C.1.2.1
  obtain ⟨Q, hQ⟩ : ∃ Q, Q = MQ below (Ctq D (faM ad) (feM tc ad) (some (.int res.1)) res.2 A) args s 0 0 A := ⟨_, rfl⟩
  rw [← hQ]
  have hl : lv_has ls 3 [(0, .ref (ad 0)), (1, .int v1)] := hl
  unfold f_X11_trial at hf
  have J21 : ∀ (μ : Mm) (s0 : Int32) (H : Heap) (locs : List Loc) (ls : Array Slot), f_X11_trial_J21 μ v1 s0 = some res → Wd D (faM ad) (feM tc ad) A s.heap μ H locs → lv_has ls 3 [(0, .ref (ad 0)), (1, .int v1)] → W p l e (rmq 9 210) s m args below meth c H locs 0 0 Q (F0 m 21 ls [.int s0, .ref (ad 0)]) := by
    intro μ s0 H locs ls hf hW hl
    unfold f_X11_trial_J21 at hf
    refine lv_iconst (v := 1) hx hb dX11_trial_21 (by decide) ?_
    obtain ⟨x22, h22, hf⟩ := bd_of hf
    refine r_callV (k := ((0, 0) : Ky)) C hW hl lk_X11_322 (c_X11_throwsIf h22) ⟨rfl, rfl⟩ ⟨Nat.le_of_ble_eq_true rfl, Nat.le_of_ble_eq_true rfl⟩ rfl rfl rfl (As := [.int s0, .int (1 : Int32)]) (rest := []) rfl rfl (Nat.le_of_ble_eq_true rfl) dX11_trial_22 ⟨Nat.zero_le _, Nat.zero_le _⟩ (fun H locs hW => ?_)
    show W p l e (rmq 9 210) s m args below meth c H locs 0 0 Q (F0 m 25 ls [.int x22.1])
    refine lv_if_eq (tgt := 30) hx hb dX11_trial_25 (by decide) (fun c2 => ?_) (fun c2 => ?_)
    · have hf := (if_pos c2).symm.trans hf
      refine lv_aload_n hx hb dX11_trial_30 rfl (lv_at hl 0 rfl) ?_
      obtain ⟨x31, h31, hf⟩ := bd_of hf
      refine r_callV (k := ((0, 0) : Ky)) C hW hl lk_X11_442 (c_X11_keepsAll h31) ⟨rfl, rfl⟩ ⟨Nat.le_of_ble_eq_true rfl, Nat.le_of_ble_eq_true rfl⟩ rfl rfl rfl (As := []) (rest := []) rfl rfl (Nat.le_of_ble_eq_true rfl) dX11_trial_31 ⟨Nat.zero_le _, Nat.zero_le _⟩ (fun H locs hW => ?_)
      show W p l e (rmq 9 210) s m args below meth c H locs 0 0 Q (F0 m 34 ls [])
      refine lv_aload_n hx hb dX11_trial_34 rfl (lv_at hl 0 rfl) ?_
      refine lv_iload_n hx hb dX11_trial_35 rfl (lv_at hl 1 rfl) ?_
      obtain ⟨x36, h36, hf⟩ := bd_of hf
      refine r_callV (k := ((0, 0) : Ky)) C hW hl lk_X11_386 (c_X11_strolls h36) ⟨rfl, rfl⟩ ⟨Nat.le_of_ble_eq_true rfl, Nat.le_of_ble_eq_true rfl⟩ rfl rfl rfl (As := [.int v1]) (rest := []) rfl rfl (Nat.le_of_ble_eq_true rfl) dX11_trial_36 ⟨Nat.zero_le _, Nat.zero_le _⟩ (fun H locs hW => ?_)
      show W p l e (rmq 9 210) s m args below meth c H locs 0 0 Q (F0 m 39 ls [.int x36.1])
      refine lv_pop hx hb dX11_trial_39 rfl ?_
      refine lv_aload_n hx hb dX11_trial_40 rfl (lv_at hl 0 rfl) ?_
      refine lv_aload_n hx hb dX11_trial_41 rfl (lv_at hl 0 rfl) ?_
      obtain ⟨x42, h42, hf⟩ := bd_of hf
      refine r_callV (k := ((0, 0) : Ky)) C hW hl lk_X11_121 (c_X11_here h42) ⟨rfl, rfl⟩ ⟨Nat.le_of_ble_eq_true rfl, Nat.le_of_ble_eq_true rfl⟩ rfl rfl rfl (As := []) (rest := [.ref (ad 0)]) rfl rfl (Nat.le_of_ble_eq_true rfl) dX11_trial_42 ⟨Nat.zero_le _, Nat.zero_le _⟩ (fun H locs hW => ?_)
      show W p l e (rmq 9 210) s m args below meth c H locs 0 0 Q (F0 m 45 ls [.int x42, .ref (ad 0)])
      obtain ⟨x45, h45, hf⟩ := bd_of hf
      refine r_callV (k := ((0, 0) : Ky)) C hW hl lk_X11_340 (c_X11_sureOnes h45) ⟨rfl, rfl⟩ ⟨Nat.le_of_ble_eq_true rfl, Nat.le_of_ble_eq_true rfl⟩ rfl rfl rfl (As := [.int x42]) (rest := []) rfl rfl (Nat.le_of_ble_eq_true rfl) dX11_trial_45 ⟨Nat.zero_le _, Nat.zero_le _⟩ (fun H locs hW => ?_)
      show W p l e (rmq 9 210) s m args below meth c H locs 0 0 Q (F0 m 48 ls [.int x45.1])
      refine lv_istore_n (lv' := [(2, .int x45.1), (0, .ref (ad 0)), (1, .int v1)]) hx hb dX11_trial_48 rfl hl (by decide) rfl (fun ls hl => ?_)
      refine lv_aload_n hx hb dX11_trial_49 rfl (lv_at hl 1 rfl) ?_
      obtain ⟨x50, h50, hf⟩ := bd_of hf
      refine r_callV (k := ((0, 0) : Ky)) C hW hl lk_X11_445 (c_X11_bringsBack h50) ⟨rfl, rfl⟩ ⟨Nat.le_of_ble_eq_true rfl, Nat.le_of_ble_eq_true rfl⟩ rfl rfl rfl (As := []) (rest := []) rfl rfl (Nat.le_of_ble_eq_true rfl) dX11_trial_50 ⟨Nat.zero_le _, Nat.zero_le _⟩ (fun H locs hW => ?_)
      show W p l e (rmq 9 210) s m args below meth c H locs 0 0 Q (F0 m 53 ls [])
      refine lv_iload_n hx hb dX11_trial_53 rfl (lv_at hl 0 rfl) ?_
      obtain rfl := Option.some.inj hf
      rw [hQ]
      exact r_iret C hr hk hW rfl rfl dX11_trial_54
    · have hf := (if_neg c2).symm.trans hf
      refine lv_iconst (v := 0) hx hb dX11_trial_28 (by decide) ?_
      obtain rfl := Option.some.inj hf
      rw [hQ]
      exact r_iret C hr hk hW rfl rfl dX11_trial_29
  refine lv_aload_n hx hb dX11_trial_0 rfl (lv_at hl 0 rfl) ?_
  refine lv_iconst (v := 0) hx hb dX11_trial_1 (by decide) ?_
  refine pf_X11_3 C hW dX11_trial_2 (fun H locs hW => ?_)
  refine lv_aload_n hx hb dX11_trial_5 rfl (lv_at hl 0 rfl) ?_
  refine lv_iload_n hx hb dX11_trial_6 rfl (lv_at hl 1 rfl) ?_
  refine lv_iconst (v := 0) hx hb dX11_trial_7 (by decide) ?_
  refine lv_bipush (v := 30) hx hb dX11_trial_8 (by decide) ?_
  obtain ⟨x10, h10, hf⟩ := bd_of hf
  refine r_callS C hW hl lk_X11_111 (c_X11_in h10) ⟨rfl, rfl⟩ ⟨Nat.le_of_ble_eq_true rfl, Nat.le_of_ble_eq_true rfl⟩ (As := [.int v1, .int (0 : Int32), .int (30 : Int32)]) (rest := [.ref (ad 0)]) rfl rfl (Nat.le_of_ble_eq_true rfl) dX11_trial_10 ⟨Nat.zero_le _, Nat.zero_le _⟩ (fun H locs hW => ?_)
  show W p l e (rmq 9 210) s m args below meth c H locs 0 0 Q (F0 m 13 ls [.int x10, .ref (ad 0)])
  refine lv_if_ne (tgt := 20) hx hb dX11_trial_13 (by decide) (fun c9 => ?_) (fun c9 => ?_)
  · have hf := (if_neg c9).symm.trans hf
    refine lv_iconst (v := 0) hx hb dX11_trial_20 (by decide) ?_
    exact J21 (mst μ (0, 0) 0 (0 : Int32)) (0 : Int32) _ _ _ hf hW (lv_sub hl [0, 1] rfl)
  · have hf := (if_pos c9).symm.trans hf
    refine lv_iconst (v := 1) hx hb dX11_trial_16 (by decide) ?_
    refine lv_goto (tgt := 21) hx hb dX11_trial_17 (by decide) ?_
    exact J21 (mst μ (0, 0) 0 (0 : Int32)) (1 : Int32) _ _ _ hf hW (lv_sub hl [0, 1] rfl)
set_option maxHeartbeats 4000000 in
set_option maxRecDepth 100000 in
theorem c_X11_span {l : Launch} {D : va_G} {tc : Nat → ClassId} {ro : Ro} {ad : Nat → Nat} {μ : Mm} {v1 v2 : Int32} {res : Int32 × Mm} (hf : f_X11_span μ v1 v2 = some res) : Ct l D tc ro (faM ad) (feM tc ad) yX11_span cX11_span 6 (some .int) (rmq 9 210) [.ref (ad 0), .int v1, .int v2] μ (some (.int res.1)) res.2 := by
  refine Ct.of (by decide) (Nat.le_of_ble_eq_true rfl) (fun p e s m args below meth c A C hr hk hW ls hl => ?_)
  have hx := C.1.1
  have hb := C.1.2.1
  obtain ⟨Q, hQ⟩ : ∃ Q, Q = MQ below (Ctq D (faM ad) (feM tc ad) (some (.int res.1)) res.2 A) args s 0 0 A := ⟨_, rfl⟩
  rw [← hQ]
  have hl : lv_has ls 6 [(0, .ref (ad 0)), (1, .int v1), (2, .int v2)] := hl
  unfold f_X11_span at hf
  have J21 : ∀ (μ : Mm) (s0 : Int32) (H : Heap) (locs : List Loc) (ls : Array Slot), f_X11_span_J21 μ v1 v2 s0 = some res → Wd D (faM ad) (feM tc ad) A s.heap μ H locs → lv_has ls 6 [(0, .ref (ad 0)), (1, .int v1), (2, .int v2)] → W p l e (rmq 9 210) s m args below meth c H locs 0 0 Q (F0 m 21 ls [.int s0, .ref (ad 0)]) := by
    intro μ s0 H locs ls hf hW hl
    unfold f_X11_span_J21 at hf
    refine lv_iconst (v := 1) hx hb dX11_span_21 (by decide) ?_
    obtain ⟨x22, h22, hf⟩ := bd_of hf
    refine r_callV (k := ((0, 0) : Ky)) C hW hl lk_X11_322 (c_X11_throwsIf h22) ⟨rfl, rfl⟩ ⟨Nat.le_of_ble_eq_true rfl, Nat.le_of_ble_eq_true rfl⟩ rfl rfl rfl (As := [.int s0, .int (1 : Int32)]) (rest := []) rfl rfl (Nat.le_of_ble_eq_true rfl) dX11_span_22 ⟨Nat.zero_le _, Nat.zero_le _⟩ (fun H locs hW => ?_)
    show W p l e (rmq 9 210) s m args below meth c H locs 0 0 Q (F0 m 25 ls [.int x22.1])
    refine lv_if_eq (tgt := 30) hx hb dX11_span_25 (by decide) (fun c2 => ?_) (fun c2 => ?_)
    · have hf := (if_pos c2).symm.trans hf
      refine lv_aload_n hx hb dX11_span_30 rfl (lv_at hl 0 rfl) ?_
      obtain ⟨x31, h31, hf⟩ := bd_of hf
      refine r_callV (k := ((0, 0) : Ky)) C hW hl lk_X11_442 (c_X11_keepsAll h31) ⟨rfl, rfl⟩ ⟨Nat.le_of_ble_eq_true rfl, Nat.le_of_ble_eq_true rfl⟩ rfl rfl rfl (As := []) (rest := []) rfl rfl (Nat.le_of_ble_eq_true rfl) dX11_span_31 ⟨Nat.zero_le _, Nat.zero_le _⟩ (fun H locs hW => ?_)
      show W p l e (rmq 9 210) s m args below meth c H locs 0 0 Q (F0 m 34 ls [])
      refine lv_iconst (v := -1) hx hb dX11_span_34 (by decide) ?_
      refine lv_istore_n (lv' := [(3, .int (-1 : Int32)), (0, .ref (ad 0)), (1, .int v1), (2, .int v2)]) hx hb dX11_span_35 rfl hl (by decide) rfl (fun ls hl => ?_)
      refine lv_iconst (v := 1) hx hb dX11_span_36 (by decide) ?_
      refine lv_istore (lv' := [(4, .int (1 : Int32)), (3, .int (-1 : Int32)), (0, .ref (ad 0)), (1, .int v1), (2, .int v2)]) hx hb dX11_span_37 hl (by decide) rfl (fun ls hl => ?_)
      have L39 : ∀ (μ : Mm) (v3 v4 : Int32) (H : Heap) (locs : List Loc) (ls : Array Slot), Wh (fun z : Mm × Int32 × Int32 => f_X11_span_L39 v1 v2 z.1 z.2.1 z.2.2) (μ, v3, v4) = some res → Wd D (faM ad) (feM tc ad) A s.heap μ H locs → lv_has ls 6 [(0, .ref (ad 0)), (1, .int v1), (2, .int v2), (3, .int v3), (4, .int v4)] → W p l e (rmq 9 210) s m args below meth c H locs 0 0 Q (F0 m 39 ls []) := by
        intro μ v3 v4 H locs ls hf hW hl
        refine Wh_rule hf (fun z : Mm × Int32 × Int32 => ∀ (H : Heap) (locs : List Loc) (ls : Array Slot), Wd D (faM ad) (feM tc ad) A s.heap z.1 H locs → lv_has ls 6 [(0, .ref (ad 0)), (1, .int v1), (2, .int v2), (3, .int z.2.1), (4, .int z.2.2)] → W p l e (rmq 9 210) s m args below meth c H locs 0 0 Q (F0 m 39 ls [])) (fun z o1 hf Kl1 Kr1 => ?_) _ _ _ hW hl
        obtain ⟨μ, v3, v4⟩ := z
        intro H locs ls hW hl
        have hf : f_X11_span_L39 v1 v2 μ v3 v4 = some o1 := hf
        unfold f_X11_span_L39 at hf
        have hW : Wd D (faM ad) (feM tc ad) A s.heap μ H locs := hW
        have hl : lv_has ls 6 [(0, .ref (ad 0)), (1, .int v1), (2, .int v2), (3, .int v3), (4, .int v4)] := hl
        refine lv_iload hx hb dX11_span_39 (lv_at hl 4 rfl) ?_
        refine lv_bipush (v := 6) hx hb dX11_span_41 (by decide) ?_
        refine lv_icmp_gt (tgt := 112) hx hb dX11_span_43 (by decide) (fun c4 => ?_) (fun c4 => ?_)
        · have hf := (if_pos c4).symm.trans hf
          obtain ⟨x9005, hf, hx9005⟩ := map_of hf
          have e9005 := (Kr1 _ hx9005.symm).symm
          subst e9005
          refine lv_iload_n hx hb dX11_span_112 rfl (lv_at hl 3 rfl) ?_
          obtain rfl := Option.some.inj hf
          rw [hQ]
          exact r_iret C hr hk hW rfl rfl dX11_span_113
        · have hf := (if_neg c4).symm.trans hf
          refine lv_aload_n hx hb dX11_span_46 rfl (lv_at hl 0 rfl) ?_
          refine gf_X11_13 C hW dX11_span_47 ?_
          refine lv_iconst (v := 5) hx hb dX11_span_50 (by decide) ?_
          refine lv_iload hx hb dX11_span_51 (lv_at hl 4 rfl) ?_
          obtain ⟨hi6, hf⟩ := ck_of hf
          refine r_iast (k := ((1, 0) : Ky)) (n := 7114) C hW rfl (fun _ => rfl) hi6 dX11_span_53 (fun H locs hW => ?_)
          refine lv_aload_n hx hb dX11_span_54 rfl (lv_at hl 0 rfl) ?_
          refine lv_iload_n hx hb dX11_span_55 rfl (lv_at hl 1 rfl) ?_
          obtain ⟨x56, h56, hf⟩ := bd_of hf
          refine r_callV (k := ((0, 0) : Ky)) C hW hl lk_X11_386 (c_X11_strolls h56) ⟨rfl, rfl⟩ ⟨Nat.le_of_ble_eq_true rfl, Nat.le_of_ble_eq_true rfl⟩ rfl rfl rfl (As := [.int v1]) (rest := []) rfl rfl (Nat.le_of_ble_eq_true rfl) dX11_span_56 ⟨Nat.zero_le _, Nat.zero_le _⟩ (fun H locs hW => ?_)
          show W p l e (rmq 9 210) s m args below meth c H locs 0 0 Q (F0 m 59 ls [.int x56.1])
          refine lv_pop hx hb dX11_span_59 rfl ?_
          refine lv_aload_n hx hb dX11_span_60 rfl (lv_at hl 0 rfl) ?_
          refine lv_aload_n hx hb dX11_span_61 rfl (lv_at hl 0 rfl) ?_
          obtain ⟨x62, h62, hf⟩ := bd_of hf
          refine r_callV (k := ((0, 0) : Ky)) C hW hl lk_X11_121 (c_X11_here h62) ⟨rfl, rfl⟩ ⟨Nat.le_of_ble_eq_true rfl, Nat.le_of_ble_eq_true rfl⟩ rfl rfl rfl (As := []) (rest := [.ref (ad 0)]) rfl rfl (Nat.le_of_ble_eq_true rfl) dX11_span_62 ⟨Nat.zero_le _, Nat.zero_le _⟩ (fun H locs hW => ?_)
          show W p l e (rmq 9 210) s m args below meth c H locs 0 0 Q (F0 m 65 ls [.int x62, .ref (ad 0)])
          obtain ⟨x65, h65, hf⟩ := bd_of hf
          refine r_callV (k := ((0, 0) : Ky)) C hW hl lk_X11_340 (c_X11_sureOnes h65) ⟨rfl, rfl⟩ ⟨Nat.le_of_ble_eq_true rfl, Nat.le_of_ble_eq_true rfl⟩ rfl rfl rfl (As := [.int x62]) (rest := []) rfl rfl (Nat.le_of_ble_eq_true rfl) dX11_span_65 ⟨Nat.zero_le _, Nat.zero_le _⟩ (fun H locs hW => ?_)
          show W p l e (rmq 9 210) s m args below meth c H locs 0 0 Q (F0 m 68 ls [.int x65.1])
          obtain ⟨x68, h68, hf⟩ := bd_of hf
          refine r_callS C hW hl lk_X11_418 (c_J6_bitCount_0f7a4 h68) ⟨rfl, rfl⟩ ⟨Nat.le_of_ble_eq_true rfl, Nat.le_of_ble_eq_true rfl⟩ (As := [.int x65.1]) (rest := []) rfl rfl (Nat.le_of_ble_eq_true rfl) dX11_span_68 ⟨Nat.zero_le _, Nat.zero_le _⟩ (fun H locs hW => ?_)
          show W p l e (rmq 9 210) s m args below meth c H locs 0 0 Q (F0 m 71 ls [.int x68])
          refine lv_istore (lv' := [(5, .int x68), (0, .ref (ad 0)), (1, .int v1), (2, .int v2), (3, .int v3), (4, .int v4)]) hx hb dX11_span_71 hl (by decide) rfl (fun ls hl => ?_)
          refine lv_aload_n hx hb dX11_span_73 rfl (lv_at hl 1 rfl) ?_
          obtain ⟨x74, h74, hf⟩ := bd_of hf
          refine r_callV (k := ((0, 0) : Ky)) C hW hl lk_X11_445 (c_X11_bringsBack h74) ⟨rfl, rfl⟩ ⟨Nat.le_of_ble_eq_true rfl, Nat.le_of_ble_eq_true rfl⟩ rfl rfl rfl (As := []) (rest := []) rfl rfl (Nat.le_of_ble_eq_true rfl) dX11_span_74 ⟨Nat.zero_le _, Nat.zero_le _⟩ (fun H locs hW => ?_)
          show W p l e (rmq 9 210) s m args below meth c H locs 0 0 Q (F0 m 77 ls [])
          refine lv_iload_n hx hb dX11_span_77 rfl (lv_at hl 4 rfl) ?_
          refine lv_if_ge (tgt := 86) hx hb dX11_span_78 (by decide) (fun c12 => ?_) (fun c12 => ?_)
          · have hf := (if_pos c12).symm.trans hf
            refine lv_iload_n hx hb dX11_span_86 rfl (lv_at hl 3 rfl) ?_
            refine lv_if_eq (tgt := 99) hx hb dX11_span_87 (by decide) (fun c13 => ?_) (fun c13 => ?_)
            · have hf := (if_pos c13).symm.trans hf
              refine lv_iload_n hx hb dX11_span_99 rfl (lv_at hl 4 rfl) ?_
              refine lv_iload hx hb dX11_span_100 (lv_at hl 0 rfl) ?_
              refine r_mmin C hl kw_2423 kw_560 kw_140 kw_561 (Nat.le_of_ble_eq_true rfl) (Nat.le_of_ble_eq_true rfl) ⟨Nat.zero_le _, Nat.zero_le _⟩ dX11_span_102 ?_
              refine lv_istore_n (lv' := [(3, .int (if x68 < v3 then x68 else v3)), (5, .int x68), (0, .ref (ad 0)), (1, .int v1), (2, .int v2), (4, .int v4)]) hx hb dX11_span_105 rfl hl (by decide) rfl (fun ls hl => ?_)
              refine lv_iinc (v := (v4 + (1 : Int32))) (lv' := [(4, .int (v4 + (1 : Int32))), (3, .int (if x68 < v3 then x68 else v3)), (5, .int x68), (0, .ref (ad 0)), (1, .int v1), (2, .int v2)]) hx hb dX11_span_106 hl (k := 5) rfl rfl (by decide) rfl (fun ls hl => ?_)
              refine lv_goto (tgt := 39) hx hb dX11_span_109 (by decide) ?_
              obtain rfl := Option.some.inj hf
              exact Kl1 _ rfl _ _ _ hW (lv_sub hl [3, 4, 5, 1, 0] rfl)
            · have hf := (if_neg c13).symm.trans hf
              refine lv_iload_n hx hb dX11_span_90 rfl (lv_at hl 4 rfl) ?_
              refine lv_iload hx hb dX11_span_91 (lv_at hl 0 rfl) ?_
              refine r_mmax C hl kw_2630 kw_191 kw_140 kw_192 (Nat.le_of_ble_eq_true rfl) (Nat.le_of_ble_eq_true rfl) ⟨Nat.zero_le _, Nat.zero_le _⟩ dX11_span_93 ?_
              refine lv_goto (tgt := 105) hx hb dX11_span_96 (by decide) ?_
              refine lv_istore_n (lv' := [(3, .int (if v3 < x68 then x68 else v3)), (5, .int x68), (0, .ref (ad 0)), (1, .int v1), (2, .int v2), (4, .int v4)]) hx hb dX11_span_105 rfl hl (by decide) rfl (fun ls hl => ?_)
              refine lv_iinc (v := (v4 + (1 : Int32))) (lv' := [(4, .int (v4 + (1 : Int32))), (3, .int (if v3 < x68 then x68 else v3)), (5, .int x68), (0, .ref (ad 0)), (1, .int v1), (2, .int v2)]) hx hb dX11_span_106 hl (k := 5) rfl rfl (by decide) rfl (fun ls hl => ?_)
              refine lv_goto (tgt := 39) hx hb dX11_span_109 (by decide) ?_
              obtain rfl := Option.some.inj hf
              exact Kl1 _ rfl _ _ _ hW (lv_sub hl [3, 4, 5, 1, 0] rfl)
          · have hf := (if_neg c12).symm.trans hf
            refine lv_iload hx hb dX11_span_81 (lv_at hl 0 rfl) ?_
            refine lv_goto (tgt := 105) hx hb dX11_span_83 (by decide) ?_
            refine lv_istore_n (lv' := [(3, .int x68), (5, .int x68), (0, .ref (ad 0)), (1, .int v1), (2, .int v2), (4, .int v4)]) hx hb dX11_span_105 rfl hl (by decide) rfl (fun ls hl => ?_)
            refine lv_iinc (v := (v4 + (1 : Int32))) (lv' := [(4, .int (v4 + (1 : Int32))), (3, .int x68), (5, .int x68), (0, .ref (ad 0)), (1, .int v1), (2, .int v2)]) hx hb dX11_span_106 hl (k := 5) rfl rfl (by decide) rfl (fun ls hl => ?_)
            refine lv_goto (tgt := 39) hx hb dX11_span_109 (by decide) ?_
            obtain rfl := Option.some.inj hf
            exact Kl1 _ rfl _ _ _ hW (lv_sub hl [3, 4, 5, 1, 0] rfl)
      exact L39 x31 (-1 : Int32) (1 : Int32) _ _ _ hf hW (lv_sub hl [2, 3, 4, 1, 0] rfl)
    · have hf := (if_neg c2).symm.trans hf
      refine lv_iconst (v := 0) hx hb dX11_span_28 (by decide) ?_
      obtain rfl := Option.some.inj hf
      rw [hQ]
      exact r_iret C hr hk hW rfl rfl dX11_span_29
  refine lv_aload_n hx hb dX11_span_0 rfl (lv_at hl 0 rfl) ?_
  refine lv_iconst (v := 0) hx hb dX11_span_1 (by decide) ?_
  refine pf_X11_3 C hW dX11_span_2 (fun H locs hW => ?_)
  refine lv_aload_n hx hb dX11_span_5 rfl (lv_at hl 0 rfl) ?_
  refine lv_iload_n hx hb dX11_span_6 rfl (lv_at hl 1 rfl) ?_
  refine lv_iconst (v := 0) hx hb dX11_span_7 (by decide) ?_
  refine lv_bipush (v := 30) hx hb dX11_span_8 (by decide) ?_
  obtain ⟨x10, h10, hf⟩ := bd_of hf
  refine r_callS C hW hl lk_X11_111 (c_X11_in h10) ⟨rfl, rfl⟩ ⟨Nat.le_of_ble_eq_true rfl, Nat.le_of_ble_eq_true rfl⟩ (As := [.int v1, .int (0 : Int32), .int (30 : Int32)]) (rest := [.ref (ad 0)]) rfl rfl (Nat.le_of_ble_eq_true rfl) dX11_span_10 ⟨Nat.zero_le _, Nat.zero_le _⟩ (fun H locs hW => ?_)
  show W p l e (rmq 9 210) s m args below meth c H locs 0 0 Q (F0 m 13 ls [.int x10, .ref (ad 0)])
  refine lv_if_ne (tgt := 20) hx hb dX11_span_13 (by decide) (fun c15 => ?_) (fun c15 => ?_)
  · have hf := (if_neg c15).symm.trans hf
    refine lv_iconst (v := 0) hx hb dX11_span_20 (by decide) ?_
    exact J21 (mst μ (0, 0) 0 (0 : Int32)) (0 : Int32) _ _ _ hf hW (lv_sub hl [0, 1, 2] rfl)
  · have hf := (if_pos c15).symm.trans hf
    refine lv_iconst (v := 1) hx hb dX11_span_16 (by decide) ?_
    refine lv_goto (tgt := 21) hx hb dX11_span_17 (by decide) ?_
    exact J21 (mst μ (0, 0) 0 (0 : Int32)) (1 : Int32) _ _ _ hf hW (lv_sub hl [0, 1, 2] rfl)
set_option maxHeartbeats 4000000 in
set_option maxRecDepth 100000 in
theorem c_X11_nth {l : Launch} {D : va_G} {tc : Nat → ClassId} {ro : Ro} {ad : Nat → Nat} {μ : Mm} {v1 v2 : Int32} {res : Int32 × Mm} (hf : f_X11_nth μ v1 v2 = some res) : Ct l D tc ro (faM ad) (feM tc ad) yX11_nth cX11_nth 5 (some .int) (rmq 2 43) [.ref (ad 0), .int v1, .int v2] μ (some (.int res.1)) res.2 := by
  refine Ct.of (by decide) (Nat.le_of_ble_eq_true rfl) (fun p e s m args below meth c A C hr hk hW ls hl => ?_)
  have hx := C.1.1
  have hb := C.1.2.1
  obtain ⟨Q, hQ⟩ : ∃ Q, Q = MQ below (Ctq D (faM ad) (feM tc ad) (some (.int res.1)) res.2 A) args s 0 0 A := ⟨_, rfl⟩
  rw [← hQ]
  have hl : lv_has ls 5 [(0, .ref (ad 0)), (1, .int v1), (2, .int v2)] := hl
  unfold f_X11_nth at hf
  have J24 : ∀ (μ : Mm) (s0 : Int32) (H : Heap) (locs : List Loc) (ls : Array Slot), f_X11_nth_J24 μ v1 v2 s0 = some res → Wd D (faM ad) (feM tc ad) A s.heap μ H locs → lv_has ls 5 [(0, .ref (ad 0)), (1, .int v1), (2, .int v2)] → W p l e (rmq 2 43) s m args below meth c H locs 0 0 Q (F0 m 24 ls [.int s0, .ref (ad 0)]) := by
    intro μ s0 H locs ls hf hW hl
    unfold f_X11_nth_J24 at hf
    refine lv_iconst (v := 1) hx hb dX11_nth_24 (by decide) ?_
    obtain ⟨x25, h25, hf⟩ := bd_of hf
    refine r_callV (k := ((0, 0) : Ky)) C hW hl lk_X11_322 (c_X11_throwsIf h25) ⟨rfl, rfl⟩ ⟨Nat.le_of_ble_eq_true rfl, Nat.le_of_ble_eq_true rfl⟩ rfl rfl rfl (As := [.int s0, .int (1 : Int32)]) (rest := []) rfl rfl (Nat.le_of_ble_eq_true rfl) dX11_nth_25 ⟨Nat.zero_le _, Nat.zero_le _⟩ (fun H locs hW => ?_)
    show W p l e (rmq 2 43) s m args below meth c H locs 0 0 Q (F0 m 28 ls [.int x25.1])
    refine lv_if_eq (tgt := 33) hx hb dX11_nth_28 (by decide) (fun c2 => ?_) (fun c2 => ?_)
    · have hf := (if_pos c2).symm.trans hf
      refine lv_iload_n hx hb dX11_nth_33 rfl (lv_at hl 2 rfl) ?_
      refine lv_istore_n (lv' := [(3, .int v2), (0, .ref (ad 0)), (1, .int v1), (2, .int v2)]) hx hb dX11_nth_34 rfl hl (by decide) rfl (fun ls hl => ?_)
      refine lv_iconst (v := 0) hx hb dX11_nth_35 (by decide) ?_
      refine lv_istore (lv' := [(4, .int (0 : Int32)), (3, .int v2), (0, .ref (ad 0)), (1, .int v1), (2, .int v2)]) hx hb dX11_nth_36 hl (by decide) rfl (fun ls hl => ?_)
      have L38 : ∀ (μ : Mm) (v3 v4 : Int32) (H : Heap) (locs : List Loc) (ls : Array Slot), Wh (fun z : Int32 × Int32 => f_X11_nth_L38 v1 v2 μ z.1 z.2) (v3, v4) = some res → Wd D (faM ad) (feM tc ad) A s.heap μ H locs → lv_has ls 5 [(0, .ref (ad 0)), (1, .int v1), (2, .int v2), (3, .int v3), (4, .int v4)] → W p l e (rmq 2 43) s m args below meth c H locs 0 0 Q (F0 m 38 ls []) := by
        intro μ v3 v4 H locs ls hf hW hl
        refine Wh_rule hf (fun z : Int32 × Int32 => ∀ (H : Heap) (locs : List Loc) (ls : Array Slot), Wd D (faM ad) (feM tc ad) A s.heap μ H locs → lv_has ls 5 [(0, .ref (ad 0)), (1, .int v1), (2, .int v2), (3, .int z.1), (4, .int z.2)] → W p l e (rmq 2 43) s m args below meth c H locs 0 0 Q (F0 m 38 ls [])) (fun z o1 hf Kl1 Kr1 => ?_) _ _ _ hW hl
        obtain ⟨v3, v4⟩ := z
        intro H locs ls hW hl
        have hf : f_X11_nth_L38 v1 v2 μ v3 v4 = some o1 := hf
        unfold f_X11_nth_L38 at hf
        have hW : Wd D (faM ad) (feM tc ad) A s.heap μ H locs := hW
        have hl : lv_has ls 5 [(0, .ref (ad 0)), (1, .int v1), (2, .int v2), (3, .int v3), (4, .int v4)] := hl
        refine lv_iload hx hb dX11_nth_38 (lv_at hl 4 rfl) ?_
        refine lv_aload_n hx hb dX11_nth_40 rfl (lv_at hl 0 rfl) ?_
        obtain ⟨x41, h41, hf⟩ := bd_of hf
        refine r_callV (k := ((0, 0) : Ky)) C hW hl lk_X11_115 (c_X11_worlds h41) ⟨rfl, rfl⟩ ⟨Nat.le_of_ble_eq_true rfl, Nat.le_of_ble_eq_true rfl⟩ rfl rfl rfl (As := []) (rest := [.int v4]) rfl rfl (Nat.le_of_ble_eq_true rfl) dX11_nth_41 ⟨Nat.zero_le _, Nat.zero_le _⟩ (fun H locs hW => ?_)
        show W p l e (rmq 2 43) s m args below meth c H locs 0 0 Q (F0 m 44 ls [.int x41, .int v4])
        refine lv_icmp_ge (tgt := 103) hx hb dX11_nth_44 (by decide) (fun c4 => ?_) (fun c4 => ?_)
        · have hf := (if_pos c4).symm.trans hf
          obtain ⟨x9005, hf, hx9005⟩ := map_of hf
          have e9005 := (Kr1 _ hx9005.symm).symm
          subst e9005
          refine lv_iconst (v := -1) hx hb dX11_nth_103 (by decide) ?_
          obtain rfl := Option.some.inj hf
          rw [hQ]
          exact r_iret C hr hk hW rfl rfl dX11_nth_104
        · have hf := (if_neg c4).symm.trans hf
          refine lv_iload_n hx hb dX11_nth_47 rfl (lv_at hl 2 rfl) ?_
          refine lv_if_lt (tgt := 103) hx hb dX11_nth_48 (by decide) (fun c6 => ?_) (fun c6 => ?_)
          · have hf := (if_pos c6).symm.trans hf
            obtain ⟨x9007, hf, hx9007⟩ := map_of hf
            have e9007 := (Kr1 _ hx9007.symm).symm
            subst e9007
            refine lv_iconst (v := -1) hx hb dX11_nth_103 (by decide) ?_
            obtain rfl := Option.some.inj hf
            rw [hQ]
            exact r_iret C hr hk hW rfl rfl dX11_nth_104
          · have hf := (if_neg c6).symm.trans hf
            refine lv_aload_n hx hb dX11_nth_51 rfl (lv_at hl 0 rfl) ?_
            refine lv_iload hx hb dX11_nth_52 (lv_at hl 4 rfl) ?_
            obtain ⟨x54, h54, hf⟩ := bd_of hf
            refine r_callV (k := ((0, 0) : Ky)) C hW hl lk_X11_128 (c_X11_isLeft h54) ⟨rfl, rfl⟩ ⟨Nat.le_of_ble_eq_true rfl, Nat.le_of_ble_eq_true rfl⟩ rfl rfl rfl (As := [.int v4]) (rest := []) rfl rfl (Nat.le_of_ble_eq_true rfl) dX11_nth_54 ⟨Nat.zero_le _, Nat.zero_le _⟩ (fun H locs hW => ?_)
            show W p l e (rmq 2 43) s m args below meth c H locs 0 0 Q (F0 m 57 ls [.int x54])
            refine lv_if_eq (tgt := 97) hx hb dX11_nth_57 (by decide) (fun c9 => ?_) (fun c9 => ?_)
            · have hf := (if_pos c9).symm.trans hf
              refine lv_iinc (v := (v4 + (1 : Int32))) (lv' := [(4, .int (v4 + (1 : Int32))), (0, .ref (ad 0)), (1, .int v1), (2, .int v2), (3, .int v3)]) hx hb dX11_nth_97 hl (k := 4) rfl rfl (by decide) rfl (fun ls hl => ?_)
              refine lv_goto (tgt := 38) hx hb dX11_nth_100 (by decide) ?_
              obtain rfl := Option.some.inj hf
              exact Kl1 _ rfl _ _ _ hW (lv_sub hl [1, 2, 3, 4, 0] rfl)
            · have hf := (if_neg c9).symm.trans hf
              refine lv_iload_n hx hb dX11_nth_60 rfl (lv_at hl 1 rfl) ?_
              refine lv_iconst (v := -1) hx hb dX11_nth_61 (by decide) ?_
              refine lv_icmp_eq (tgt := 87) hx hb dX11_nth_62 (by decide) (fun c10 => ?_) (fun c10 => ?_)
              · have hf := (if_pos c10).symm.trans hf
                refine lv_iload_n hx hb dX11_nth_87 rfl (lv_at hl 3 rfl) ?_
                refine lv_if_ne (tgt := 94) hx hb dX11_nth_88 (by decide) (fun c11 => ?_) (fun c11 => ?_)
                · have hf := (if_neg c11).symm.trans hf
                  refine lv_iinc (v := (v3 + (-1 : Int32))) (lv' := [(3, .int (v3 + (-1 : Int32))), (0, .ref (ad 0)), (1, .int v1), (2, .int v2), (4, .int v4)]) hx hb dX11_nth_94 hl (k := 3) rfl rfl (by decide) rfl (fun ls hl => ?_)
                  refine lv_iinc (v := (v4 + (1 : Int32))) (lv' := [(4, .int (v4 + (1 : Int32))), (3, .int (v3 + (-1 : Int32))), (0, .ref (ad 0)), (1, .int v1), (2, .int v2)]) hx hb dX11_nth_97 hl (k := 4) rfl rfl (by decide) rfl (fun ls hl => ?_)
                  refine lv_goto (tgt := 38) hx hb dX11_nth_100 (by decide) ?_
                  obtain rfl := Option.some.inj hf
                  exact Kl1 _ rfl _ _ _ hW (lv_sub hl [2, 3, 4, 1, 0] rfl)
                · have hf := (if_pos c11).symm.trans hf
                  obtain ⟨x9012, hf, hx9012⟩ := map_of hf
                  have e9012 := (Kr1 _ hx9012.symm).symm
                  subst e9012
                  refine lv_iload hx hb dX11_nth_91 (lv_at hl 4 rfl) ?_
                  obtain rfl := Option.some.inj hf
                  rw [hQ]
                  exact r_iret C hr hk hW rfl rfl dX11_nth_93
              · have hf := (if_neg c10).symm.trans hf
                refine lv_aload_n hx hb dX11_nth_65 rfl (lv_at hl 0 rfl) ?_
                refine lv_iload_n hx hb dX11_nth_66 rfl (lv_at hl 1 rfl) ?_
                refine lv_iload hx hb dX11_nth_67 (lv_at hl 4 rfl) ?_
                obtain ⟨x69, h69, hf⟩ := bd_of hf
                refine r_callV (k := ((0, 0) : Ky)) C hW hl lk_X11_132 (c_X11_label h69) ⟨rfl, rfl⟩ ⟨Nat.le_of_ble_eq_true rfl, Nat.le_of_ble_eq_true rfl⟩ rfl rfl rfl (As := [.int v1, .int v4]) (rest := []) rfl rfl (Nat.le_of_ble_eq_true rfl) dX11_nth_69 ⟨Nat.zero_le _, Nat.zero_le _⟩ (fun H locs hW => ?_)
                show W p l e (rmq 2 43) s m args below meth c H locs 0 0 Q (F0 m 72 ls [.int x69])
                refine lv_aload_n hx hb dX11_nth_72 rfl (lv_at hl 0 rfl) ?_
                refine lv_iload_n hx hb dX11_nth_73 rfl (lv_at hl 1 rfl) ?_
                refine lv_aload_n hx hb dX11_nth_74 rfl (lv_at hl 0 rfl) ?_
                obtain ⟨x75, h75, hf⟩ := bd_of hf
                refine r_callV (k := ((0, 0) : Ky)) C hW hl lk_X11_121 (c_X11_here h75) ⟨rfl, rfl⟩ ⟨Nat.le_of_ble_eq_true rfl, Nat.le_of_ble_eq_true rfl⟩ rfl rfl rfl (As := []) (rest := [.int v1, .ref (ad 0), .int x69]) rfl rfl (Nat.le_of_ble_eq_true rfl) dX11_nth_75 ⟨Nat.zero_le _, Nat.zero_le _⟩ (fun H locs hW => ?_)
                show W p l e (rmq 2 43) s m args below meth c H locs 0 0 Q (F0 m 78 ls [.int x75, .int v1, .ref (ad 0), .int x69])
                obtain ⟨x78, h78, hf⟩ := bd_of hf
                refine r_callV (k := ((0, 0) : Ky)) C hW hl lk_X11_132 (c_X11_label h78) ⟨rfl, rfl⟩ ⟨Nat.le_of_ble_eq_true rfl, Nat.le_of_ble_eq_true rfl⟩ rfl rfl rfl (As := [.int v1, .int x75]) (rest := [.int x69]) rfl rfl (Nat.le_of_ble_eq_true rfl) dX11_nth_78 ⟨Nat.zero_le _, Nat.zero_le _⟩ (fun H locs hW => ?_)
                show W p l e (rmq 2 43) s m args below meth c H locs 0 0 Q (F0 m 81 ls [.int x78, .int x69])
                refine lv_icmp_eq (tgt := 87) hx hb dX11_nth_81 (by decide) (fun c16 => ?_) (fun c16 => ?_)
                · have hf := (if_pos c16).symm.trans hf
                  refine lv_iload_n hx hb dX11_nth_87 rfl (lv_at hl 3 rfl) ?_
                  refine lv_if_ne (tgt := 94) hx hb dX11_nth_88 (by decide) (fun c17 => ?_) (fun c17 => ?_)
                  · have hf := (if_neg c17).symm.trans hf
                    refine lv_iinc (v := (v3 + (-1 : Int32))) (lv' := [(3, .int (v3 + (-1 : Int32))), (0, .ref (ad 0)), (1, .int v1), (2, .int v2), (4, .int v4)]) hx hb dX11_nth_94 hl (k := 3) rfl rfl (by decide) rfl (fun ls hl => ?_)
                    refine lv_iinc (v := (v4 + (1 : Int32))) (lv' := [(4, .int (v4 + (1 : Int32))), (3, .int (v3 + (-1 : Int32))), (0, .ref (ad 0)), (1, .int v1), (2, .int v2)]) hx hb dX11_nth_97 hl (k := 4) rfl rfl (by decide) rfl (fun ls hl => ?_)
                    refine lv_goto (tgt := 38) hx hb dX11_nth_100 (by decide) ?_
                    obtain rfl := Option.some.inj hf
                    exact Kl1 _ rfl _ _ _ hW (lv_sub hl [2, 3, 4, 1, 0] rfl)
                  · have hf := (if_pos c17).symm.trans hf
                    obtain ⟨x9018, hf, hx9018⟩ := map_of hf
                    have e9018 := (Kr1 _ hx9018.symm).symm
                    subst e9018
                    refine lv_iload hx hb dX11_nth_91 (lv_at hl 4 rfl) ?_
                    obtain rfl := Option.some.inj hf
                    rw [hQ]
                    exact r_iret C hr hk hW rfl rfl dX11_nth_93
                · have hf := (if_neg c16).symm.trans hf
                  refine lv_goto (tgt := 97) hx hb dX11_nth_84 (by decide) ?_
                  refine lv_iinc (v := (v4 + (1 : Int32))) (lv' := [(4, .int (v4 + (1 : Int32))), (0, .ref (ad 0)), (1, .int v1), (2, .int v2), (3, .int v3)]) hx hb dX11_nth_97 hl (k := 4) rfl rfl (by decide) rfl (fun ls hl => ?_)
                  refine lv_goto (tgt := 38) hx hb dX11_nth_100 (by decide) ?_
                  obtain rfl := Option.some.inj hf
                  exact Kl1 _ rfl _ _ _ hW (lv_sub hl [1, 2, 3, 4, 0] rfl)
      exact L38 x25.2 v2 (0 : Int32) _ _ _ hf hW (lv_sub hl [2, 3, 4, 1, 0] rfl)
    · have hf := (if_neg c2).symm.trans hf
      refine lv_iconst (v := 0) hx hb dX11_nth_31 (by decide) ?_
      obtain rfl := Option.some.inj hf
      rw [hQ]
      exact r_iret C hr hk hW rfl rfl dX11_nth_32
  refine lv_aload_n hx hb dX11_nth_0 rfl (lv_at hl 0 rfl) ?_
  refine lv_iconst (v := 0) hx hb dX11_nth_1 (by decide) ?_
  refine pf_X11_3 C hW dX11_nth_2 (fun H locs hW => ?_)
  refine lv_aload_n hx hb dX11_nth_5 rfl (lv_at hl 0 rfl) ?_
  refine lv_iload_n hx hb dX11_nth_6 rfl (lv_at hl 1 rfl) ?_
  refine lv_iconst (v := -1) hx hb dX11_nth_7 (by decide) ?_
  refine lv_icmp_eq (tgt := 23) hx hb dX11_nth_8 (by decide) (fun c19 => ?_) (fun c19 => ?_)
  · have hf := (if_pos c19).symm.trans hf
    refine lv_iconst (v := 0) hx hb dX11_nth_23 (by decide) ?_
    exact J24 (mst μ (0, 0) 0 (0 : Int32)) (0 : Int32) _ _ _ hf hW (lv_sub hl [0, 1, 2] rfl)
  · have hf := (if_neg c19).symm.trans hf
    refine lv_aload_n hx hb dX11_nth_11 rfl (lv_at hl 0 rfl) ?_
    refine lv_iload_n hx hb dX11_nth_12 rfl (lv_at hl 1 rfl) ?_
    obtain ⟨x13, h13, hf⟩ := bd_of hf
    refine r_callV (k := ((0, 0) : Ky)) C hW hl lk_X11_359 (c_X11_noPerson h13) ⟨rfl, rfl⟩ ⟨Nat.le_of_ble_eq_true rfl, Nat.le_of_ble_eq_true rfl⟩ rfl rfl rfl (As := [.int v1]) (rest := [.ref (ad 0)]) rfl rfl (Nat.le_of_ble_eq_true rfl) dX11_nth_13 ⟨Nat.zero_le _, Nat.zero_le _⟩ (fun H locs hW => ?_)
    show W p l e (rmq 2 43) s m args below meth c H locs 0 0 Q (F0 m 16 ls [.int x13, .ref (ad 0)])
    refine lv_if_eq (tgt := 23) hx hb dX11_nth_16 (by decide) (fun c21 => ?_) (fun c21 => ?_)
    · have hf := (if_pos c21).symm.trans hf
      refine lv_iconst (v := 0) hx hb dX11_nth_23 (by decide) ?_
      exact J24 (mst μ (0, 0) 0 (0 : Int32)) (0 : Int32) _ _ _ hf hW (lv_sub hl [0, 1, 2] rfl)
    · have hf := (if_neg c21).symm.trans hf
      refine lv_iconst (v := 1) hx hb dX11_nth_19 (by decide) ?_
      refine lv_goto (tgt := 24) hx hb dX11_nth_20 (by decide) ?_
      exact J24 (mst μ (0, 0) 0 (0 : Int32)) (1 : Int32) _ _ _ hf hW (lv_sub hl [0, 1, 2] rfl)
set_option maxHeartbeats 4000000 in
set_option maxRecDepth 100000 in
theorem c_X11_laysVotes {l : Launch} {D : va_G} {tc : Nat → ClassId} {ro : Ro} {ad : Nat → Nat} {μ : Mm} {v1 : Int32} {res : Mm} (hf : f_X11_laysVotes μ v1 = some res) : Ct l D tc ro (faM ad) (feM tc ad) yX11_laysVotes cX11_laysVotes 3 none (rmq 2 44) [.ref (ad 0), .int v1] μ none res := by
  refine Ct.of (by decide) (Nat.le_of_ble_eq_true rfl) (fun p e s m args below meth c A C hr hk hW ls hl => ?_)
  have hx := C.1.1
  have hb := C.1.2.1
  obtain ⟨Q, hQ⟩ : ∃ Q, Q = MQ below (Ctq D (faM ad) (feM tc ad) none res A) args s 0 0 A := ⟨_, rfl⟩
  rw [← hQ]
  have hl : lv_has ls 3 [(0, .ref (ad 0)), (1, .int v1)] := hl
  unfold f_X11_laysVotes at hf
  refine lv_iconst (v := 0) hx hb dX11_laysVotes_0 (by decide) ?_
  refine lv_istore_n (lv' := [(2, .int (0 : Int32)), (0, .ref (ad 0)), (1, .int v1)]) hx hb dX11_laysVotes_1 rfl hl (by decide) rfl (fun ls hl => ?_)
  have L2 : ∀ (μ : Mm) (v2 : Int32) (H : Heap) (locs : List Loc) (ls : Array Slot), Wh (fun z : Mm × Int32 => f_X11_laysVotes_L2 v1 z.1 z.2) (μ, v2) = some res → Wd D (faM ad) (feM tc ad) A s.heap μ H locs → lv_has ls 3 [(0, .ref (ad 0)), (1, .int v1), (2, .int v2)] → W p l e (rmq 2 44) s m args below meth c H locs 0 0 Q (F0 m 2 ls []) := by
    intro μ v2 H locs ls hf hW hl
    refine Wh_rule hf (fun z : Mm × Int32 => ∀ (H : Heap) (locs : List Loc) (ls : Array Slot), Wd D (faM ad) (feM tc ad) A s.heap z.1 H locs → lv_has ls 3 [(0, .ref (ad 0)), (1, .int v1), (2, .int z.2)] → W p l e (rmq 2 44) s m args below meth c H locs 0 0 Q (F0 m 2 ls [])) (fun z o1 hf Kl1 Kr1 => ?_) _ _ _ hW hl
    obtain ⟨μ, v2⟩ := z
    intro H locs ls hW hl
    have hf : f_X11_laysVotes_L2 v1 μ v2 = some o1 := hf
    unfold f_X11_laysVotes_L2 at hf
    have hW : Wd D (faM ad) (feM tc ad) A s.heap μ H locs := hW
    have hl : lv_has ls 3 [(0, .ref (ad 0)), (1, .int v1), (2, .int v2)] := hl
    refine lv_iload_n hx hb dX11_laysVotes_2 rfl (lv_at hl 2 rfl) ?_
    refine lv_aload_n hx hb dX11_laysVotes_3 rfl (lv_at hl 0 rfl) ?_
    refine gf_X11_80 C hW dX11_laysVotes_4 ?_
    refine r_alen (k := ((32, 0) : Ky)) (t := 0) (v := 2048) C hW rfl rfl rfl rfl dX11_laysVotes_7 ?_
    refine lv_icmp_ge (tgt := 24) hx hb dX11_laysVotes_8 (by decide) (fun c1 => ?_) (fun c1 => ?_)
    · have hf := (if_pos c1).symm.trans hf
      obtain ⟨x9011, hf, hx9011⟩ := map_of hf
      have e9011 := (Kr1 _ hx9011.symm).symm
      subst e9011
      refine lv_iconst (v := 0) hx hb dX11_laysVotes_24 (by decide) ?_
      refine lv_istore_n (lv' := [(2, .int (0 : Int32)), (0, .ref (ad 0)), (1, .int v1)]) hx hb dX11_laysVotes_25 rfl hl (by decide) rfl (fun ls hl => ?_)
      have L26 : ∀ (μ : Mm) (v2 : Int32) (H : Heap) (locs : List Loc) (ls : Array Slot), Wh (fun z : Mm × Int32 => f_X11_laysVotes_L26 v1 z.1 z.2) (μ, v2) = some res → Wd D (faM ad) (feM tc ad) A s.heap μ H locs → lv_has ls 3 [(0, .ref (ad 0)), (1, .int v1), (2, .int v2)] → W p l e (rmq 2 44) s m args below meth c H locs 0 0 Q (F0 m 26 ls []) := by
        intro μ v2 H locs ls hf hW hl
        refine Wh_rule hf (fun z : Mm × Int32 => ∀ (H : Heap) (locs : List Loc) (ls : Array Slot), Wd D (faM ad) (feM tc ad) A s.heap z.1 H locs → lv_has ls 3 [(0, .ref (ad 0)), (1, .int v1), (2, .int z.2)] → W p l e (rmq 2 44) s m args below meth c H locs 0 0 Q (F0 m 26 ls [])) (fun z o1 hf Kl1 Kr1 => ?_) _ _ _ hW hl
        obtain ⟨μ, v2⟩ := z
        intro H locs ls hW hl
        have hf : f_X11_laysVotes_L26 v1 μ v2 = some o1 := hf
        unfold f_X11_laysVotes_L26 at hf
        have hW : Wd D (faM ad) (feM tc ad) A s.heap μ H locs := hW
        have hl : lv_has ls 3 [(0, .ref (ad 0)), (1, .int v1), (2, .int v2)] := hl
        refine lv_iload_n hx hb dX11_laysVotes_26 rfl (lv_at hl 2 rfl) ?_
        refine lv_aload_n hx hb dX11_laysVotes_27 rfl (lv_at hl 0 rfl) ?_
        obtain ⟨x28, h28, hf⟩ := bd_of hf
        refine r_callV (k := ((0, 0) : Ky)) C hW hl lk_X11_115 (c_X11_worlds h28) ⟨rfl, rfl⟩ ⟨Nat.le_of_ble_eq_true rfl, Nat.le_of_ble_eq_true rfl⟩ rfl rfl rfl (As := []) (rest := [.int v2]) rfl rfl (Nat.le_of_ble_eq_true rfl) dX11_laysVotes_28 ⟨Nat.zero_le _, Nat.zero_le _⟩ (fun H locs hW => ?_)
        show W p l e (rmq 2 44) s m args below meth c H locs 0 0 Q (F0 m 31 ls [.int x28, .int v2])
        refine lv_icmp_ge (tgt := 72) hx hb dX11_laysVotes_31 (by decide) (fun c3 => ?_) (fun c3 => ?_)
        · have hf := (if_pos c3).symm.trans hf
          obtain ⟨x9004, hf, hx9004⟩ := map_of hf
          have e9004 := (Kr1 _ hx9004.symm).symm
          subst e9004
          obtain rfl := Option.some.inj hf
          rw [hQ]
          exact r_vret C hr hk hW rfl rfl dX11_laysVotes_72
        · have hf := (if_neg c3).symm.trans hf
          refine lv_aload_n hx hb dX11_laysVotes_34 rfl (lv_at hl 0 rfl) ?_
          refine lv_iload_n hx hb dX11_laysVotes_35 rfl (lv_at hl 2 rfl) ?_
          obtain ⟨x36, h36, hf⟩ := bd_of hf
          refine r_callV (k := ((0, 0) : Ky)) C hW hl lk_X11_128 (c_X11_isLeft h36) ⟨rfl, rfl⟩ ⟨Nat.le_of_ble_eq_true rfl, Nat.le_of_ble_eq_true rfl⟩ rfl rfl rfl (As := [.int v2]) (rest := []) rfl rfl (Nat.le_of_ble_eq_true rfl) dX11_laysVotes_36 ⟨Nat.zero_le _, Nat.zero_le _⟩ (fun H locs hW => ?_)
          show W p l e (rmq 2 44) s m args below meth c H locs 0 0 Q (F0 m 39 ls [.int x36])
          refine lv_if_eq (tgt := 66) hx hb dX11_laysVotes_39 (by decide) (fun c6 => ?_) (fun c6 => ?_)
          · have hf := (if_pos c6).symm.trans hf
            refine lv_iinc (v := (v2 + (1 : Int32))) (lv' := [(2, .int (v2 + (1 : Int32))), (0, .ref (ad 0)), (1, .int v1)]) hx hb dX11_laysVotes_66 hl (k := 2) rfl rfl (by decide) rfl (fun ls hl => ?_)
            refine lv_goto (tgt := 26) hx hb dX11_laysVotes_69 (by decide) ?_
            obtain rfl := Option.some.inj hf
            exact Kl1 _ rfl _ _ _ hW (lv_sub hl [1, 2, 0] rfl)
          · have hf := (if_neg c6).symm.trans hf
            refine lv_aload_n hx hb dX11_laysVotes_42 rfl (lv_at hl 0 rfl) ?_
            refine gf_X11_80 C hW dX11_laysVotes_43 ?_
            refine lv_iconst (v := 4) hx hb dX11_laysVotes_46 (by decide) ?_
            refine lv_aload_n hx hb dX11_laysVotes_47 rfl (lv_at hl 0 rfl) ?_
            refine lv_iload_n hx hb dX11_laysVotes_48 rfl (lv_at hl 1 rfl) ?_
            refine lv_iload_n hx hb dX11_laysVotes_49 rfl (lv_at hl 2 rfl) ?_
            obtain ⟨x50, h50, hf⟩ := bd_of hf
            refine r_callV (k := ((0, 0) : Ky)) C hW hl lk_X11_132 (c_X11_label h50) ⟨rfl, rfl⟩ ⟨Nat.le_of_ble_eq_true rfl, Nat.le_of_ble_eq_true rfl⟩ rfl rfl rfl (As := [.int v1, .int v2]) (rest := [.int (4 : Int32), .ref (ad 32)]) rfl rfl (Nat.le_of_ble_eq_true rfl) dX11_laysVotes_50 ⟨Nat.zero_le _, Nat.zero_le _⟩ (fun H locs hW => ?_)
            show W p l e (rmq 2 44) s m args below meth c H locs 0 0 Q (F0 m 53 ls [.int x50, .int (4 : Int32), .ref (ad 32)])
            refine lv_imul hx hb dX11_laysVotes_53 ?_
            refine lv_aload_n hx hb dX11_laysVotes_54 rfl (lv_at hl 0 rfl) ?_
            refine lv_iload_n hx hb dX11_laysVotes_55 rfl (lv_at hl 1 rfl) ?_
            refine lv_iload_n hx hb dX11_laysVotes_56 rfl (lv_at hl 2 rfl) ?_
            obtain ⟨x57, h57, hf⟩ := bd_of hf
            refine r_callV (k := ((0, 0) : Ky)) C hW hl lk_X11_124 (c_X11_noticeIn h57) ⟨rfl, rfl⟩ ⟨Nat.le_of_ble_eq_true rfl, Nat.le_of_ble_eq_true rfl⟩ rfl rfl rfl (As := [.int v1, .int v2]) (rest := [.int ((4 : Int32) * x50), .ref (ad 32)]) rfl rfl (Nat.le_of_ble_eq_true rfl) dX11_laysVotes_57 ⟨Nat.zero_le _, Nat.zero_le _⟩ (fun H locs hW => ?_)
            show W p l e (rmq 2 44) s m args below meth c H locs 0 0 Q (F0 m 60 ls [.int x57, .int ((4 : Int32) * x50), .ref (ad 32)])
            refine lv_iadd hx hb dX11_laysVotes_60 ?_
            refine lv_dup2_11 hx hb dX11_laysVotes_61 rfl rfl ?_
            obtain ⟨hi9, hf⟩ := ck_of hf
            refine r_iald (k := ((32, 0) : Ky)) (n := 2048) C hW rfl rfl hi9 dX11_laysVotes_62 ?_
            refine lv_iconst (v := 1) hx hb dX11_laysVotes_63 (by decide) ?_
            refine lv_iadd hx hb dX11_laysVotes_64 ?_
            obtain ⟨hi10, hf⟩ := ck_of hf
            refine r_iast (k := ((32, 0) : Ky)) (n := 2048) C hW rfl (fun _ => rfl) hi10 dX11_laysVotes_65 (fun H locs hW => ?_)
            refine lv_iinc (v := (v2 + (1 : Int32))) (lv' := [(2, .int (v2 + (1 : Int32))), (0, .ref (ad 0)), (1, .int v1)]) hx hb dX11_laysVotes_66 hl (k := 2) rfl rfl (by decide) rfl (fun ls hl => ?_)
            refine lv_goto (tgt := 26) hx hb dX11_laysVotes_69 (by decide) ?_
            obtain rfl := Option.some.inj hf
            exact Kl1 _ rfl _ _ _ hW (lv_sub hl [1, 2, 0] rfl)
      exact L26 μ (0 : Int32) _ _ _ hf hW (lv_sub hl [1, 2, 0] rfl)
    · have hf := (if_neg c1).symm.trans hf
      refine lv_aload_n hx hb dX11_laysVotes_11 rfl (lv_at hl 0 rfl) ?_
      refine gf_X11_80 C hW dX11_laysVotes_12 ?_
      refine lv_iload_n hx hb dX11_laysVotes_15 rfl (lv_at hl 2 rfl) ?_
      refine lv_iconst (v := 0) hx hb dX11_laysVotes_16 (by decide) ?_
      obtain ⟨hi12, hf⟩ := ck_of hf
      refine r_iast (k := ((32, 0) : Ky)) (n := 2048) C hW rfl (fun _ => rfl) hi12 dX11_laysVotes_17 (fun H locs hW => ?_)
      refine lv_iinc (v := (v2 + (1 : Int32))) (lv' := [(2, .int (v2 + (1 : Int32))), (0, .ref (ad 0)), (1, .int v1)]) hx hb dX11_laysVotes_18 hl (k := 2) rfl rfl (by decide) rfl (fun ls hl => ?_)
      refine lv_goto (tgt := 2) hx hb dX11_laysVotes_21 (by decide) ?_
      obtain rfl := Option.some.inj hf
      exact Kl1 _ rfl _ _ _ hW (lv_sub hl [1, 2, 0] rfl)
  exact L2 μ (0 : Int32) _ _ _ hf hW (lv_sub hl [1, 2, 0] rfl)
set_option maxHeartbeats 4000000 in
set_option maxRecDepth 100000 in
theorem c_X11_guessOf {l : Launch} {D : va_G} {tc : Nat → ClassId} {ro : Ro} {ad : Nat → Nat} {μ : Mm} {v1 v2 : Int32} {res : Int32} (hf : f_X11_guessOf μ v1 v2 = some res) : Ct l D tc ro (faM ad) (feM tc ad) yX11_guessOf cX11_guessOf 6 (some .int) (rmq 1 22) [.ref (ad 0), .int v1, .int v2] μ (some (.int res)) μ := by
  refine Ct.of (by decide) (Nat.le_of_ble_eq_true rfl) (fun p e s m args below meth c A C hr hk hW ls hl => ?_)
  have hx := C.1.1
  have hb := C.1.2.1
  obtain ⟨Q, hQ⟩ : ∃ Q, Q = MQ below (Ctq D (faM ad) (feM tc ad) (some (.int res)) μ A) args s 0 0 A := ⟨_, rfl⟩
  rw [← hQ]
  have hl : lv_has ls 6 [(0, .ref (ad 0)), (1, .int v1), (2, .int v2)] := hl
  unfold f_X11_guessOf at hf
  refine lv_iconst (v := 4) hx hb dX11_guessOf_0 (by decide) ?_
  refine lv_aload_n hx hb dX11_guessOf_1 rfl (lv_at hl 0 rfl) ?_
  refine lv_iload_n hx hb dX11_guessOf_2 rfl (lv_at hl 1 rfl) ?_
  refine lv_iload_n hx hb dX11_guessOf_3 rfl (lv_at hl 2 rfl) ?_
  obtain ⟨x4, h4, hf⟩ := bd_of hf
  refine r_callV (k := ((0, 0) : Ky)) C hW hl lk_X11_132 (c_X11_label h4) ⟨rfl, rfl⟩ ⟨Nat.le_of_ble_eq_true rfl, Nat.le_of_ble_eq_true rfl⟩ rfl rfl rfl (As := [.int v1, .int v2]) (rest := [.int (4 : Int32)]) rfl rfl (Nat.le_of_ble_eq_true rfl) dX11_guessOf_4 ⟨Nat.zero_le _, Nat.zero_le _⟩ (fun H locs hW => ?_)
  show W p l e (rmq 1 22) s m args below meth c H locs 0 0 Q (F0 m 7 ls [.int x4, .int (4 : Int32)])
  refine lv_imul hx hb dX11_guessOf_7 ?_
  refine lv_istore_n (lv' := [(3, .int ((4 : Int32) * x4)), (0, .ref (ad 0)), (1, .int v1), (2, .int v2)]) hx hb dX11_guessOf_8 rfl hl (by decide) rfl (fun ls hl => ?_)
  refine lv_iconst (v := 0) hx hb dX11_guessOf_9 (by decide) ?_
  refine lv_istore (lv' := [(4, .int (0 : Int32)), (3, .int ((4 : Int32) * x4)), (0, .ref (ad 0)), (1, .int v1), (2, .int v2)]) hx hb dX11_guessOf_10 hl (by decide) rfl (fun ls hl => ?_)
  refine lv_iconst (v := 1) hx hb dX11_guessOf_12 (by decide) ?_
  refine lv_istore (lv' := [(5, .int (1 : Int32)), (4, .int (0 : Int32)), (3, .int ((4 : Int32) * x4)), (0, .ref (ad 0)), (1, .int v1), (2, .int v2)]) hx hb dX11_guessOf_13 hl (by decide) rfl (fun ls hl => ?_)
  have L15 : ∀ (v3 v4 v5 : Int32) (H : Heap) (locs : List Loc) (ls : Array Slot), Wh (fun z : Int32 × Int32 => f_X11_guessOf_L15 v3 μ z.1 z.2) (v4, v5) = some res → Wd D (faM ad) (feM tc ad) A s.heap μ H locs → lv_has ls 6 [(0, .ref (ad 0)), (3, .int v3), (4, .int v4), (5, .int v5)] → W p l e (rmq 1 22) s m args below meth c H locs 0 0 Q (F0 m 15 ls []) := by
    intro v3 v4 v5 H locs ls hf hW hl
    refine Wh_rule hf (fun z : Int32 × Int32 => ∀ (H : Heap) (locs : List Loc) (ls : Array Slot), Wd D (faM ad) (feM tc ad) A s.heap μ H locs → lv_has ls 6 [(0, .ref (ad 0)), (3, .int v3), (4, .int z.1), (5, .int z.2)] → W p l e (rmq 1 22) s m args below meth c H locs 0 0 Q (F0 m 15 ls [])) (fun z o1 hf Kl1 Kr1 => ?_) _ _ _ hW hl
    obtain ⟨v4, v5⟩ := z
    intro H locs ls hW hl
    have hf : f_X11_guessOf_L15 v3 μ v4 v5 = some o1 := hf
    unfold f_X11_guessOf_L15 at hf
    have hW : Wd D (faM ad) (feM tc ad) A s.heap μ H locs := hW
    have hl : lv_has ls 6 [(0, .ref (ad 0)), (3, .int v3), (4, .int v4), (5, .int v5)] := hl
    refine lv_iload hx hb dX11_guessOf_15 (lv_at hl 3 rfl) ?_
    refine lv_aload_n hx hb dX11_guessOf_17 rfl (lv_at hl 0 rfl) ?_
    obtain ⟨x18, h18, hf⟩ := bd_of hf
    refine r_callV (k := ((0, 0) : Ky)) C hW hl lk_X11_118 (c_X11_values h18) ⟨rfl, rfl⟩ ⟨Nat.le_of_ble_eq_true rfl, Nat.le_of_ble_eq_true rfl⟩ rfl rfl rfl (As := []) (rest := [.int v5]) rfl rfl (Nat.le_of_ble_eq_true rfl) dX11_guessOf_18 ⟨Nat.zero_le _, Nat.zero_le _⟩ (fun H locs hW => ?_)
    show W p l e (rmq 1 22) s m args below meth c H locs 0 0 Q (F0 m 21 ls [.int x18, .int v5])
    refine lv_icmp_ge (tgt := 60) hx hb dX11_guessOf_21 (by decide) (fun c3 => ?_) (fun c3 => ?_)
    · have hf := (if_pos c3).symm.trans hf
      obtain ⟨x9004, hf, hx9004⟩ := map_of hf
      have e9004 := (Kr1 _ hx9004.symm).symm
      subst e9004
      refine lv_iload hx hb dX11_guessOf_60 (lv_at hl 2 rfl) ?_
      obtain rfl := Option.some.inj hf
      rw [hQ]
      exact r_iret C hr hk hW rfl rfl dX11_guessOf_62
    · have hf := (if_neg c3).symm.trans hf
      refine lv_aload_n hx hb dX11_guessOf_24 rfl (lv_at hl 0 rfl) ?_
      refine gf_X11_80 C hW dX11_guessOf_25 ?_
      refine lv_iload_n hx hb dX11_guessOf_28 rfl (lv_at hl 1 rfl) ?_
      refine lv_iload hx hb dX11_guessOf_29 (lv_at hl 3 rfl) ?_
      refine lv_iadd hx hb dX11_guessOf_31 ?_
      obtain ⟨hi5, hf⟩ := ck_of hf
      refine r_iald (k := ((32, 0) : Ky)) (n := 2048) C hW rfl rfl hi5 dX11_guessOf_32 ?_
      refine lv_aload_n hx hb dX11_guessOf_33 rfl (lv_at hl 0 rfl) ?_
      refine gf_X11_80 C hW dX11_guessOf_34 ?_
      refine lv_iload_n hx hb dX11_guessOf_37 rfl (lv_at hl 1 rfl) ?_
      refine lv_iload hx hb dX11_guessOf_38 (lv_at hl 2 rfl) ?_
      refine lv_iadd hx hb dX11_guessOf_40 ?_
      obtain ⟨hi6, hf⟩ := ck_of hf
      refine r_iald (k := ((32, 0) : Ky)) (n := 2048) C hW rfl rfl hi6 dX11_guessOf_41 ?_
      refine lv_icmp_le (tgt := 50) hx hb dX11_guessOf_42 (by decide) (fun c7 => ?_) (fun c7 => ?_)
      · have hf := (if_pos c7).symm.trans hf
        refine lv_iload hx hb dX11_guessOf_50 (lv_at hl 2 rfl) ?_
        refine lv_istore (lv' := [(4, .int v4), (0, .ref (ad 0)), (3, .int v3), (5, .int v5)]) hx hb dX11_guessOf_52 hl (by decide) rfl (fun ls hl => ?_)
        refine lv_iinc (v := (v5 + (1 : Int32))) (lv' := [(5, .int (v5 + (1 : Int32))), (4, .int v4), (0, .ref (ad 0)), (3, .int v3)]) hx hb dX11_guessOf_54 hl (k := 3) rfl rfl (by decide) rfl (fun ls hl => ?_)
        refine lv_goto (tgt := 15) hx hb dX11_guessOf_57 (by decide) ?_
        obtain rfl := Option.some.inj hf
        exact Kl1 _ rfl _ _ _ hW (lv_sub hl [2, 3, 1, 0] rfl)
      · have hf := (if_neg c7).symm.trans hf
        refine lv_iload hx hb dX11_guessOf_45 (lv_at hl 3 rfl) ?_
        refine lv_goto (tgt := 52) hx hb dX11_guessOf_47 (by decide) ?_
        refine lv_istore (lv' := [(4, .int v5), (0, .ref (ad 0)), (3, .int v3), (5, .int v5)]) hx hb dX11_guessOf_52 hl (by decide) rfl (fun ls hl => ?_)
        refine lv_iinc (v := (v5 + (1 : Int32))) (lv' := [(5, .int (v5 + (1 : Int32))), (4, .int v5), (0, .ref (ad 0)), (3, .int v3)]) hx hb dX11_guessOf_54 hl (k := 3) rfl rfl (by decide) rfl (fun ls hl => ?_)
        refine lv_goto (tgt := 15) hx hb dX11_guessOf_57 (by decide) ?_
        obtain rfl := Option.some.inj hf
        exact Kl1 _ rfl _ _ _ hW (lv_sub hl [2, 3, 1, 0] rfl)
  exact L15 ((4 : Int32) * x4) (0 : Int32) (1 : Int32) _ _ _ hf hW (lv_sub hl [3, 2, 1, 0] rfl)
