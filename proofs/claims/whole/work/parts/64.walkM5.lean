set_option maxHeartbeats 4000000 in
set_option maxRecDepth 100000 in
theorem c_X11_common {l : Launch} {D : va_G} {tc : Nat → ClassId} {ro : Ro} {ad : Nat → Nat} {μ : Mm} {v1 : Int32} {res : Int32 × Mm} (hf : f_X11_common μ v1 = some res) : Ct l D tc ro (faM ad) (feM tc ad) yX11_common cX11_common 5 (some .int) (rmq 2 45) [.ref (ad 0), .int v1] μ (some (.int res.1)) res.2 := by
  refine Ct.of (by decide) (Nat.le_of_ble_eq_true rfl) (fun p e s m args below meth c A C hr hk hW ls hl => ?_)
  have hx := C.1.1
  have hb := C.1.2.1
  obtain ⟨Q, hQ⟩ : ∃ Q, Q = MQ below (Ctq D (faM ad) (feM tc ad) (some (.int res.1)) res.2 A) args s 0 0 A := ⟨_, rfl⟩
  rw [← hQ]
  have hl : lv_has ls 5 [(0, .ref (ad 0)), (1, .int v1)] := hl
  unfold f_X11_common at hf
  refine lv_aload_n hx hb dX11_common_0 rfl (lv_at hl 0 rfl) ?_
  refine lv_iconst (v := 0) hx hb dX11_common_1 (by decide) ?_
  refine pf_X11_3 C hW dX11_common_2 (fun H locs hW => ?_)
  refine lv_aload_n hx hb dX11_common_5 rfl (lv_at hl 0 rfl) ?_
  refine lv_aload_n hx hb dX11_common_6 rfl (lv_at hl 0 rfl) ?_
  refine lv_iload_n hx hb dX11_common_7 rfl (lv_at hl 1 rfl) ?_
  obtain ⟨x8, h8, hf⟩ := bd_of hf
  refine r_callV (k := ((0, 0) : Ky)) C hW hl lk_X11_359 (c_X11_noPerson h8) ⟨rfl, rfl⟩ ⟨Nat.le_of_ble_eq_true rfl, Nat.le_of_ble_eq_true rfl⟩ rfl rfl rfl (As := [.int v1]) (rest := [.ref (ad 0)]) rfl rfl (Nat.le_of_ble_eq_true rfl) dX11_common_8 ⟨Nat.zero_le _, Nat.zero_le _⟩ (fun H locs hW => ?_)
  show W p l e (rmq 2 45) s m args below meth c H locs 0 0 Q (F0 m 11 ls [.int x8, .ref (ad 0)])
  refine lv_iconst (v := 1) hx hb dX11_common_11 (by decide) ?_
  obtain ⟨x12, h12, hf⟩ := bd_of hf
  refine r_callV (k := ((0, 0) : Ky)) C hW hl lk_X11_322 (c_X11_throwsIf h12) ⟨rfl, rfl⟩ ⟨Nat.le_of_ble_eq_true rfl, Nat.le_of_ble_eq_true rfl⟩ rfl rfl rfl (As := [.int x8, .int (1 : Int32)]) (rest := []) rfl rfl (Nat.le_of_ble_eq_true rfl) dX11_common_12 ⟨Nat.zero_le _, Nat.zero_le _⟩ (fun H locs hW => ?_)
  show W p l e (rmq 2 45) s m args below meth c H locs 0 0 Q (F0 m 15 ls [.int x12.1])
  refine lv_if_eq (tgt := 20) hx hb dX11_common_15 (by decide) (fun c3 => ?_) (fun c3 => ?_)
  · have hf := (if_pos c3).symm.trans hf
    refine lv_iconst (v := 0) hx hb dX11_common_20 (by decide) ?_
    refine lv_istore_n (lv' := [(2, .int (0 : Int32)), (0, .ref (ad 0)), (1, .int v1)]) hx hb dX11_common_21 rfl hl (by decide) rfl (fun ls hl => ?_)
    have L22 : ∀ (μ : Mm) (v2 : Int32) (H : Heap) (locs : List Loc) (ls : Array Slot), Wh (fun z : Mm × Int32 => f_X11_common_L22 v1 z.1 z.2) (μ, v2) = some res → Wd D (faM ad) (feM tc ad) A s.heap μ H locs → lv_has ls 5 [(0, .ref (ad 0)), (1, .int v1), (2, .int v2)] → W p l e (rmq 2 45) s m args below meth c H locs 0 0 Q (F0 m 22 ls []) := by
      intro μ v2 H locs ls hf hW hl
      refine Wh_rule hf (fun z : Mm × Int32 => ∀ (H : Heap) (locs : List Loc) (ls : Array Slot), Wd D (faM ad) (feM tc ad) A s.heap z.1 H locs → lv_has ls 5 [(0, .ref (ad 0)), (1, .int v1), (2, .int z.2)] → W p l e (rmq 2 45) s m args below meth c H locs 0 0 Q (F0 m 22 ls [])) (fun z o1 hf Kl1 Kr1 => ?_) _ _ _ hW hl
      obtain ⟨μ, v2⟩ := z
      intro H locs ls hW hl
      have hf : f_X11_common_L22 v1 μ v2 = some o1 := hf
      unfold f_X11_common_L22 at hf
      have hW : Wd D (faM ad) (feM tc ad) A s.heap μ H locs := hW
      have hl : lv_has ls 5 [(0, .ref (ad 0)), (1, .int v1), (2, .int v2)] := hl
      refine lv_iload_n hx hb dX11_common_22 rfl (lv_at hl 2 rfl) ?_
      refine lv_sipush (v := 512) hx hb dX11_common_23 (by decide) ?_
      refine lv_icmp_ge (tgt := 54) hx hb dX11_common_26 (by decide) (fun c4 => ?_) (fun c4 => ?_)
      · have hf := (if_pos c4).symm.trans hf
        obtain ⟨x9020, hf, hx9020⟩ := map_of hf
        have e9020 := (Kr1 _ hx9020.symm).symm
        subst e9020
        refine lv_iconst (v := 1) hx hb dX11_common_54 (by decide) ?_
        refine lv_istore_n (lv' := [(2, .int (1 : Int32)), (0, .ref (ad 0)), (1, .int v1)]) hx hb dX11_common_55 rfl hl (by decide) rfl (fun ls hl => ?_)
        have L56 : ∀ (μ : Mm) (v2 : Int32) (H : Heap) (locs : List Loc) (ls : Array Slot), Wh (fun z : Mm × Int32 => f_X11_common_L56 v1 z.1 z.2) (μ, v2) = some res → Wd D (faM ad) (feM tc ad) A s.heap μ H locs → lv_has ls 5 [(0, .ref (ad 0)), (1, .int v1), (2, .int v2)] → W p l e (rmq 2 45) s m args below meth c H locs 0 0 Q (F0 m 56 ls []) := by
          intro μ v2 H locs ls hf hW hl
          refine Wh_rule hf (fun z : Mm × Int32 => ∀ (H : Heap) (locs : List Loc) (ls : Array Slot), Wd D (faM ad) (feM tc ad) A s.heap z.1 H locs → lv_has ls 5 [(0, .ref (ad 0)), (1, .int v1), (2, .int z.2)] → W p l e (rmq 2 45) s m args below meth c H locs 0 0 Q (F0 m 56 ls [])) (fun z o1 hf Kl1 Kr1 => ?_) _ _ _ hW hl
          obtain ⟨μ, v2⟩ := z
          intro H locs ls hW hl
          have hf : f_X11_common_L56 v1 μ v2 = some o1 := hf
          unfold f_X11_common_L56 at hf
          have hW : Wd D (faM ad) (feM tc ad) A s.heap μ H locs := hW
          have hl : lv_has ls 5 [(0, .ref (ad 0)), (1, .int v1), (2, .int v2)] := hl
          refine lv_iload_n hx hb dX11_common_56 rfl (lv_at hl 2 rfl) ?_
          refine lv_if_eq (tgt := 99) hx hb dX11_common_57 (by decide) (fun c5 => ?_) (fun c5 => ?_)
          · have hf := (if_pos c5).symm.trans hf
            obtain ⟨x9013, hf, hx9013⟩ := map_of hf
            have e9013 := (Kr1 _ hx9013.symm).symm
            subst e9013
            refine lv_iconst (v := 0) hx hb dX11_common_99 (by decide) ?_
            refine lv_istore_n (lv' := [(3, .int (0 : Int32)), (0, .ref (ad 0)), (1, .int v1), (2, .int v2)]) hx hb dX11_common_100 rfl hl (by decide) rfl (fun ls hl => ?_)
            refine lv_iconst (v := 0) hx hb dX11_common_101 (by decide) ?_
            refine lv_istore (lv' := [(4, .int (0 : Int32)), (3, .int (0 : Int32)), (0, .ref (ad 0)), (1, .int v1), (2, .int v2)]) hx hb dX11_common_102 hl (by decide) rfl (fun ls hl => ?_)
            have L104 : ∀ (μ : Mm) (v3 v4 : Int32) (H : Heap) (locs : List Loc) (ls : Array Slot), Wh (fun z : Int32 × Int32 => f_X11_common_L104 v1 μ z.1 z.2) (v3, v4) = some res → Wd D (faM ad) (feM tc ad) A s.heap μ H locs → lv_has ls 5 [(0, .ref (ad 0)), (1, .int v1), (3, .int v3), (4, .int v4)] → W p l e (rmq 2 45) s m args below meth c H locs 0 0 Q (F0 m 104 ls []) := by
              intro μ v3 v4 H locs ls hf hW hl
              refine Wh_rule hf (fun z : Int32 × Int32 => ∀ (H : Heap) (locs : List Loc) (ls : Array Slot), Wd D (faM ad) (feM tc ad) A s.heap μ H locs → lv_has ls 5 [(0, .ref (ad 0)), (1, .int v1), (3, .int z.1), (4, .int z.2)] → W p l e (rmq 2 45) s m args below meth c H locs 0 0 Q (F0 m 104 ls [])) (fun z o1 hf Kl1 Kr1 => ?_) _ _ _ hW hl
              obtain ⟨v3, v4⟩ := z
              intro H locs ls hW hl
              have hf : f_X11_common_L104 v1 μ v3 v4 = some o1 := hf
              unfold f_X11_common_L104 at hf
              have hW : Wd D (faM ad) (feM tc ad) A s.heap μ H locs := hW
              have hl : lv_has ls 5 [(0, .ref (ad 0)), (1, .int v1), (3, .int v3), (4, .int v4)] := hl
              refine lv_iload hx hb dX11_common_104 (lv_at hl 3 rfl) ?_
              refine lv_aload_n hx hb dX11_common_106 rfl (lv_at hl 0 rfl) ?_
              obtain ⟨x107, h107, hf⟩ := bd_of hf
              refine r_callV (k := ((0, 0) : Ky)) C hW hl lk_X11_115 (c_X11_worlds h107) ⟨rfl, rfl⟩ ⟨Nat.le_of_ble_eq_true rfl, Nat.le_of_ble_eq_true rfl⟩ rfl rfl rfl (As := []) (rest := [.int v4]) rfl rfl (Nat.le_of_ble_eq_true rfl) dX11_common_107 ⟨Nat.zero_le _, Nat.zero_le _⟩ (fun H locs hW => ?_)
              show W p l e (rmq 2 45) s m args below meth c H locs 0 0 Q (F0 m 110 ls [.int x107, .int v4])
              refine lv_icmp_ge (tgt := 145) hx hb dX11_common_110 (by decide) (fun c7 => ?_) (fun c7 => ?_)
              · have hf := (if_pos c7).symm.trans hf
                obtain ⟨x9009, hf, hx9009⟩ := map_of hf
                have e9009 := (Kr1 _ hx9009.symm).symm
                subst e9009
                refine lv_iload_n hx hb dX11_common_145 rfl (lv_at hl 2 rfl) ?_
                obtain ⟨x146, h146, hf⟩ := bd_of hf
                refine r_callS C hW hl lk_X11_406 (c_X11_onlyOne h146) ⟨rfl, rfl⟩ ⟨Nat.le_of_ble_eq_true rfl, Nat.le_of_ble_eq_true rfl⟩ (As := [.int v3]) (rest := []) rfl rfl (Nat.le_of_ble_eq_true rfl) dX11_common_146 ⟨Nat.zero_le _, Nat.zero_le _⟩ (fun H locs hW => ?_)
                show W p l e (rmq 2 45) s m args below meth c H locs 0 0 Q (F0 m 149 ls [.int x146])
                obtain rfl := Option.some.inj hf
                rw [hQ]
                exact r_iret C hr hk hW rfl rfl dX11_common_149
              · have hf := (if_neg c7).symm.trans hf
                refine lv_iload_n hx hb dX11_common_113 rfl (lv_at hl 2 rfl) ?_
                refine lv_aload_n hx hb dX11_common_114 rfl (lv_at hl 0 rfl) ?_
                refine gf_X11_58 C hW dX11_common_115 ?_
                refine lv_iload hx hb dX11_common_118 (lv_at hl 3 rfl) ?_
                obtain ⟨hi10, hf⟩ := ck_of hf
                refine r_zald (k := ((25, 0) : Ky)) (n := 512) C hW rfl rfl hi10 dX11_common_120 ?_
                refine lv_if_eq (tgt := 136) hx hb dX11_common_121 (by decide) (fun c11 => ?_) (fun c11 => ?_)
                · have hf := (if_pos c11).symm.trans hf
                  refine lv_iconst (v := 0) hx hb dX11_common_136 (by decide) ?_
                  refine lv_ior hx hb dX11_common_137 ?_
                  refine lv_istore_n (lv' := [(3, .int (v3 ||| (0 : Int32))), (0, .ref (ad 0)), (1, .int v1), (4, .int v4)]) hx hb dX11_common_138 rfl hl (by decide) rfl (fun ls hl => ?_)
                  refine lv_iinc (v := (v4 + (1 : Int32))) (lv' := [(4, .int (v4 + (1 : Int32))), (3, .int (v3 ||| (0 : Int32))), (0, .ref (ad 0)), (1, .int v1)]) hx hb dX11_common_139 hl (k := 3) rfl rfl (by decide) rfl (fun ls hl => ?_)
                  refine lv_goto (tgt := 104) hx hb dX11_common_142 (by decide) ?_
                  obtain rfl := Option.some.inj hf
                  exact Kl1 _ rfl _ _ _ hW (lv_sub hl [2, 3, 1, 0] rfl)
                · have hf := (if_neg c11).symm.trans hf
                  refine lv_iconst (v := 1) hx hb dX11_common_124 (by decide) ?_
                  refine lv_aload_n hx hb dX11_common_125 rfl (lv_at hl 0 rfl) ?_
                  refine lv_iload_n hx hb dX11_common_126 rfl (lv_at hl 1 rfl) ?_
                  refine lv_iload hx hb dX11_common_127 (lv_at hl 3 rfl) ?_
                  obtain ⟨x129, h129, hf⟩ := bd_of hf
                  refine r_callV (k := ((0, 0) : Ky)) C hW hl lk_X11_124 (c_X11_noticeIn h129) ⟨rfl, rfl⟩ ⟨Nat.le_of_ble_eq_true rfl, Nat.le_of_ble_eq_true rfl⟩ rfl rfl rfl (As := [.int v1, .int v4]) (rest := [.int (1 : Int32), .int v3]) rfl rfl (Nat.le_of_ble_eq_true rfl) dX11_common_129 ⟨Nat.zero_le _, Nat.zero_le _⟩ (fun H locs hW => ?_)
                  show W p l e (rmq 2 45) s m args below meth c H locs 0 0 Q (F0 m 132 ls [.int x129, .int (1 : Int32), .int v3])
                  refine lv_ishl hx hb dX11_common_132 ?_
                  refine lv_goto (tgt := 137) hx hb dX11_common_133 (by decide) ?_
                  refine lv_ior hx hb dX11_common_137 ?_
                  refine lv_istore_n (lv' := [(3, .int (v3 ||| ((1 : Int32) <<< (x129 &&& 31)))), (0, .ref (ad 0)), (1, .int v1), (4, .int v4)]) hx hb dX11_common_138 rfl hl (by decide) rfl (fun ls hl => ?_)
                  refine lv_iinc (v := (v4 + (1 : Int32))) (lv' := [(4, .int (v4 + (1 : Int32))), (3, .int (v3 ||| ((1 : Int32) <<< (x129 &&& 31)))), (0, .ref (ad 0)), (1, .int v1)]) hx hb dX11_common_139 hl (k := 3) rfl rfl (by decide) rfl (fun ls hl => ?_)
                  refine lv_goto (tgt := 104) hx hb dX11_common_142 (by decide) ?_
                  obtain rfl := Option.some.inj hf
                  exact Kl1 _ rfl _ _ _ hW (lv_sub hl [2, 3, 1, 0] rfl)
            exact L104 μ (0 : Int32) (0 : Int32) _ _ _ hf hW (lv_sub hl [2, 3, 1, 0] rfl)
          · have hf := (if_neg c5).symm.trans hf
            refine lv_iconst (v := 0) hx hb dX11_common_60 (by decide) ?_
            refine lv_istore_n (lv' := [(2, .int (0 : Int32)), (0, .ref (ad 0)), (1, .int v1)]) hx hb dX11_common_61 rfl hl (by decide) rfl (fun ls hl => ?_)
            refine lv_iconst (v := 0) hx hb dX11_common_62 (by decide) ?_
            refine lv_istore_n (lv' := [(3, .int (0 : Int32)), (2, .int (0 : Int32)), (0, .ref (ad 0)), (1, .int v1)]) hx hb dX11_common_63 rfl hl (by decide) rfl (fun ls hl => ?_)
            have L64 : ∀ (μ : Mm) (v2 v3 : Int32) (H : Heap) (locs : List Loc) (ls : Array Slot), Wh (fun z : Mm × Int32 × Int32 => f_X11_common_L64 v1 z.1 z.2.1 z.2.2) (μ, v2, v3) = some o1 → Wd D (faM ad) (feM tc ad) A s.heap μ H locs → lv_has ls 5 [(0, .ref (ad 0)), (1, .int v1), (2, .int v2), (3, .int v3)] → W p l e (rmq 2 45) s m args below meth c H locs 0 0 Q (F0 m 64 ls []) := by
              intro μ v2 v3 H locs ls hf hW hl
              refine Wh_rule hf (fun z : Mm × Int32 × Int32 => ∀ (H : Heap) (locs : List Loc) (ls : Array Slot), Wd D (faM ad) (feM tc ad) A s.heap z.1 H locs → lv_has ls 5 [(0, .ref (ad 0)), (1, .int v1), (2, .int z.2.1), (3, .int z.2.2)] → W p l e (rmq 2 45) s m args below meth c H locs 0 0 Q (F0 m 64 ls [])) (fun z o2 hf Kl2 Kr2 => ?_) _ _ _ hW hl
              obtain ⟨μ, v2, v3⟩ := z
              intro H locs ls hW hl
              have hf : f_X11_common_L64 v1 μ v2 v3 = some o2 := hf
              unfold f_X11_common_L64 at hf
              have hW : Wd D (faM ad) (feM tc ad) A s.heap μ H locs := hW
              have hl : lv_has ls 5 [(0, .ref (ad 0)), (1, .int v1), (2, .int v2), (3, .int v3)] := hl
              refine lv_iload_n hx hb dX11_common_64 rfl (lv_at hl 3 rfl) ?_
              refine lv_aload_n hx hb dX11_common_65 rfl (lv_at hl 0 rfl) ?_
              obtain ⟨x66, h66, hf⟩ := bd_of hf
              refine r_callV (k := ((0, 0) : Ky)) C hW hl lk_X11_107 (c_X11_people h66) ⟨rfl, rfl⟩ ⟨Nat.le_of_ble_eq_true rfl, Nat.le_of_ble_eq_true rfl⟩ rfl rfl rfl (As := []) (rest := [.int v3]) rfl rfl (Nat.le_of_ble_eq_true rfl) dX11_common_66 ⟨Nat.zero_le _, Nat.zero_le _⟩ (fun H locs hW => ?_)
              show W p l e (rmq 2 45) s m args below meth c H locs 0 0 Q (F0 m 69 ls [.int x66, .int v3])
              refine lv_icmp_ge (tgt := 96) hx hb dX11_common_69 (by decide) (fun c15 => ?_) (fun c15 => ?_)
              · have hf := (if_pos c15).symm.trans hf
                obtain ⟨x9016, hf, hx9016⟩ := map_of hf
                have e9016 := (Kr2 _ hx9016.symm).symm
                subst e9016
                refine lv_goto (tgt := 56) hx hb dX11_common_96 (by decide) ?_
                obtain rfl := Option.some.inj hf
                exact Kl1 _ rfl _ _ _ hW (lv_sub hl [0, 1, 2] rfl)
              · have hf := (if_neg c15).symm.trans hf
                refine lv_aload_n hx hb dX11_common_72 rfl (lv_at hl 0 rfl) ?_
                refine lv_iload_n hx hb dX11_common_73 rfl (lv_at hl 3 rfl) ?_
                obtain ⟨x74, h74, hf⟩ := bd_of hf
                refine r_callV (k := ((0, 0) : Ky)) C hW hl lk_X11_409 (c_X11_comes h74) ⟨rfl, rfl⟩ ⟨Nat.le_of_ble_eq_true rfl, Nat.le_of_ble_eq_true rfl⟩ rfl rfl rfl (As := [.int v3]) (rest := []) rfl rfl (Nat.le_of_ble_eq_true rfl) dX11_common_74 ⟨Nat.zero_le _, Nat.zero_le _⟩ (fun H locs hW => ?_)
                show W p l e (rmq 2 45) s m args below meth c H locs 0 0 Q (F0 m 77 ls [.int x74.1])
                refine lv_if_ne (tgt := 84) hx hb dX11_common_77 (by decide) (fun c18 => ?_) (fun c18 => ?_)
                · have hf := (if_neg c18).symm.trans hf
                  refine lv_iconst (v := 1) hx hb dX11_common_84 (by decide) ?_
                  refine lv_goto (tgt := 89) hx hb dX11_common_85 (by decide) ?_
                  refine lv_istore_n (lv' := [(2, .int (1 : Int32)), (0, .ref (ad 0)), (1, .int v1), (3, .int v3)]) hx hb dX11_common_89 rfl hl (by decide) rfl (fun ls hl => ?_)
                  refine lv_iinc (v := (v3 + (1 : Int32))) (lv' := [(3, .int (v3 + (1 : Int32))), (2, .int (1 : Int32)), (0, .ref (ad 0)), (1, .int v1)]) hx hb dX11_common_90 hl (k := 3) rfl rfl (by decide) rfl (fun ls hl => ?_)
                  refine lv_goto (tgt := 64) hx hb dX11_common_93 (by decide) ?_
                  obtain rfl := Option.some.inj hf
                  exact Kl2 _ rfl _ _ _ hW (lv_sub hl [2, 3, 1, 0] rfl)
                · have hf := (if_pos c18).symm.trans hf
                  refine lv_iload_n hx hb dX11_common_80 rfl (lv_at hl 2 rfl) ?_
                  refine lv_if_eq (tgt := 88) hx hb dX11_common_81 (by decide) (fun c19 => ?_) (fun c19 => ?_)
                  · have hf := (if_pos c19).symm.trans hf
                    refine lv_iconst (v := 0) hx hb dX11_common_88 (by decide) ?_
                    refine lv_istore_n (lv' := [(2, .int (0 : Int32)), (0, .ref (ad 0)), (1, .int v1), (3, .int v3)]) hx hb dX11_common_89 rfl hl (by decide) rfl (fun ls hl => ?_)
                    refine lv_iinc (v := (v3 + (1 : Int32))) (lv' := [(3, .int (v3 + (1 : Int32))), (2, .int (0 : Int32)), (0, .ref (ad 0)), (1, .int v1)]) hx hb dX11_common_90 hl (k := 3) rfl rfl (by decide) rfl (fun ls hl => ?_)
                    refine lv_goto (tgt := 64) hx hb dX11_common_93 (by decide) ?_
                    obtain rfl := Option.some.inj hf
                    exact Kl2 _ rfl _ _ _ hW (lv_sub hl [2, 3, 1, 0] rfl)
                  · have hf := (if_neg c19).symm.trans hf
                    refine lv_iconst (v := 1) hx hb dX11_common_84 (by decide) ?_
                    refine lv_goto (tgt := 89) hx hb dX11_common_85 (by decide) ?_
                    refine lv_istore_n (lv' := [(2, .int (1 : Int32)), (0, .ref (ad 0)), (1, .int v1), (3, .int v3)]) hx hb dX11_common_89 rfl hl (by decide) rfl (fun ls hl => ?_)
                    refine lv_iinc (v := (v3 + (1 : Int32))) (lv' := [(3, .int (v3 + (1 : Int32))), (2, .int (1 : Int32)), (0, .ref (ad 0)), (1, .int v1)]) hx hb dX11_common_90 hl (k := 3) rfl rfl (by decide) rfl (fun ls hl => ?_)
                    refine lv_goto (tgt := 64) hx hb dX11_common_93 (by decide) ?_
                    obtain rfl := Option.some.inj hf
                    exact Kl2 _ rfl _ _ _ hW (lv_sub hl [2, 3, 1, 0] rfl)
            exact L64 μ (0 : Int32) (0 : Int32) _ _ _ hf hW (lv_sub hl [2, 3, 1, 0] rfl)
        exact L56 μ (1 : Int32) _ _ _ hf hW (lv_sub hl [1, 2, 0] rfl)
      · have hf := (if_neg c4).symm.trans hf
        refine lv_aload_n hx hb dX11_common_29 rfl (lv_at hl 0 rfl) ?_
        refine gf_X11_58 C hW dX11_common_30 ?_
        refine lv_iload_n hx hb dX11_common_33 rfl (lv_at hl 2 rfl) ?_
        refine lv_iload_n hx hb dX11_common_34 rfl (lv_at hl 2 rfl) ?_
        refine lv_aload_n hx hb dX11_common_35 rfl (lv_at hl 0 rfl) ?_
        obtain ⟨x36, h36, hf⟩ := bd_of hf
        refine r_callV (k := ((0, 0) : Ky)) C hW hl lk_X11_121 (c_X11_here h36) ⟨rfl, rfl⟩ ⟨Nat.le_of_ble_eq_true rfl, Nat.le_of_ble_eq_true rfl⟩ rfl rfl rfl (As := []) (rest := [.int v2, .int v2, .ref (ad 25)]) rfl rfl (Nat.le_of_ble_eq_true rfl) dX11_common_36 ⟨Nat.zero_le _, Nat.zero_le _⟩ (fun H locs hW => ?_)
        show W p l e (rmq 2 45) s m args below meth c H locs 0 0 Q (F0 m 39 ls [.int x36, .int v2, .int v2, .ref (ad 25)])
        refine lv_icmp_ne (tgt := 46) hx hb dX11_common_39 (by decide) (fun c22 => ?_) (fun c22 => ?_)
        · have hf := (if_neg c22).symm.trans hf
          refine lv_iconst (v := 0) hx hb dX11_common_46 (by decide) ?_
          obtain ⟨hi23, hf⟩ := ck_of hf
          refine r_zast (k := ((25, 0) : Ky)) (n := 512) C hW rfl (fun _ => rfl) hi23 dX11_common_47 (fun H locs hW => ?_)
          refine lv_iinc (v := (v2 + (1 : Int32))) (lv' := [(2, .int (v2 + (1 : Int32))), (0, .ref (ad 0)), (1, .int v1)]) hx hb dX11_common_48 hl (k := 2) rfl rfl (by decide) rfl (fun ls hl => ?_)
          refine lv_goto (tgt := 22) hx hb dX11_common_51 (by decide) ?_
          obtain rfl := Option.some.inj hf
          exact Kl1 _ rfl _ _ _ hW (lv_sub hl [1, 2, 0] rfl)
        · have hf := (if_pos c22).symm.trans hf
          refine lv_iconst (v := 1) hx hb dX11_common_42 (by decide) ?_
          refine lv_goto (tgt := 47) hx hb dX11_common_43 (by decide) ?_
          obtain ⟨hi24, hf⟩ := ck_of hf
          refine r_zast (k := ((25, 0) : Ky)) (n := 512) C hW rfl (fun _ => rfl) hi24 dX11_common_47 (fun H locs hW => ?_)
          refine lv_iinc (v := (v2 + (1 : Int32))) (lv' := [(2, .int (v2 + (1 : Int32))), (0, .ref (ad 0)), (1, .int v1)]) hx hb dX11_common_48 hl (k := 2) rfl rfl (by decide) rfl (fun ls hl => ?_)
          refine lv_goto (tgt := 22) hx hb dX11_common_51 (by decide) ?_
          obtain rfl := Option.some.inj hf
          exact Kl1 _ rfl _ _ _ hW (lv_sub hl [1, 2, 0] rfl)
    exact L22 x12.2 (0 : Int32) _ _ _ hf hW (lv_sub hl [1, 2, 0] rfl)
  · have hf := (if_neg c3).symm.trans hf
    refine lv_iconst (v := 0) hx hb dX11_common_18 (by decide) ?_
    obtain rfl := Option.some.inj hf
    rw [hQ]
    exact r_iret C hr hk hW rfl rfl dX11_common_19
set_option maxHeartbeats 4000000 in
set_option maxRecDepth 100000 in
theorem c_X11_keepsAll {l : Launch} {D : va_G} {tc : Nat → ClassId} {ro : Ro} {ad : Nat → Nat} {μ : Mm} {res : Mm} (hf : f_X11_keepsAll μ = some res) : Ct l D tc ro (faM ad) (feM tc ad) yX11_keepsAll cX11_keepsAll 2 none (rmq 0 0) [.ref (ad 0)] μ none res := by
  refine Ct.of (by decide) (Nat.le_of_ble_eq_true rfl) (fun p e s m args below meth c A C hr hk hW ls hl => ?_)
  have hx := C.1.1
  have hb := C.1.2.1
  obtain ⟨Q, hQ⟩ : ∃ Q, Q = MQ below (Ctq D (faM ad) (feM tc ad) none res A) args s 0 0 A := ⟨_, rfl⟩
  rw [← hQ]
  have hl : lv_has ls 2 [(0, .ref (ad 0))] := hl
  unfold f_X11_keepsAll at hf
  refine lv_iconst (v := 0) hx hb dX11_keepsAll_0 (by decide) ?_
  refine lv_istore_n (lv' := [(1, .int (0 : Int32)), (0, .ref (ad 0))]) hx hb dX11_keepsAll_1 rfl hl (by decide) rfl (fun ls hl => ?_)
  have L2 : ∀ (μ : Mm) (v1 : Int32) (H : Heap) (locs : List Loc) (ls : Array Slot), Wh (fun z : Mm × Int32 => f_X11_keepsAll_L2 z.1 z.2) (μ, v1) = some res → Wd D (faM ad) (feM tc ad) A s.heap μ H locs → lv_has ls 2 [(0, .ref (ad 0)), (1, .int v1)] → W p l e (rmq 0 0) s m args below meth c H locs 0 0 Q (F0 m 2 ls []) := by
    intro μ v1 H locs ls hf hW hl
    refine Wh_rule hf (fun z : Mm × Int32 => ∀ (H : Heap) (locs : List Loc) (ls : Array Slot), Wd D (faM ad) (feM tc ad) A s.heap z.1 H locs → lv_has ls 2 [(0, .ref (ad 0)), (1, .int z.2)] → W p l e (rmq 0 0) s m args below meth c H locs 0 0 Q (F0 m 2 ls [])) (fun z o1 hf Kl1 Kr1 => ?_) _ _ _ hW hl
    obtain ⟨μ, v1⟩ := z
    intro H locs ls hW hl
    have hf : f_X11_keepsAll_L2 μ v1 = some o1 := hf
    unfold f_X11_keepsAll_L2 at hf
    have hW : Wd D (faM ad) (feM tc ad) A s.heap μ H locs := hW
    have hl : lv_has ls 2 [(0, .ref (ad 0)), (1, .int v1)] := hl
    refine lv_iload_n hx hb dX11_keepsAll_2 rfl (lv_at hl 1 rfl) ?_
    refine lv_sipush (v := 5440) hx hb dX11_keepsAll_3 (by decide) ?_
    refine lv_icmp_ge (tgt := 27) hx hb dX11_keepsAll_6 (by decide) (fun c1 => ?_) (fun c1 => ?_)
    · have hf := (if_pos c1).symm.trans hf
      obtain ⟨x9002, hf, hx9002⟩ := map_of hf
      have e9002 := (Kr1 _ hx9002.symm).symm
      subst e9002
      obtain rfl := Option.some.inj hf
      rw [hQ]
      exact r_vret C hr hk hW rfl rfl dX11_keepsAll_27
    · have hf := (if_neg c1).symm.trans hf
      refine lv_aload_n hx hb dX11_keepsAll_9 rfl (lv_at hl 0 rfl) ?_
      refine gf_X11_23 C hW dX11_keepsAll_10 ?_
      refine lv_iload_n hx hb dX11_keepsAll_13 rfl (lv_at hl 1 rfl) ?_
      refine lv_aload_n hx hb dX11_keepsAll_14 rfl (lv_at hl 0 rfl) ?_
      refine gf_X11_13 C hW dX11_keepsAll_15 ?_
      refine lv_iload_n hx hb dX11_keepsAll_18 rfl (lv_at hl 1 rfl) ?_
      obtain ⟨hi3, hf⟩ := ck_of hf
      refine r_iald (k := ((1, 0) : Ky)) (n := 7114) C hW rfl rfl hi3 dX11_keepsAll_19 ?_
      obtain ⟨hi4, hf⟩ := ck_of hf
      refine r_iast (k := ((4, 0) : Ky)) (n := 5440) C hW rfl (fun _ => rfl) hi4 dX11_keepsAll_20 (fun H locs hW => ?_)
      refine lv_iinc (v := (v1 + (1 : Int32))) (lv' := [(1, .int (v1 + (1 : Int32))), (0, .ref (ad 0))]) hx hb dX11_keepsAll_21 hl (k := 1) rfl rfl (by decide) rfl (fun ls hl => ?_)
      refine lv_goto (tgt := 2) hx hb dX11_keepsAll_24 (by decide) ?_
      obtain rfl := Option.some.inj hf
      exact Kl1 _ rfl _ _ _ hW (lv_sub hl [1, 0] rfl)
  exact L2 μ (0 : Int32) _ _ _ hf hW (lv_sub hl [1, 0] rfl)
set_option maxHeartbeats 4000000 in
set_option maxRecDepth 100000 in
theorem c_X11_bringsBack {l : Launch} {D : va_G} {tc : Nat → ClassId} {ro : Ro} {ad : Nat → Nat} {μ : Mm} {res : Mm} (hf : f_X11_bringsBack μ = some res) : Ct l D tc ro (faM ad) (feM tc ad) yX11_bringsBack cX11_bringsBack 2 none (rmq 0 0) [.ref (ad 0)] μ none res := by
  refine Ct.of (by decide) (Nat.le_of_ble_eq_true rfl) (fun p e s m args below meth c A C hr hk hW ls hl => ?_)
  have hx := C.1.1
  have hb := C.1.2.1
  obtain ⟨Q, hQ⟩ : ∃ Q, Q = MQ below (Ctq D (faM ad) (feM tc ad) none res A) args s 0 0 A := ⟨_, rfl⟩
  rw [← hQ]
  have hl : lv_has ls 2 [(0, .ref (ad 0))] := hl
  unfold f_X11_bringsBack at hf
  refine lv_iconst (v := 0) hx hb dX11_bringsBack_0 (by decide) ?_
  refine lv_istore_n (lv' := [(1, .int (0 : Int32)), (0, .ref (ad 0))]) hx hb dX11_bringsBack_1 rfl hl (by decide) rfl (fun ls hl => ?_)
  have L2 : ∀ (μ : Mm) (v1 : Int32) (H : Heap) (locs : List Loc) (ls : Array Slot), Wh (fun z : Mm × Int32 => f_X11_bringsBack_L2 z.1 z.2) (μ, v1) = some res → Wd D (faM ad) (feM tc ad) A s.heap μ H locs → lv_has ls 2 [(0, .ref (ad 0)), (1, .int v1)] → W p l e (rmq 0 0) s m args below meth c H locs 0 0 Q (F0 m 2 ls []) := by
    intro μ v1 H locs ls hf hW hl
    refine Wh_rule hf (fun z : Mm × Int32 => ∀ (H : Heap) (locs : List Loc) (ls : Array Slot), Wd D (faM ad) (feM tc ad) A s.heap z.1 H locs → lv_has ls 2 [(0, .ref (ad 0)), (1, .int z.2)] → W p l e (rmq 0 0) s m args below meth c H locs 0 0 Q (F0 m 2 ls [])) (fun z o1 hf Kl1 Kr1 => ?_) _ _ _ hW hl
    obtain ⟨μ, v1⟩ := z
    intro H locs ls hW hl
    have hf : f_X11_bringsBack_L2 μ v1 = some o1 := hf
    unfold f_X11_bringsBack_L2 at hf
    have hW : Wd D (faM ad) (feM tc ad) A s.heap μ H locs := hW
    have hl : lv_has ls 2 [(0, .ref (ad 0)), (1, .int v1)] := hl
    refine lv_iload_n hx hb dX11_bringsBack_2 rfl (lv_at hl 1 rfl) ?_
    refine lv_sipush (v := 5440) hx hb dX11_bringsBack_3 (by decide) ?_
    refine lv_icmp_ge (tgt := 27) hx hb dX11_bringsBack_6 (by decide) (fun c1 => ?_) (fun c1 => ?_)
    · have hf := (if_pos c1).symm.trans hf
      obtain ⟨x9002, hf, hx9002⟩ := map_of hf
      have e9002 := (Kr1 _ hx9002.symm).symm
      subst e9002
      obtain rfl := Option.some.inj hf
      rw [hQ]
      exact r_vret C hr hk hW rfl rfl dX11_bringsBack_27
    · have hf := (if_neg c1).symm.trans hf
      refine lv_aload_n hx hb dX11_bringsBack_9 rfl (lv_at hl 0 rfl) ?_
      refine gf_X11_13 C hW dX11_bringsBack_10 ?_
      refine lv_iload_n hx hb dX11_bringsBack_13 rfl (lv_at hl 1 rfl) ?_
      refine lv_aload_n hx hb dX11_bringsBack_14 rfl (lv_at hl 0 rfl) ?_
      refine gf_X11_23 C hW dX11_bringsBack_15 ?_
      refine lv_iload_n hx hb dX11_bringsBack_18 rfl (lv_at hl 1 rfl) ?_
      obtain ⟨hi3, hf⟩ := ck_of hf
      refine r_iald (k := ((4, 0) : Ky)) (n := 5440) C hW rfl rfl hi3 dX11_bringsBack_19 ?_
      obtain ⟨hi4, hf⟩ := ck_of hf
      refine r_iast (k := ((1, 0) : Ky)) (n := 7114) C hW rfl (fun _ => rfl) hi4 dX11_bringsBack_20 (fun H locs hW => ?_)
      refine lv_iinc (v := (v1 + (1 : Int32))) (lv' := [(1, .int (v1 + (1 : Int32))), (0, .ref (ad 0))]) hx hb dX11_bringsBack_21 hl (k := 1) rfl rfl (by decide) rfl (fun ls hl => ?_)
      refine lv_goto (tgt := 2) hx hb dX11_bringsBack_24 (by decide) ?_
      obtain rfl := Option.some.inj hf
      exact Kl1 _ rfl _ _ _ hW (lv_sub hl [1, 0] rfl)
  exact L2 μ (0 : Int32) _ _ _ hf hW (lv_sub hl [1, 0] rfl)
set_option maxHeartbeats 4000000 in
set_option maxRecDepth 100000 in
theorem c_X11_keepsLeft {l : Launch} {D : va_G} {tc : Nat → ClassId} {ro : Ro} {ad : Nat → Nat} {μ : Mm} {res : Mm} (hf : f_X11_keepsLeft μ = some res) : Ct l D tc ro (faM ad) (feM tc ad) yX11_keepsLeft cX11_keepsLeft 2 none (rmq 0 0) [.ref (ad 0)] μ none res := by
  refine Ct.of (by decide) (Nat.le_of_ble_eq_true rfl) (fun p e s m args below meth c A C hr hk hW ls hl => ?_)
  have hx := C.1.1
  have hb := C.1.2.1
  obtain ⟨Q, hQ⟩ : ∃ Q, Q = MQ below (Ctq D (faM ad) (feM tc ad) none res A) args s 0 0 A := ⟨_, rfl⟩
  rw [← hQ]
  have hl : lv_has ls 2 [(0, .ref (ad 0))] := hl
  unfold f_X11_keepsLeft at hf
  refine lv_iconst (v := 0) hx hb dX11_keepsLeft_0 (by decide) ?_
  refine lv_istore_n (lv' := [(1, .int (0 : Int32)), (0, .ref (ad 0))]) hx hb dX11_keepsLeft_1 rfl hl (by decide) rfl (fun ls hl => ?_)
  have L2 : ∀ (μ : Mm) (v1 : Int32) (H : Heap) (locs : List Loc) (ls : Array Slot), Wh (fun z : Mm × Int32 => f_X11_keepsLeft_L2 z.1 z.2) (μ, v1) = some res → Wd D (faM ad) (feM tc ad) A s.heap μ H locs → lv_has ls 2 [(0, .ref (ad 0)), (1, .int v1)] → W p l e (rmq 0 0) s m args below meth c H locs 0 0 Q (F0 m 2 ls []) := by
    intro μ v1 H locs ls hf hW hl
    refine Wh_rule hf (fun z : Mm × Int32 => ∀ (H : Heap) (locs : List Loc) (ls : Array Slot), Wd D (faM ad) (feM tc ad) A s.heap z.1 H locs → lv_has ls 2 [(0, .ref (ad 0)), (1, .int z.2)] → W p l e (rmq 0 0) s m args below meth c H locs 0 0 Q (F0 m 2 ls [])) (fun z o1 hf Kl1 Kr1 => ?_) _ _ _ hW hl
    obtain ⟨μ, v1⟩ := z
    intro H locs ls hW hl
    have hf : f_X11_keepsLeft_L2 μ v1 = some o1 := hf
    unfold f_X11_keepsLeft_L2 at hf
    have hW : Wd D (faM ad) (feM tc ad) A s.heap μ H locs := hW
    have hl : lv_has ls 2 [(0, .ref (ad 0)), (1, .int v1)] := hl
    refine lv_iload_n hx hb dX11_keepsLeft_2 rfl (lv_at hl 1 rfl) ?_
    refine lv_sipush (v := 512) hx hb dX11_keepsLeft_3 (by decide) ?_
    refine lv_icmp_ge (tgt := 30) hx hb dX11_keepsLeft_6 (by decide) (fun c1 => ?_) (fun c1 => ?_)
    · have hf := (if_pos c1).symm.trans hf
      obtain ⟨x9002, hf, hx9002⟩ := map_of hf
      have e9002 := (Kr1 _ hx9002.symm).symm
      subst e9002
      obtain rfl := Option.some.inj hf
      rw [hQ]
      exact r_vret C hr hk hW rfl rfl dX11_keepsLeft_30
    · have hf := (if_neg c1).symm.trans hf
      refine lv_aload_n hx hb dX11_keepsLeft_9 rfl (lv_at hl 0 rfl) ?_
      refine gf_X11_65 C hW dX11_keepsLeft_10 ?_
      refine lv_iload_n hx hb dX11_keepsLeft_13 rfl (lv_at hl 1 rfl) ?_
      refine lv_aload_n hx hb dX11_keepsLeft_14 rfl (lv_at hl 0 rfl) ?_
      refine gf_X11_13 C hW dX11_keepsLeft_15 ?_
      refine lv_bipush (v := 20) hx hb dX11_keepsLeft_18 (by decide) ?_
      refine lv_iload_n hx hb dX11_keepsLeft_20 rfl (lv_at hl 1 rfl) ?_
      refine lv_iadd hx hb dX11_keepsLeft_21 ?_
      obtain ⟨hi3, hf⟩ := ck_of hf
      refine r_iald (k := ((1, 0) : Ky)) (n := 7114) C hW rfl rfl hi3 dX11_keepsLeft_22 ?_
      obtain ⟨hi4, hf⟩ := ck_of hf
      refine r_iast (k := ((27, 0) : Ky)) (n := 512) C hW rfl (fun _ => rfl) hi4 dX11_keepsLeft_23 (fun H locs hW => ?_)
      refine lv_iinc (v := (v1 + (1 : Int32))) (lv' := [(1, .int (v1 + (1 : Int32))), (0, .ref (ad 0))]) hx hb dX11_keepsLeft_24 hl (k := 1) rfl rfl (by decide) rfl (fun ls hl => ?_)
      refine lv_goto (tgt := 2) hx hb dX11_keepsLeft_27 (by decide) ?_
      obtain rfl := Option.some.inj hf
      exact Kl1 _ rfl _ _ _ hW (lv_sub hl [1, 0] rfl)
  exact L2 μ (0 : Int32) _ _ _ hf hW (lv_sub hl [1, 0] rfl)
set_option maxHeartbeats 4000000 in
set_option maxRecDepth 100000 in
theorem c_X11_bringsLeft {l : Launch} {D : va_G} {tc : Nat → ClassId} {ro : Ro} {ad : Nat → Nat} {μ : Mm} {res : Mm} (hf : f_X11_bringsLeft μ = some res) : Ct l D tc ro (faM ad) (feM tc ad) yX11_bringsLeft cX11_bringsLeft 2 none (rmq 0 0) [.ref (ad 0)] μ none res := by
  refine Ct.of (by decide) (Nat.le_of_ble_eq_true rfl) (fun p e s m args below meth c A C hr hk hW ls hl => ?_)
  have hx := C.1.1
  have hb := C.1.2.1
  obtain ⟨Q, hQ⟩ : ∃ Q, Q = MQ below (Ctq D (faM ad) (feM tc ad) none res A) args s 0 0 A := ⟨_, rfl⟩
  rw [← hQ]
  have hl : lv_has ls 2 [(0, .ref (ad 0))] := hl
  unfold f_X11_bringsLeft at hf
  refine lv_iconst (v := 0) hx hb dX11_bringsLeft_0 (by decide) ?_
  refine lv_istore_n (lv' := [(1, .int (0 : Int32)), (0, .ref (ad 0))]) hx hb dX11_bringsLeft_1 rfl hl (by decide) rfl (fun ls hl => ?_)
  have L2 : ∀ (μ : Mm) (v1 : Int32) (H : Heap) (locs : List Loc) (ls : Array Slot), Wh (fun z : Mm × Int32 => f_X11_bringsLeft_L2 z.1 z.2) (μ, v1) = some res → Wd D (faM ad) (feM tc ad) A s.heap μ H locs → lv_has ls 2 [(0, .ref (ad 0)), (1, .int v1)] → W p l e (rmq 0 0) s m args below meth c H locs 0 0 Q (F0 m 2 ls []) := by
    intro μ v1 H locs ls hf hW hl
    refine Wh_rule hf (fun z : Mm × Int32 => ∀ (H : Heap) (locs : List Loc) (ls : Array Slot), Wd D (faM ad) (feM tc ad) A s.heap z.1 H locs → lv_has ls 2 [(0, .ref (ad 0)), (1, .int z.2)] → W p l e (rmq 0 0) s m args below meth c H locs 0 0 Q (F0 m 2 ls [])) (fun z o1 hf Kl1 Kr1 => ?_) _ _ _ hW hl
    obtain ⟨μ, v1⟩ := z
    intro H locs ls hW hl
    have hf : f_X11_bringsLeft_L2 μ v1 = some o1 := hf
    unfold f_X11_bringsLeft_L2 at hf
    have hW : Wd D (faM ad) (feM tc ad) A s.heap μ H locs := hW
    have hl : lv_has ls 2 [(0, .ref (ad 0)), (1, .int v1)] := hl
    refine lv_iload_n hx hb dX11_bringsLeft_2 rfl (lv_at hl 1 rfl) ?_
    refine lv_sipush (v := 512) hx hb dX11_bringsLeft_3 (by decide) ?_
    refine lv_icmp_ge (tgt := 30) hx hb dX11_bringsLeft_6 (by decide) (fun c1 => ?_) (fun c1 => ?_)
    · have hf := (if_pos c1).symm.trans hf
      obtain ⟨x9002, hf, hx9002⟩ := map_of hf
      have e9002 := (Kr1 _ hx9002.symm).symm
      subst e9002
      obtain rfl := Option.some.inj hf
      rw [hQ]
      exact r_vret C hr hk hW rfl rfl dX11_bringsLeft_30
    · have hf := (if_neg c1).symm.trans hf
      refine lv_aload_n hx hb dX11_bringsLeft_9 rfl (lv_at hl 0 rfl) ?_
      refine gf_X11_13 C hW dX11_bringsLeft_10 ?_
      refine lv_bipush (v := 20) hx hb dX11_bringsLeft_13 (by decide) ?_
      refine lv_iload_n hx hb dX11_bringsLeft_15 rfl (lv_at hl 1 rfl) ?_
      refine lv_iadd hx hb dX11_bringsLeft_16 ?_
      refine lv_aload_n hx hb dX11_bringsLeft_17 rfl (lv_at hl 0 rfl) ?_
      refine gf_X11_65 C hW dX11_bringsLeft_18 ?_
      refine lv_iload_n hx hb dX11_bringsLeft_21 rfl (lv_at hl 1 rfl) ?_
      obtain ⟨hi3, hf⟩ := ck_of hf
      refine r_iald (k := ((27, 0) : Ky)) (n := 512) C hW rfl rfl hi3 dX11_bringsLeft_22 ?_
      obtain ⟨hi4, hf⟩ := ck_of hf
      refine r_iast (k := ((1, 0) : Ky)) (n := 7114) C hW rfl (fun _ => rfl) hi4 dX11_bringsLeft_23 (fun H locs hW => ?_)
      refine lv_iinc (v := (v1 + (1 : Int32))) (lv' := [(1, .int (v1 + (1 : Int32))), (0, .ref (ad 0))]) hx hb dX11_bringsLeft_24 hl (k := 1) rfl rfl (by decide) rfl (fun ls hl => ?_)
      refine lv_goto (tgt := 2) hx hb dX11_bringsLeft_27 (by decide) ?_
      obtain rfl := Option.some.inj hf
      exact Kl1 _ rfl _ _ _ hW (lv_sub hl [1, 0] rfl)
  exact L2 μ (0 : Int32) _ _ _ hf hW (lv_sub hl [1, 0] rfl)
set_option maxHeartbeats 4000000 in
set_option maxRecDepth 100000 in
theorem c_X11_muddy {l : Launch} {D : va_G} {tc : Nat → ClassId} {ro : Ro} {ad : Nat → Nat} {μ : Mm} {v1 : Int32} {res : Int32 × Mm} (hf : f_X11_muddy μ v1 = some res) : Ct l D tc ro (faM ad) (feM tc ad) yX11_muddy cX11_muddy 5 (some .int) (rmq 6 135) [.ref (ad 0), .int v1] μ (some (.int res.1)) res.2 := by
  refine Ct.of (by decide) (Nat.le_of_ble_eq_true rfl) (fun p e s m args below meth c A C hr hk hW ls hl => ?_)
  have hx := C.1.1
  have hb := C.1.2.1
  obtain ⟨Q, hQ⟩ : ∃ Q, Q = MQ below (Ctq D (faM ad) (feM tc ad) (some (.int res.1)) res.2 A) args s 0 0 A := ⟨_, rfl⟩
  rw [← hQ]
  have hl : lv_has ls 5 [(0, .ref (ad 0)), (1, .int v1)] := hl
  unfold f_X11_muddy at hf
  have J24 : ∀ (μ : Mm) (s0 : Int32) (H : Heap) (locs : List Loc) (ls : Array Slot), f_X11_muddy_J24 μ v1 s0 = some res → Wd D (faM ad) (feM tc ad) A s.heap μ H locs → lv_has ls 5 [(0, .ref (ad 0)), (1, .int v1)] → W p l e (rmq 6 135) s m args below meth c H locs 0 0 Q (F0 m 24 ls [.int s0, .ref (ad 0)]) := by
    intro μ s0 H locs ls hf hW hl
    unfold f_X11_muddy_J24 at hf
    refine lv_iconst (v := 1) hx hb dX11_muddy_24 (by decide) ?_
    obtain ⟨x25, h25, hf⟩ := bd_of hf
    refine r_callV (k := ((0, 0) : Ky)) C hW hl lk_X11_322 (c_X11_throwsIf h25) ⟨rfl, rfl⟩ ⟨Nat.le_of_ble_eq_true rfl, Nat.le_of_ble_eq_true rfl⟩ rfl rfl rfl (As := [.int s0, .int (1 : Int32)]) (rest := []) rfl rfl (Nat.le_of_ble_eq_true rfl) dX11_muddy_25 ⟨Nat.zero_le _, Nat.zero_le _⟩ (fun H locs hW => ?_)
    show W p l e (rmq 6 135) s m args below meth c H locs 0 0 Q (F0 m 28 ls [.int x25.1])
    refine lv_if_eq (tgt := 33) hx hb dX11_muddy_28 (by decide) (fun c2 => ?_) (fun c2 => ?_)
    · have hf := (if_pos c2).symm.trans hf
      refine lv_aload_n hx hb dX11_muddy_33 rfl (lv_at hl 0 rfl) ?_
      obtain ⟨x34, h34, hf⟩ := bd_of hf
      refine r_callV (k := ((0, 0) : Ky)) C hW hl lk_X11_412 (c_X11_keepsLeft h34) ⟨rfl, rfl⟩ ⟨Nat.le_of_ble_eq_true rfl, Nat.le_of_ble_eq_true rfl⟩ rfl rfl rfl (As := []) (rest := []) rfl rfl (Nat.le_of_ble_eq_true rfl) dX11_muddy_34 ⟨Nat.zero_le _, Nat.zero_le _⟩ (fun H locs hW => ?_)
      show W p l e (rmq 6 135) s m args below meth c H locs 0 0 Q (F0 m 37 ls [])
      refine lv_iconst (v := -1) hx hb dX11_muddy_37 (by decide) ?_
      refine lv_istore_n (lv' := [(2, .int (-1 : Int32)), (0, .ref (ad 0)), (1, .int v1)]) hx hb dX11_muddy_38 rfl hl (by decide) rfl (fun ls hl => ?_)
      refine lv_iconst (v := 0) hx hb dX11_muddy_39 (by decide) ?_
      refine lv_istore_n (lv' := [(3, .int (0 : Int32)), (2, .int (-1 : Int32)), (0, .ref (ad 0)), (1, .int v1)]) hx hb dX11_muddy_40 rfl hl (by decide) rfl (fun ls hl => ?_)
      have L41 : ∀ (μ : Mm) (v2 v3 : Int32) (H : Heap) (locs : List Loc) (ls : Array Slot), Wh (fun z : Mm × Int32 × Int32 => f_X11_muddy_L41 v1 z.1 z.2.1 z.2.2) (μ, v2, v3) = some res → Wd D (faM ad) (feM tc ad) A s.heap μ H locs → lv_has ls 5 [(0, .ref (ad 0)), (1, .int v1), (2, .int v2), (3, .int v3)] → W p l e (rmq 6 135) s m args below meth c H locs 0 0 Q (F0 m 41 ls []) := by
        intro μ v2 v3 H locs ls hf hW hl
        refine Wh_rule hf (fun z : Mm × Int32 × Int32 => ∀ (H : Heap) (locs : List Loc) (ls : Array Slot), Wd D (faM ad) (feM tc ad) A s.heap z.1 H locs → lv_has ls 5 [(0, .ref (ad 0)), (1, .int v1), (2, .int z.2.1), (3, .int z.2.2)] → W p l e (rmq 6 135) s m args below meth c H locs 0 0 Q (F0 m 41 ls [])) (fun z o1 hf Kl1 Kr1 => ?_) _ _ _ hW hl
        obtain ⟨μ, v2, v3⟩ := z
        intro H locs ls hW hl
        have hf : f_X11_muddy_L41 v1 μ v2 v3 = some o1 := hf
        unfold f_X11_muddy_L41 at hf
        have hW : Wd D (faM ad) (feM tc ad) A s.heap μ H locs := hW
        have hl : lv_has ls 5 [(0, .ref (ad 0)), (1, .int v1), (2, .int v2), (3, .int v3)] := hl
        refine lv_iload_n hx hb dX11_muddy_41 rfl (lv_at hl 3 rfl) ?_
        refine lv_bipush (v := 40) hx hb dX11_muddy_42 (by decide) ?_
        refine lv_icmp_gt (tgt := 100) hx hb dX11_muddy_44 (by decide) (fun c4 => ?_) (fun c4 => ?_)
        · have hf := (if_pos c4).symm.trans hf
          obtain ⟨x9006, hf, hx9006⟩ := map_of hf
          have e9006 := (Kr1 _ hx9006.symm).symm
          subst e9006
          refine lv_aload_n hx hb dX11_muddy_100 rfl (lv_at hl 0 rfl) ?_
          obtain ⟨x101, h101, hf⟩ := bd_of hf
          refine r_callV (k := ((0, 0) : Ky)) C hW hl lk_X11_415 (c_X11_bringsLeft h101) ⟨rfl, rfl⟩ ⟨Nat.le_of_ble_eq_true rfl, Nat.le_of_ble_eq_true rfl⟩ rfl rfl rfl (As := []) (rest := []) rfl rfl (Nat.le_of_ble_eq_true rfl) dX11_muddy_101 ⟨Nat.zero_le _, Nat.zero_le _⟩ (fun H locs hW => ?_)
          show W p l e (rmq 6 135) s m args below meth c H locs 0 0 Q (F0 m 104 ls [])
          refine lv_iload_n hx hb dX11_muddy_104 rfl (lv_at hl 2 rfl) ?_
          obtain rfl := Option.some.inj hf
          rw [hQ]
          exact r_iret C hr hk hW rfl rfl dX11_muddy_105
        · have hf := (if_neg c4).symm.trans hf
          refine lv_iload_n hx hb dX11_muddy_47 rfl (lv_at hl 2 rfl) ?_
          refine lv_if_ge (tgt := 100) hx hb dX11_muddy_48 (by decide) (fun c7 => ?_) (fun c7 => ?_)
          · have hf := (if_pos c7).symm.trans hf
            obtain ⟨x9009, hf, hx9009⟩ := map_of hf
            have e9009 := (Kr1 _ hx9009.symm).symm
            subst e9009
            refine lv_aload_n hx hb dX11_muddy_100 rfl (lv_at hl 0 rfl) ?_
            obtain ⟨x101, h101, hf⟩ := bd_of hf
            refine r_callV (k := ((0, 0) : Ky)) C hW hl lk_X11_415 (c_X11_bringsLeft h101) ⟨rfl, rfl⟩ ⟨Nat.le_of_ble_eq_true rfl, Nat.le_of_ble_eq_true rfl⟩ rfl rfl rfl (As := []) (rest := []) rfl rfl (Nat.le_of_ble_eq_true rfl) dX11_muddy_101 ⟨Nat.zero_le _, Nat.zero_le _⟩ (fun H locs hW => ?_)
            show W p l e (rmq 6 135) s m args below meth c H locs 0 0 Q (F0 m 104 ls [])
            refine lv_iload_n hx hb dX11_muddy_104 rfl (lv_at hl 2 rfl) ?_
            obtain rfl := Option.some.inj hf
            rw [hQ]
            exact r_iret C hr hk hW rfl rfl dX11_muddy_105
          · have hf := (if_neg c7).symm.trans hf
            refine lv_aload_n hx hb dX11_muddy_51 rfl (lv_at hl 0 rfl) ?_
            refine lv_aload_n hx hb dX11_muddy_52 rfl (lv_at hl 0 rfl) ?_
            obtain ⟨x53, h53, hf⟩ := bd_of hf
            refine r_callV (k := ((0, 0) : Ky)) C hW hl lk_X11_121 (c_X11_here h53) ⟨rfl, rfl⟩ ⟨Nat.le_of_ble_eq_true rfl, Nat.le_of_ble_eq_true rfl⟩ rfl rfl rfl (As := []) (rest := [.ref (ad 0)]) rfl rfl (Nat.le_of_ble_eq_true rfl) dX11_muddy_53 ⟨Nat.zero_le _, Nat.zero_le _⟩ (fun H locs hW => ?_)
            show W p l e (rmq 6 135) s m args below meth c H locs 0 0 Q (F0 m 56 ls [.int x53, .ref (ad 0)])
            obtain ⟨x56, h56, hf⟩ := bd_of hf
            refine r_callV (k := ((0, 0) : Ky)) C hW hl lk_X11_340 (c_X11_sureOnes h56) ⟨rfl, rfl⟩ ⟨Nat.le_of_ble_eq_true rfl, Nat.le_of_ble_eq_true rfl⟩ rfl rfl rfl (As := [.int x53]) (rest := []) rfl rfl (Nat.le_of_ble_eq_true rfl) dX11_muddy_56 ⟨Nat.zero_le _, Nat.zero_le _⟩ (fun H locs hW => ?_)
            show W p l e (rmq 6 135) s m args below meth c H locs 0 0 Q (F0 m 59 ls [.int x56.1])
            refine lv_istore (lv' := [(4, .int x56.1), (0, .ref (ad 0)), (1, .int v1), (2, .int v2), (3, .int v3)]) hx hb dX11_muddy_59 hl (by decide) rfl (fun ls hl => ?_)
            refine lv_iload_n hx hb dX11_muddy_61 rfl (lv_at hl 2 rfl) ?_
            refine lv_iconst (v := -1) hx hb dX11_muddy_62 (by decide) ?_
            refine lv_icmp_ne (tgt := 74) hx hb dX11_muddy_63 (by decide) (fun c12 => ?_) (fun c12 => ?_)
            · have hf := (if_neg c12).symm.trans hf
              refine lv_iload hx hb dX11_muddy_74 (lv_at hl 0 rfl) ?_
              refine lv_iload_n hx hb dX11_muddy_76 rfl (lv_at hl 2 rfl) ?_
              obtain ⟨x77, h77, hf⟩ := bd_of hf
              refine r_callS C hW hl lk_X11_103 (c_X11_has h77) ⟨rfl, rfl⟩ ⟨Nat.le_of_ble_eq_true rfl, Nat.le_of_ble_eq_true rfl⟩ (As := [.int x56.1, .int v1]) (rest := []) rfl rfl (Nat.le_of_ble_eq_true rfl) dX11_muddy_77 ⟨Nat.zero_le _, Nat.zero_le _⟩ (fun H locs hW => ?_)
              show W p l e (rmq 6 135) s m args below meth c H locs 0 0 Q (F0 m 80 ls [.int x77])
              refine lv_if_eq (tgt := 87) hx hb dX11_muddy_80 (by decide) (fun c14 => ?_) (fun c14 => ?_)
              · have hf := (if_pos c14).symm.trans hf
                refine lv_iconst (v := -1) hx hb dX11_muddy_87 (by decide) ?_
                refine lv_istore_n (lv' := [(2, .int (-1 : Int32)), (4, .int x56.1), (0, .ref (ad 0)), (1, .int v1), (3, .int v3)]) hx hb dX11_muddy_88 rfl hl (by decide) rfl (fun ls hl => ?_)
                refine lv_aload_n hx hb dX11_muddy_89 rfl (lv_at hl 2 rfl) ?_
                obtain ⟨x90, h90, hf⟩ := bd_of hf
                refine r_callV (k := ((0, 0) : Ky)) C hW hl lk_X11_372 (c_X11_says h90) ⟨rfl, rfl⟩ ⟨Nat.le_of_ble_eq_true rfl, Nat.le_of_ble_eq_true rfl⟩ rfl rfl rfl (As := []) (rest := []) rfl rfl (Nat.le_of_ble_eq_true rfl) dX11_muddy_90 ⟨Nat.zero_le _, Nat.zero_le _⟩ (fun H locs hW => ?_)
                show W p l e (rmq 6 135) s m args below meth c H locs 0 0 Q (F0 m 93 ls [.int x90.1])
                refine lv_pop hx hb dX11_muddy_93 rfl ?_
                refine lv_iinc (v := (v3 + (1 : Int32))) (lv' := [(3, .int (v3 + (1 : Int32))), (2, .int (-1 : Int32)), (4, .int x56.1), (0, .ref (ad 0)), (1, .int v1)]) hx hb dX11_muddy_94 hl (k := 4) rfl rfl (by decide) rfl (fun ls hl => ?_)
                refine lv_goto (tgt := 41) hx hb dX11_muddy_97 (by decide) ?_
                obtain rfl := Option.some.inj hf
                exact Kl1 _ rfl _ _ _ hW (lv_sub hl [3, 4, 1, 0] rfl)
              · have hf := (if_neg c14).symm.trans hf
                refine lv_iload_n hx hb dX11_muddy_83 rfl (lv_at hl 4 rfl) ?_
                refine lv_goto (tgt := 88) hx hb dX11_muddy_84 (by decide) ?_
                refine lv_istore_n (lv' := [(2, .int v3), (4, .int x56.1), (0, .ref (ad 0)), (1, .int v1), (3, .int v3)]) hx hb dX11_muddy_88 rfl hl (by decide) rfl (fun ls hl => ?_)
                refine lv_aload_n hx hb dX11_muddy_89 rfl (lv_at hl 2 rfl) ?_
                obtain ⟨x90, h90, hf⟩ := bd_of hf
                refine r_callV (k := ((0, 0) : Ky)) C hW hl lk_X11_372 (c_X11_says h90) ⟨rfl, rfl⟩ ⟨Nat.le_of_ble_eq_true rfl, Nat.le_of_ble_eq_true rfl⟩ rfl rfl rfl (As := []) (rest := []) rfl rfl (Nat.le_of_ble_eq_true rfl) dX11_muddy_90 ⟨Nat.zero_le _, Nat.zero_le _⟩ (fun H locs hW => ?_)
                show W p l e (rmq 6 135) s m args below meth c H locs 0 0 Q (F0 m 93 ls [.int x90.1])
                refine lv_pop hx hb dX11_muddy_93 rfl ?_
                refine lv_iinc (v := (v3 + (1 : Int32))) (lv' := [(3, .int (v3 + (1 : Int32))), (2, .int v3), (4, .int x56.1), (0, .ref (ad 0)), (1, .int v1)]) hx hb dX11_muddy_94 hl (k := 4) rfl rfl (by decide) rfl (fun ls hl => ?_)
                refine lv_goto (tgt := 41) hx hb dX11_muddy_97 (by decide) ?_
                obtain rfl := Option.some.inj hf
                exact Kl1 _ rfl _ _ _ hW (lv_sub hl [3, 4, 1, 0] rfl)
            · have hf := (if_pos c12).symm.trans hf
              refine lv_iload hx hb dX11_muddy_66 (lv_at hl 0 rfl) ?_
              refine lv_if_eq (tgt := 87) hx hb dX11_muddy_68 (by decide) (fun c17 => ?_) (fun c17 => ?_)
              · have hf := (if_pos c17).symm.trans hf
                refine lv_iconst (v := -1) hx hb dX11_muddy_87 (by decide) ?_
                refine lv_istore_n (lv' := [(2, .int (-1 : Int32)), (4, .int x56.1), (0, .ref (ad 0)), (1, .int v1), (3, .int v3)]) hx hb dX11_muddy_88 rfl hl (by decide) rfl (fun ls hl => ?_)
                refine lv_aload_n hx hb dX11_muddy_89 rfl (lv_at hl 2 rfl) ?_
                obtain ⟨x90, h90, hf⟩ := bd_of hf
                refine r_callV (k := ((0, 0) : Ky)) C hW hl lk_X11_372 (c_X11_says h90) ⟨rfl, rfl⟩ ⟨Nat.le_of_ble_eq_true rfl, Nat.le_of_ble_eq_true rfl⟩ rfl rfl rfl (As := []) (rest := []) rfl rfl (Nat.le_of_ble_eq_true rfl) dX11_muddy_90 ⟨Nat.zero_le _, Nat.zero_le _⟩ (fun H locs hW => ?_)
                show W p l e (rmq 6 135) s m args below meth c H locs 0 0 Q (F0 m 93 ls [.int x90.1])
                refine lv_pop hx hb dX11_muddy_93 rfl ?_
                refine lv_iinc (v := (v3 + (1 : Int32))) (lv' := [(3, .int (v3 + (1 : Int32))), (2, .int (-1 : Int32)), (4, .int x56.1), (0, .ref (ad 0)), (1, .int v1)]) hx hb dX11_muddy_94 hl (k := 4) rfl rfl (by decide) rfl (fun ls hl => ?_)
                refine lv_goto (tgt := 41) hx hb dX11_muddy_97 (by decide) ?_
                obtain rfl := Option.some.inj hf
                exact Kl1 _ rfl _ _ _ hW (lv_sub hl [3, 4, 1, 0] rfl)
              · have hf := (if_neg c17).symm.trans hf
                refine lv_goto (tgt := 83) hx hb dX11_muddy_71 (by decide) ?_
                refine lv_iload_n hx hb dX11_muddy_83 rfl (lv_at hl 4 rfl) ?_
                refine lv_goto (tgt := 88) hx hb dX11_muddy_84 (by decide) ?_
                refine lv_istore_n (lv' := [(2, .int v3), (4, .int x56.1), (0, .ref (ad 0)), (1, .int v1), (3, .int v3)]) hx hb dX11_muddy_88 rfl hl (by decide) rfl (fun ls hl => ?_)
                refine lv_aload_n hx hb dX11_muddy_89 rfl (lv_at hl 2 rfl) ?_
                obtain ⟨x90, h90, hf⟩ := bd_of hf
                refine r_callV (k := ((0, 0) : Ky)) C hW hl lk_X11_372 (c_X11_says h90) ⟨rfl, rfl⟩ ⟨Nat.le_of_ble_eq_true rfl, Nat.le_of_ble_eq_true rfl⟩ rfl rfl rfl (As := []) (rest := []) rfl rfl (Nat.le_of_ble_eq_true rfl) dX11_muddy_90 ⟨Nat.zero_le _, Nat.zero_le _⟩ (fun H locs hW => ?_)
                show W p l e (rmq 6 135) s m args below meth c H locs 0 0 Q (F0 m 93 ls [.int x90.1])
                refine lv_pop hx hb dX11_muddy_93 rfl ?_
                refine lv_iinc (v := (v3 + (1 : Int32))) (lv' := [(3, .int (v3 + (1 : Int32))), (2, .int v3), (4, .int x56.1), (0, .ref (ad 0)), (1, .int v1)]) hx hb dX11_muddy_94 hl (k := 4) rfl rfl (by decide) rfl (fun ls hl => ?_)
                refine lv_goto (tgt := 41) hx hb dX11_muddy_97 (by decide) ?_
                obtain rfl := Option.some.inj hf
                exact Kl1 _ rfl _ _ _ hW (lv_sub hl [3, 4, 1, 0] rfl)
      exact L41 x34 (-1 : Int32) (0 : Int32) _ _ _ hf hW (lv_sub hl [2, 3, 1, 0] rfl)
    · have hf := (if_neg c2).symm.trans hf
      refine lv_iconst (v := 0) hx hb dX11_muddy_31 (by decide) ?_
      obtain rfl := Option.some.inj hf
      rw [hQ]
      exact r_iret C hr hk hW rfl rfl dX11_muddy_32
  refine lv_aload_n hx hb dX11_muddy_0 rfl (lv_at hl 0 rfl) ?_
  refine lv_iconst (v := 0) hx hb dX11_muddy_1 (by decide) ?_
  refine pf_X11_3 C hW dX11_muddy_2 (fun H locs hW => ?_)
  refine lv_aload_n hx hb dX11_muddy_5 rfl (lv_at hl 0 rfl) ?_
  refine lv_iload_n hx hb dX11_muddy_6 rfl (lv_at hl 1 rfl) ?_
  refine lv_iconst (v := -1) hx hb dX11_muddy_7 (by decide) ?_
  refine lv_icmp_eq (tgt := 23) hx hb dX11_muddy_8 (by decide) (fun c20 => ?_) (fun c20 => ?_)
  · have hf := (if_pos c20).symm.trans hf
    refine lv_iconst (v := 0) hx hb dX11_muddy_23 (by decide) ?_
    exact J24 (mst μ (0, 0) 0 (0 : Int32)) (0 : Int32) _ _ _ hf hW (lv_sub hl [0, 1] rfl)
  · have hf := (if_neg c20).symm.trans hf
    refine lv_aload_n hx hb dX11_muddy_11 rfl (lv_at hl 0 rfl) ?_
    refine lv_iload_n hx hb dX11_muddy_12 rfl (lv_at hl 1 rfl) ?_
    obtain ⟨x13, h13, hf⟩ := bd_of hf
    refine r_callV (k := ((0, 0) : Ky)) C hW hl lk_X11_359 (c_X11_noPerson h13) ⟨rfl, rfl⟩ ⟨Nat.le_of_ble_eq_true rfl, Nat.le_of_ble_eq_true rfl⟩ rfl rfl rfl (As := [.int v1]) (rest := [.ref (ad 0)]) rfl rfl (Nat.le_of_ble_eq_true rfl) dX11_muddy_13 ⟨Nat.zero_le _, Nat.zero_le _⟩ (fun H locs hW => ?_)
    show W p l e (rmq 6 135) s m args below meth c H locs 0 0 Q (F0 m 16 ls [.int x13, .ref (ad 0)])
    refine lv_if_eq (tgt := 23) hx hb dX11_muddy_16 (by decide) (fun c22 => ?_) (fun c22 => ?_)
    · have hf := (if_pos c22).symm.trans hf
      refine lv_iconst (v := 0) hx hb dX11_muddy_23 (by decide) ?_
      exact J24 (mst μ (0, 0) 0 (0 : Int32)) (0 : Int32) _ _ _ hf hW (lv_sub hl [0, 1] rfl)
    · have hf := (if_neg c22).symm.trans hf
      refine lv_iconst (v := 1) hx hb dX11_muddy_19 (by decide) ?_
      refine lv_goto (tgt := 24) hx hb dX11_muddy_20 (by decide) ?_
      exact J24 (mst μ (0, 0) 0 (0 : Int32)) (1 : Int32) _ _ _ hf hW (lv_sub hl [0, 1] rfl)
set_option maxHeartbeats 4000000 in
set_option maxRecDepth 100000 in
theorem c_X11_readsAll {l : Launch} {D : va_G} {tc : Nat → ClassId} {ro : Ro} {ad : Nat → Nat} {μ : Mm} {v1 : Int32} {res : Mm} (hf : f_X11_readsAll μ v1 = some res) : Ct l D tc ro (faM ad) (feM tc ad) yX11_readsAll cX11_readsAll 3 none (rmq 4 87) [.ref (ad 0), .int v1] μ none res := by
  refine Ct.of (by decide) (Nat.le_of_ble_eq_true rfl) (fun p e s m args below meth c A C hr hk hW ls hl => ?_)
  have hx := C.1.1
  have hb := C.1.2.1
  obtain ⟨Q, hQ⟩ : ∃ Q, Q = MQ below (Ctq D (faM ad) (feM tc ad) none res A) args s 0 0 A := ⟨_, rfl⟩
  rw [← hQ]
  have hl : lv_has ls 3 [(0, .ref (ad 0)), (1, .int v1)] := hl
  unfold f_X11_readsAll at hf
  refine lv_iconst (v := 0) hx hb dX11_readsAll_0 (by decide) ?_
  refine lv_istore_n (lv' := [(2, .int (0 : Int32)), (0, .ref (ad 0)), (1, .int v1)]) hx hb dX11_readsAll_1 rfl hl (by decide) rfl (fun ls hl => ?_)
  have L2 : ∀ (μ : Mm) (v2 : Int32) (H : Heap) (locs : List Loc) (ls : Array Slot), Wh (fun z : Mm × Int32 => f_X11_readsAll_L2 v1 z.1 z.2) (μ, v2) = some res → Wd D (faM ad) (feM tc ad) A s.heap μ H locs → lv_has ls 3 [(0, .ref (ad 0)), (1, .int v1), (2, .int v2)] → W p l e (rmq 4 87) s m args below meth c H locs 0 0 Q (F0 m 2 ls []) := by
    intro μ v2 H locs ls hf hW hl
    refine Wh_rule hf (fun z : Mm × Int32 => ∀ (H : Heap) (locs : List Loc) (ls : Array Slot), Wd D (faM ad) (feM tc ad) A s.heap z.1 H locs → lv_has ls 3 [(0, .ref (ad 0)), (1, .int v1), (2, .int z.2)] → W p l e (rmq 4 87) s m args below meth c H locs 0 0 Q (F0 m 2 ls [])) (fun z o1 hf Kl1 Kr1 => ?_) _ _ _ hW hl
    obtain ⟨μ, v2⟩ := z
    intro H locs ls hW hl
    have hf : f_X11_readsAll_L2 v1 μ v2 = some o1 := hf
    unfold f_X11_readsAll_L2 at hf
    have hW : Wd D (faM ad) (feM tc ad) A s.heap μ H locs := hW
    have hl : lv_has ls 3 [(0, .ref (ad 0)), (1, .int v1), (2, .int v2)] := hl
    refine lv_iload_n hx hb dX11_readsAll_2 rfl (lv_at hl 2 rfl) ?_
    refine lv_aload_n hx hb dX11_readsAll_3 rfl (lv_at hl 0 rfl) ?_
    obtain ⟨x4, h4, hf⟩ := bd_of hf
    refine r_callV (k := ((0, 0) : Ky)) C hW hl lk_X11_107 (c_X11_people h4) ⟨rfl, rfl⟩ ⟨Nat.le_of_ble_eq_true rfl, Nat.le_of_ble_eq_true rfl⟩ rfl rfl rfl (As := []) (rest := [.int v2]) rfl rfl (Nat.le_of_ble_eq_true rfl) dX11_readsAll_4 ⟨Nat.zero_le _, Nat.zero_le _⟩ (fun H locs hW => ?_)
    show W p l e (rmq 4 87) s m args below meth c H locs 0 0 Q (F0 m 7 ls [.int x4, .int v2])
    refine lv_icmp_ge (tgt := 29) hx hb dX11_readsAll_7 (by decide) (fun c2 => ?_) (fun c2 => ?_)
    · have hf := (if_pos c2).symm.trans hf
      obtain ⟨x9003, hf, hx9003⟩ := map_of hf
      have e9003 := (Kr1 _ hx9003.symm).symm
      subst e9003
      obtain rfl := Option.some.inj hf
      rw [hQ]
      exact r_vret C hr hk hW rfl rfl dX11_readsAll_29
    · have hf := (if_neg c2).symm.trans hf
      refine lv_iload_n hx hb dX11_readsAll_10 rfl (lv_at hl 1 rfl) ?_
      refine lv_iload_n hx hb dX11_readsAll_11 rfl (lv_at hl 2 rfl) ?_
      obtain ⟨x12, h12, hf⟩ := bd_of hf
      refine r_callS C hW hl lk_X11_103 (c_X11_has h12) ⟨rfl, rfl⟩ ⟨Nat.le_of_ble_eq_true rfl, Nat.le_of_ble_eq_true rfl⟩ (As := [.int v1, .int v2]) (rest := []) rfl rfl (Nat.le_of_ble_eq_true rfl) dX11_readsAll_12 ⟨Nat.zero_le _, Nat.zero_le _⟩ (fun H locs hW => ?_)
      show W p l e (rmq 4 87) s m args below meth c H locs 0 0 Q (F0 m 15 ls [.int x12])
      refine lv_if_eq (tgt := 23) hx hb dX11_readsAll_15 (by decide) (fun c5 => ?_) (fun c5 => ?_)
      · have hf := (if_pos c5).symm.trans hf
        refine lv_iinc (v := (v2 + (1 : Int32))) (lv' := [(2, .int (v2 + (1 : Int32))), (0, .ref (ad 0)), (1, .int v1)]) hx hb dX11_readsAll_23 hl (k := 2) rfl rfl (by decide) rfl (fun ls hl => ?_)
        refine lv_goto (tgt := 2) hx hb dX11_readsAll_26 (by decide) ?_
        obtain rfl := Option.some.inj hf
        exact Kl1 _ rfl _ _ _ hW (lv_sub hl [1, 2, 0] rfl)
      · have hf := (if_neg c5).symm.trans hf
        refine lv_aload_n hx hb dX11_readsAll_18 rfl (lv_at hl 0 rfl) ?_
        refine lv_iload_n hx hb dX11_readsAll_19 rfl (lv_at hl 2 rfl) ?_
        obtain ⟨x20, h20, hf⟩ := bd_of hf
        refine r_callV (k := ((0, 0) : Ky)) C hW hl lk_X11_375 (c_X11_readsOut h20) ⟨rfl, rfl⟩ ⟨Nat.le_of_ble_eq_true rfl, Nat.le_of_ble_eq_true rfl⟩ rfl rfl rfl (As := [.int v2]) (rest := []) rfl rfl (Nat.le_of_ble_eq_true rfl) dX11_readsAll_20 ⟨Nat.zero_le _, Nat.zero_le _⟩ (fun H locs hW => ?_)
        show W p l e (rmq 4 87) s m args below meth c H locs 0 0 Q (F0 m 23 ls [])
        refine lv_iinc (v := (v2 + (1 : Int32))) (lv' := [(2, .int (v2 + (1 : Int32))), (0, .ref (ad 0)), (1, .int v1)]) hx hb dX11_readsAll_23 hl (k := 2) rfl rfl (by decide) rfl (fun ls hl => ?_)
        refine lv_goto (tgt := 2) hx hb dX11_readsAll_26 (by decide) ?_
        obtain rfl := Option.some.inj hf
        exact Kl1 _ rfl _ _ _ hW (lv_sub hl [1, 2, 0] rfl)
  exact L2 μ (0 : Int32) _ _ _ hf hW (lv_sub hl [1, 2, 0] rfl)
set_option maxHeartbeats 4000000 in
set_option maxRecDepth 100000 in
theorem c_J6_bitCount_0f7a4 {l : Launch} {D : va_G} {tc : Nat → ClassId} {ro : Ro} {fa : Fa} {fe : Fe} {μ : Mm} {v0 : Int32} {res : Int32} (hf : f_J6_bitCount_0f7a4 v0 = some res) : Ct l D tc ro fa fe yJ6_bitCount_0f7a4 cJ6_bitCount_0f7a4 1 (some .int) (rmq 0 0) [.int v0] μ (some (.int res)) μ := by
  refine Ct.of (by decide) (Nat.le_of_ble_eq_true rfl) (fun p e s m args below meth c A C hr hk hW ls hl => ?_)
  have hx := C.1.1
  have hb := C.1.2.1
  obtain ⟨Q, hQ⟩ : ∃ Q, Q = MQ below (Ctq D fa fe (some (.int res)) μ A) args s 0 0 A := ⟨_, rfl⟩
  rw [← hQ]
  have hl : lv_has ls 1 [(0, .int v0)] := hl
  unfold f_J6_bitCount_0f7a4 at hf
  refine lv_iload_n hx hb dJ6_bitCount_0f7a4_0 rfl (lv_at hl 0 rfl) ?_
  refine lv_iload_n hx hb dJ6_bitCount_0f7a4_1 rfl (lv_at hl 0 rfl) ?_
  refine lv_iconst (v := 1) hx hb dJ6_bitCount_0f7a4_2 (by decide) ?_
  refine lv_iushr hx hb dJ6_bitCount_0f7a4_3 rfl ?_
  refine lv_ldcw (v := 1431655765) hx hb C.1.2.2.2.1 (C.1.2.2.2.2 _ kw_960) dJ6_bitCount_0f7a4_4 ?_
  refine lv_iand hx hb dJ6_bitCount_0f7a4_7 ?_
  refine lv_isub hx hb dJ6_bitCount_0f7a4_8 ?_
  refine lv_istore_n (lv' := [(0, .int (v0 - ((v0.toUInt32 >>> ((1 : Int32).toUInt32 &&& Int32.toUInt32 31)).toInt32 &&& (1431655765 : Int32))))]) hx hb dJ6_bitCount_0f7a4_9 rfl hl (by decide) rfl (fun ls hl => ?_)
  refine lv_iload_n hx hb dJ6_bitCount_0f7a4_10 rfl (lv_at hl 0 rfl) ?_
  refine lv_ldcw (v := 858993459) hx hb C.1.2.2.2.1 (C.1.2.2.2.2 _ kw_961) dJ6_bitCount_0f7a4_11 ?_
  refine lv_iand hx hb dJ6_bitCount_0f7a4_14 ?_
  refine lv_iload_n hx hb dJ6_bitCount_0f7a4_15 rfl (lv_at hl 0 rfl) ?_
  refine lv_iconst (v := 2) hx hb dJ6_bitCount_0f7a4_16 (by decide) ?_
  refine lv_iushr hx hb dJ6_bitCount_0f7a4_17 rfl ?_
  refine lv_ldcw (v := 858993459) hx hb C.1.2.2.2.1 (C.1.2.2.2.2 _ kw_961) dJ6_bitCount_0f7a4_18 ?_
  refine lv_iand hx hb dJ6_bitCount_0f7a4_21 ?_
  refine lv_iadd hx hb dJ6_bitCount_0f7a4_22 ?_
  refine lv_istore_n (lv' := [(0, .int (((v0 - ((v0.toUInt32 >>> ((1 : Int32).toUInt32 &&& Int32.toUInt32 31)).toInt32 &&& (1431655765 : Int32))) &&& (858993459 : Int32)) + (((v0 - ((v0.toUInt32 >>> ((1 : Int32).toUInt32 &&& Int32.toUInt32 31)).toInt32 &&& (1431655765 : Int32))).toUInt32 >>> ((2 : Int32).toUInt32 &&& Int32.toUInt32 31)).toInt32 &&& (858993459 : Int32))))]) hx hb dJ6_bitCount_0f7a4_23 rfl hl (by decide) rfl (fun ls hl => ?_)
  refine lv_iload_n hx hb dJ6_bitCount_0f7a4_24 rfl (lv_at hl 0 rfl) ?_
  refine lv_iload_n hx hb dJ6_bitCount_0f7a4_25 rfl (lv_at hl 0 rfl) ?_
  refine lv_iconst (v := 4) hx hb dJ6_bitCount_0f7a4_26 (by decide) ?_
  refine lv_iushr hx hb dJ6_bitCount_0f7a4_27 rfl ?_
  refine lv_iadd hx hb dJ6_bitCount_0f7a4_28 ?_
  refine lv_ldcw (v := 252645135) hx hb C.1.2.2.2.1 (C.1.2.2.2.2 _ kw_962) dJ6_bitCount_0f7a4_29 ?_
  refine lv_iand hx hb dJ6_bitCount_0f7a4_32 ?_
  refine lv_istore_n (lv' := [(0, .int (((((v0 - ((v0.toUInt32 >>> ((1 : Int32).toUInt32 &&& Int32.toUInt32 31)).toInt32 &&& (1431655765 : Int32))) &&& (858993459 : Int32)) + (((v0 - ((v0.toUInt32 >>> ((1 : Int32).toUInt32 &&& Int32.toUInt32 31)).toInt32 &&& (1431655765 : Int32))).toUInt32 >>> ((2 : Int32).toUInt32 &&& Int32.toUInt32 31)).toInt32 &&& (858993459 : Int32))) + ((((v0 - ((v0.toUInt32 >>> ((1 : Int32).toUInt32 &&& Int32.toUInt32 31)).toInt32 &&& (1431655765 : Int32))) &&& (858993459 : Int32)) + (((v0 - ((v0.toUInt32 >>> ((1 : Int32).toUInt32 &&& Int32.toUInt32 31)).toInt32 &&& (1431655765 : Int32))).toUInt32 >>> ((2 : Int32).toUInt32 &&& Int32.toUInt32 31)).toInt32 &&& (858993459 : Int32))).toUInt32 >>> ((4 : Int32).toUInt32 &&& Int32.toUInt32 31)).toInt32) &&& (252645135 : Int32)))]) hx hb dJ6_bitCount_0f7a4_33 rfl hl (by decide) rfl (fun ls hl => ?_)
  refine lv_iload_n hx hb dJ6_bitCount_0f7a4_34 rfl (lv_at hl 0 rfl) ?_
  refine lv_iload_n hx hb dJ6_bitCount_0f7a4_35 rfl (lv_at hl 0 rfl) ?_
  refine lv_bipush (v := 8) hx hb dJ6_bitCount_0f7a4_36 (by decide) ?_
  refine lv_iushr hx hb dJ6_bitCount_0f7a4_38 rfl ?_
  refine lv_iadd hx hb dJ6_bitCount_0f7a4_39 ?_
  refine lv_istore_n (lv' := [(0, .int ((((((v0 - ((v0.toUInt32 >>> ((1 : Int32).toUInt32 &&& Int32.toUInt32 31)).toInt32 &&& (1431655765 : Int32))) &&& (858993459 : Int32)) + (((v0 - ((v0.toUInt32 >>> ((1 : Int32).toUInt32 &&& Int32.toUInt32 31)).toInt32 &&& (1431655765 : Int32))).toUInt32 >>> ((2 : Int32).toUInt32 &&& Int32.toUInt32 31)).toInt32 &&& (858993459 : Int32))) + ((((v0 - ((v0.toUInt32 >>> ((1 : Int32).toUInt32 &&& Int32.toUInt32 31)).toInt32 &&& (1431655765 : Int32))) &&& (858993459 : Int32)) + (((v0 - ((v0.toUInt32 >>> ((1 : Int32).toUInt32 &&& Int32.toUInt32 31)).toInt32 &&& (1431655765 : Int32))).toUInt32 >>> ((2 : Int32).toUInt32 &&& Int32.toUInt32 31)).toInt32 &&& (858993459 : Int32))).toUInt32 >>> ((4 : Int32).toUInt32 &&& Int32.toUInt32 31)).toInt32) &&& (252645135 : Int32)) + ((((((v0 - ((v0.toUInt32 >>> ((1 : Int32).toUInt32 &&& Int32.toUInt32 31)).toInt32 &&& (1431655765 : Int32))) &&& (858993459 : Int32)) + (((v0 - ((v0.toUInt32 >>> ((1 : Int32).toUInt32 &&& Int32.toUInt32 31)).toInt32 &&& (1431655765 : Int32))).toUInt32 >>> ((2 : Int32).toUInt32 &&& Int32.toUInt32 31)).toInt32 &&& (858993459 : Int32))) + ((((v0 - ((v0.toUInt32 >>> ((1 : Int32).toUInt32 &&& Int32.toUInt32 31)).toInt32 &&& (1431655765 : Int32))) &&& (858993459 : Int32)) + (((v0 - ((v0.toUInt32 >>> ((1 : Int32).toUInt32 &&& Int32.toUInt32 31)).toInt32 &&& (1431655765 : Int32))).toUInt32 >>> ((2 : Int32).toUInt32 &&& Int32.toUInt32 31)).toInt32 &&& (858993459 : Int32))).toUInt32 >>> ((4 : Int32).toUInt32 &&& Int32.toUInt32 31)).toInt32) &&& (252645135 : Int32)).toUInt32 >>> ((8 : Int32).toUInt32 &&& Int32.toUInt32 31)).toInt32))]) hx hb dJ6_bitCount_0f7a4_40 rfl hl (by decide) rfl (fun ls hl => ?_)
  refine lv_iload_n hx hb dJ6_bitCount_0f7a4_41 rfl (lv_at hl 0 rfl) ?_
  refine lv_iload_n hx hb dJ6_bitCount_0f7a4_42 rfl (lv_at hl 0 rfl) ?_
  refine lv_bipush (v := 16) hx hb dJ6_bitCount_0f7a4_43 (by decide) ?_
  refine lv_iushr hx hb dJ6_bitCount_0f7a4_45 rfl ?_
  refine lv_iadd hx hb dJ6_bitCount_0f7a4_46 ?_
  refine lv_istore_n (lv' := [(0, .int (((((((v0 - ((v0.toUInt32 >>> ((1 : Int32).toUInt32 &&& Int32.toUInt32 31)).toInt32 &&& (1431655765 : Int32))) &&& (858993459 : Int32)) + (((v0 - ((v0.toUInt32 >>> ((1 : Int32).toUInt32 &&& Int32.toUInt32 31)).toInt32 &&& (1431655765 : Int32))).toUInt32 >>> ((2 : Int32).toUInt32 &&& Int32.toUInt32 31)).toInt32 &&& (858993459 : Int32))) + ((((v0 - ((v0.toUInt32 >>> ((1 : Int32).toUInt32 &&& Int32.toUInt32 31)).toInt32 &&& (1431655765 : Int32))) &&& (858993459 : Int32)) + (((v0 - ((v0.toUInt32 >>> ((1 : Int32).toUInt32 &&& Int32.toUInt32 31)).toInt32 &&& (1431655765 : Int32))).toUInt32 >>> ((2 : Int32).toUInt32 &&& Int32.toUInt32 31)).toInt32 &&& (858993459 : Int32))).toUInt32 >>> ((4 : Int32).toUInt32 &&& Int32.toUInt32 31)).toInt32) &&& (252645135 : Int32)) + ((((((v0 - ((v0.toUInt32 >>> ((1 : Int32).toUInt32 &&& Int32.toUInt32 31)).toInt32 &&& (1431655765 : Int32))) &&& (858993459 : Int32)) + (((v0 - ((v0.toUInt32 >>> ((1 : Int32).toUInt32 &&& Int32.toUInt32 31)).toInt32 &&& (1431655765 : Int32))).toUInt32 >>> ((2 : Int32).toUInt32 &&& Int32.toUInt32 31)).toInt32 &&& (858993459 : Int32))) + ((((v0 - ((v0.toUInt32 >>> ((1 : Int32).toUInt32 &&& Int32.toUInt32 31)).toInt32 &&& (1431655765 : Int32))) &&& (858993459 : Int32)) + (((v0 - ((v0.toUInt32 >>> ((1 : Int32).toUInt32 &&& Int32.toUInt32 31)).toInt32 &&& (1431655765 : Int32))).toUInt32 >>> ((2 : Int32).toUInt32 &&& Int32.toUInt32 31)).toInt32 &&& (858993459 : Int32))).toUInt32 >>> ((4 : Int32).toUInt32 &&& Int32.toUInt32 31)).toInt32) &&& (252645135 : Int32)).toUInt32 >>> ((8 : Int32).toUInt32 &&& Int32.toUInt32 31)).toInt32) + (((((((v0 - ((v0.toUInt32 >>> ((1 : Int32).toUInt32 &&& Int32.toUInt32 31)).toInt32 &&& (1431655765 : Int32))) &&& (858993459 : Int32)) + (((v0 - ((v0.toUInt32 >>> ((1 : Int32).toUInt32 &&& Int32.toUInt32 31)).toInt32 &&& (1431655765 : Int32))).toUInt32 >>> ((2 : Int32).toUInt32 &&& Int32.toUInt32 31)).toInt32 &&& (858993459 : Int32))) + ((((v0 - ((v0.toUInt32 >>> ((1 : Int32).toUInt32 &&& Int32.toUInt32 31)).toInt32 &&& (1431655765 : Int32))) &&& (858993459 : Int32)) + (((v0 - ((v0.toUInt32 >>> ((1 : Int32).toUInt32 &&& Int32.toUInt32 31)).toInt32 &&& (1431655765 : Int32))).toUInt32 >>> ((2 : Int32).toUInt32 &&& Int32.toUInt32 31)).toInt32 &&& (858993459 : Int32))).toUInt32 >>> ((4 : Int32).toUInt32 &&& Int32.toUInt32 31)).toInt32) &&& (252645135 : Int32)) + ((((((v0 - ((v0.toUInt32 >>> ((1 : Int32).toUInt32 &&& Int32.toUInt32 31)).toInt32 &&& (1431655765 : Int32))) &&& (858993459 : Int32)) + (((v0 - ((v0.toUInt32 >>> ((1 : Int32).toUInt32 &&& Int32.toUInt32 31)).toInt32 &&& (1431655765 : Int32))).toUInt32 >>> ((2 : Int32).toUInt32 &&& Int32.toUInt32 31)).toInt32 &&& (858993459 : Int32))) + ((((v0 - ((v0.toUInt32 >>> ((1 : Int32).toUInt32 &&& Int32.toUInt32 31)).toInt32 &&& (1431655765 : Int32))) &&& (858993459 : Int32)) + (((v0 - ((v0.toUInt32 >>> ((1 : Int32).toUInt32 &&& Int32.toUInt32 31)).toInt32 &&& (1431655765 : Int32))).toUInt32 >>> ((2 : Int32).toUInt32 &&& Int32.toUInt32 31)).toInt32 &&& (858993459 : Int32))).toUInt32 >>> ((4 : Int32).toUInt32 &&& Int32.toUInt32 31)).toInt32) &&& (252645135 : Int32)).toUInt32 >>> ((8 : Int32).toUInt32 &&& Int32.toUInt32 31)).toInt32).toUInt32 >>> ((16 : Int32).toUInt32 &&& Int32.toUInt32 31)).toInt32))]) hx hb dJ6_bitCount_0f7a4_47 rfl hl (by decide) rfl (fun ls hl => ?_)
  refine lv_iload_n hx hb dJ6_bitCount_0f7a4_48 rfl (lv_at hl 0 rfl) ?_
  refine lv_bipush (v := 63) hx hb dJ6_bitCount_0f7a4_49 (by decide) ?_
  refine lv_iand hx hb dJ6_bitCount_0f7a4_51 ?_
  obtain rfl := Option.some.inj hf
  rw [hQ]
  exact r_iret C hr hk hW rfl rfl dJ6_bitCount_0f7a4_52
set_option maxHeartbeats 4000000 in
set_option maxRecDepth 100000 in
theorem c_X11_backs {l : Launch} {D : va_G} {tc : Nat → ClassId} {ro : Ro} {ad : Nat → Nat} {μ : Mm} {v1 : Int32} {res : Int32 × Mm} (hf : f_X11_backs μ v1 = some res) : Ct l D tc ro (faM ad) (feM tc ad) yX11_backs cX11_backs 4 (some .int) (rmq 5 112) [.ref (ad 0), .int v1] μ (some (.int res.1)) res.2 := by
  refine Ct.of (by decide) (Nat.le_of_ble_eq_true rfl) (fun p e s m args below meth c A C hr hk hW ls hl => ?_)
  have hx := C.1.1
  have hb := C.1.2.1
  obtain ⟨Q, hQ⟩ : ∃ Q, Q = MQ below (Ctq D (faM ad) (feM tc ad) (some (.int res.1)) res.2 A) args s 0 0 A := ⟨_, rfl⟩
  rw [← hQ]
  have hl : lv_has ls 4 [(0, .ref (ad 0)), (1, .int v1)] := hl
  unfold f_X11_backs at hf
  refine lv_aload_n hx hb dX11_backs_0 rfl (lv_at hl 0 rfl) ?_
  refine lv_iconst (v := 0) hx hb dX11_backs_1 (by decide) ?_
  refine pf_X11_3 C hW dX11_backs_2 (fun H locs hW => ?_)
  refine lv_aload_n hx hb dX11_backs_5 rfl (lv_at hl 0 rfl) ?_
  refine lv_aload_n hx hb dX11_backs_6 rfl (lv_at hl 0 rfl) ?_
  refine lv_iload_n hx hb dX11_backs_7 rfl (lv_at hl 1 rfl) ?_
  obtain ⟨x8, h8, hf⟩ := bd_of hf
  refine r_callV (k := ((0, 0) : Ky)) C hW hl lk_X11_359 (c_X11_noPerson h8) ⟨rfl, rfl⟩ ⟨Nat.le_of_ble_eq_true rfl, Nat.le_of_ble_eq_true rfl⟩ rfl rfl rfl (As := [.int v1]) (rest := [.ref (ad 0)]) rfl rfl (Nat.le_of_ble_eq_true rfl) dX11_backs_8 ⟨Nat.zero_le _, Nat.zero_le _⟩ (fun H locs hW => ?_)
  show W p l e (rmq 5 112) s m args below meth c H locs 0 0 Q (F0 m 11 ls [.int x8, .ref (ad 0)])
  refine lv_iconst (v := 1) hx hb dX11_backs_11 (by decide) ?_
  obtain ⟨x12, h12, hf⟩ := bd_of hf
  refine r_callV (k := ((0, 0) : Ky)) C hW hl lk_X11_322 (c_X11_throwsIf h12) ⟨rfl, rfl⟩ ⟨Nat.le_of_ble_eq_true rfl, Nat.le_of_ble_eq_true rfl⟩ rfl rfl rfl (As := [.int x8, .int (1 : Int32)]) (rest := []) rfl rfl (Nat.le_of_ble_eq_true rfl) dX11_backs_12 ⟨Nat.zero_le _, Nat.zero_le _⟩ (fun H locs hW => ?_)
  show W p l e (rmq 5 112) s m args below meth c H locs 0 0 Q (F0 m 15 ls [.int x12.1])
  refine lv_if_eq (tgt := 20) hx hb dX11_backs_15 (by decide) (fun c3 => ?_) (fun c3 => ?_)
  · have hf := (if_pos c3).symm.trans hf
    refine lv_aload_n hx hb dX11_backs_20 rfl (lv_at hl 0 rfl) ?_
    obtain ⟨x21, h21, hf⟩ := bd_of hf
    refine r_callV (k := ((0, 0) : Ky)) C hW hl lk_X11_412 (c_X11_keepsLeft h21) ⟨rfl, rfl⟩ ⟨Nat.le_of_ble_eq_true rfl, Nat.le_of_ble_eq_true rfl⟩ rfl rfl rfl (As := []) (rest := []) rfl rfl (Nat.le_of_ble_eq_true rfl) dX11_backs_21 ⟨Nat.zero_le _, Nat.zero_le _⟩ (fun H locs hW => ?_)
    show W p l e (rmq 5 112) s m args below meth c H locs 0 0 Q (F0 m 24 ls [])
    refine lv_bipush (v := -2) hx hb dX11_backs_24 (by decide) ?_
    refine lv_istore_n (lv' := [(2, .int (-2 : Int32)), (0, .ref (ad 0)), (1, .int v1)]) hx hb dX11_backs_26 rfl hl (by decide) rfl (fun ls hl => ?_)
    refine lv_iconst (v := 0) hx hb dX11_backs_27 (by decide) ?_
    refine lv_istore_n (lv' := [(3, .int (0 : Int32)), (2, .int (-2 : Int32)), (0, .ref (ad 0)), (1, .int v1)]) hx hb dX11_backs_28 rfl hl (by decide) rfl (fun ls hl => ?_)
    have L29 : ∀ (μ : Mm) (v2 v3 : Int32) (H : Heap) (locs : List Loc) (ls : Array Slot), Wh (fun z : Mm × Int32 × Int32 => f_X11_backs_L29 v1 z.1 z.2.1 z.2.2) (μ, v2, v3) = some res → Wd D (faM ad) (feM tc ad) A s.heap μ H locs → lv_has ls 4 [(0, .ref (ad 0)), (1, .int v1), (2, .int v2), (3, .int v3)] → W p l e (rmq 5 112) s m args below meth c H locs 0 0 Q (F0 m 29 ls []) := by
      intro μ v2 v3 H locs ls hf hW hl
      refine Wh_rule hf (fun z : Mm × Int32 × Int32 => ∀ (H : Heap) (locs : List Loc) (ls : Array Slot), Wd D (faM ad) (feM tc ad) A s.heap z.1 H locs → lv_has ls 4 [(0, .ref (ad 0)), (1, .int v1), (2, .int z.2.1), (3, .int z.2.2)] → W p l e (rmq 5 112) s m args below meth c H locs 0 0 Q (F0 m 29 ls [])) (fun z o1 hf Kl1 Kr1 => ?_) _ _ _ hW hl
      obtain ⟨μ, v2, v3⟩ := z
      intro H locs ls hW hl
      have hf : f_X11_backs_L29 v1 μ v2 v3 = some o1 := hf
      unfold f_X11_backs_L29 at hf
      have hW : Wd D (faM ad) (feM tc ad) A s.heap μ H locs := hW
      have hl : lv_has ls 4 [(0, .ref (ad 0)), (1, .int v1), (2, .int v2), (3, .int v3)] := hl
      have J65 : ∀ (μ : Mm) (v2 v3 : Int32) (H : Heap) (locs : List Loc) (ls : Array Slot), f_X11_backs_J65 μ v1 v2 v3 = some o1 → Wd D (faM ad) (feM tc ad) A s.heap μ H locs → lv_has ls 4 [(0, .ref (ad 0)), (1, .int v1), (2, .int v2), (3, .int v3)] → W p l e (rmq 5 112) s m args below meth c H locs 0 0 Q (F0 m 65 ls []) := by
        intro μ v2 v3 H locs ls hf hW hl
        unfold f_X11_backs_J65 at hf
        refine lv_aload_n hx hb dX11_backs_65 rfl (lv_at hl 0 rfl) ?_
        refine lv_iload_n hx hb dX11_backs_66 rfl (lv_at hl 3 rfl) ?_
        obtain ⟨x67, h67, hf⟩ := bd_of hf
        refine r_callV (k := ((0, 0) : Ky)) C hW hl lk_X11_421 (c_X11_readsAll h67) ⟨rfl, rfl⟩ ⟨Nat.le_of_ble_eq_true rfl, Nat.le_of_ble_eq_true rfl⟩ rfl rfl rfl (As := [.int v3]) (rest := []) rfl rfl (Nat.le_of_ble_eq_true rfl) dX11_backs_67 ⟨Nat.zero_le _, Nat.zero_le _⟩ (fun H locs hW => ?_)
        show W p l e (rmq 5 112) s m args below meth c H locs 0 0 Q (F0 m 70 ls [])
        refine lv_aload_n hx hb dX11_backs_70 rfl (lv_at hl 0 rfl) ?_
        refine lv_iload_n hx hb dX11_backs_71 rfl (lv_at hl 1 rfl) ?_
        refine lv_aload_n hx hb dX11_backs_72 rfl (lv_at hl 0 rfl) ?_
        obtain ⟨x73, h73, hf⟩ := bd_of hf
        refine r_callV (k := ((0, 0) : Ky)) C hW hl lk_X11_121 (c_X11_here h73) ⟨rfl, rfl⟩ ⟨Nat.le_of_ble_eq_true rfl, Nat.le_of_ble_eq_true rfl⟩ rfl rfl rfl (As := []) (rest := [.int v1, .ref (ad 0)]) rfl rfl (Nat.le_of_ble_eq_true rfl) dX11_backs_73 ⟨Nat.zero_le _, Nat.zero_le _⟩ (fun H locs hW => ?_)
        show W p l e (rmq 5 112) s m args below meth c H locs 0 0 Q (F0 m 76 ls [.int x73, .int v1, .ref (ad 0)])
        obtain ⟨x76, h76, hf⟩ := bd_of hf
        refine r_callV (k := ((0, 0) : Ky)) C hW hl lk_X11_146 (c_X11_isSure h76) ⟨rfl, rfl⟩ ⟨Nat.le_of_ble_eq_true rfl, Nat.le_of_ble_eq_true rfl⟩ rfl rfl rfl (As := [.int v1, .int x73]) (rest := []) rfl rfl (Nat.le_of_ble_eq_true rfl) dX11_backs_76 ⟨Nat.zero_le _, Nat.zero_le _⟩ (fun H locs hW => ?_)
        show W p l e (rmq 5 112) s m args below meth c H locs 0 0 Q (F0 m 79 ls [.int x76.1])
        refine lv_if_eq (tgt := 86) hx hb dX11_backs_79 (by decide) (fun c8 => ?_) (fun c8 => ?_)
        · have hf := (if_pos c8).symm.trans hf
          refine lv_iload_n hx hb dX11_backs_86 rfl (lv_at hl 2 rfl) ?_
          refine lv_istore_n (lv' := [(2, .int v2), (0, .ref (ad 0)), (1, .int v1), (3, .int v3)]) hx hb dX11_backs_87 rfl hl (by decide) rfl (fun ls hl => ?_)
          refine lv_aload_n hx hb dX11_backs_88 rfl (lv_at hl 1 rfl) ?_
          obtain ⟨x89, h89, hf⟩ := bd_of hf
          refine r_callV (k := ((0, 0) : Ky)) C hW hl lk_X11_415 (c_X11_bringsLeft h89) ⟨rfl, rfl⟩ ⟨Nat.le_of_ble_eq_true rfl, Nat.le_of_ble_eq_true rfl⟩ rfl rfl rfl (As := []) (rest := []) rfl rfl (Nat.le_of_ble_eq_true rfl) dX11_backs_89 ⟨Nat.zero_le _, Nat.zero_le _⟩ (fun H locs hW => ?_)
          show W p l e (rmq 5 112) s m args below meth c H locs 0 0 Q (F0 m 92 ls [])
          refine lv_iinc (v := (v3 + (1 : Int32))) (lv' := [(3, .int (v3 + (1 : Int32))), (2, .int v2), (0, .ref (ad 0)), (1, .int v1)]) hx hb dX11_backs_92 hl (k := 3) rfl rfl (by decide) rfl (fun ls hl => ?_)
          refine lv_goto (tgt := 29) hx hb dX11_backs_95 (by decide) ?_
          obtain rfl := Option.some.inj hf
          exact Kl1 _ rfl _ _ _ hW (lv_sub hl [2, 3, 1, 0] rfl)
        · have hf := (if_neg c8).symm.trans hf
          refine lv_iload_n hx hb dX11_backs_82 rfl (lv_at hl 3 rfl) ?_
          refine lv_goto (tgt := 87) hx hb dX11_backs_83 (by decide) ?_
          refine lv_istore_n (lv' := [(2, .int v3), (0, .ref (ad 0)), (1, .int v1), (3, .int v3)]) hx hb dX11_backs_87 rfl hl (by decide) rfl (fun ls hl => ?_)
          refine lv_aload_n hx hb dX11_backs_88 rfl (lv_at hl 1 rfl) ?_
          obtain ⟨x89, h89, hf⟩ := bd_of hf
          refine r_callV (k := ((0, 0) : Ky)) C hW hl lk_X11_415 (c_X11_bringsLeft h89) ⟨rfl, rfl⟩ ⟨Nat.le_of_ble_eq_true rfl, Nat.le_of_ble_eq_true rfl⟩ rfl rfl rfl (As := []) (rest := []) rfl rfl (Nat.le_of_ble_eq_true rfl) dX11_backs_89 ⟨Nat.zero_le _, Nat.zero_le _⟩ (fun H locs hW => ?_)
          show W p l e (rmq 5 112) s m args below meth c H locs 0 0 Q (F0 m 92 ls [])
          refine lv_iinc (v := (v3 + (1 : Int32))) (lv' := [(3, .int (v3 + (1 : Int32))), (2, .int v3), (0, .ref (ad 0)), (1, .int v1)]) hx hb dX11_backs_92 hl (k := 3) rfl rfl (by decide) rfl (fun ls hl => ?_)
          refine lv_goto (tgt := 29) hx hb dX11_backs_95 (by decide) ?_
          obtain rfl := Option.some.inj hf
          exact Kl1 _ rfl _ _ _ hW (lv_sub hl [2, 3, 1, 0] rfl)
      refine lv_iload_n hx hb dX11_backs_29 rfl (lv_at hl 3 rfl) ?_
      refine lv_iconst (v := 1) hx hb dX11_backs_30 (by decide) ?_
      refine lv_aload_n hx hb dX11_backs_31 rfl (lv_at hl 0 rfl) ?_
      obtain ⟨x32, h32, hf⟩ := bd_of hf
      refine r_callV (k := ((0, 0) : Ky)) C hW hl lk_X11_107 (c_X11_people h32) ⟨rfl, rfl⟩ ⟨Nat.le_of_ble_eq_true rfl, Nat.le_of_ble_eq_true rfl⟩ rfl rfl rfl (As := []) (rest := [.int (1 : Int32), .int v3]) rfl rfl (Nat.le_of_ble_eq_true rfl) dX11_backs_32 ⟨Nat.zero_le _, Nat.zero_le _⟩ (fun H locs hW => ?_)
      show W p l e (rmq 5 112) s m args below meth c H locs 0 0 Q (F0 m 35 ls [.int x32, .int (1 : Int32), .int v3])
      refine lv_ishl hx hb dX11_backs_35 ?_
      refine lv_icmp_ge (tgt := 98) hx hb dX11_backs_36 (by decide) (fun c12 => ?_) (fun c12 => ?_)
      · have hf := (if_pos c12).symm.trans hf
        obtain ⟨x9013, hf, hx9013⟩ := map_of hf
        have e9013 := (Kr1 _ hx9013.symm).symm
        subst e9013
        refine lv_iload_n hx hb dX11_backs_98 rfl (lv_at hl 2 rfl) ?_
        obtain rfl := Option.some.inj hf
        rw [hQ]
        exact r_iret C hr hk hW rfl rfl dX11_backs_99
      · have hf := (if_neg c12).symm.trans hf
        refine lv_iload_n hx hb dX11_backs_39 rfl (lv_at hl 3 rfl) ?_
        refine lv_iload_n hx hb dX11_backs_40 rfl (lv_at hl 1 rfl) ?_
        obtain ⟨x41, h41, hf⟩ := bd_of hf
        refine r_callS C hW hl lk_X11_103 (c_X11_has h41) ⟨rfl, rfl⟩ ⟨Nat.le_of_ble_eq_true rfl, Nat.le_of_ble_eq_true rfl⟩ (As := [.int v3, .int v1]) (rest := []) rfl rfl (Nat.le_of_ble_eq_true rfl) dX11_backs_41 ⟨Nat.zero_le _, Nat.zero_le _⟩ (fun H locs hW => ?_)
        show W p l e (rmq 5 112) s m args below meth c H locs 0 0 Q (F0 m 44 ls [.int x41])
        refine lv_if_ne (tgt := 92) hx hb dX11_backs_44 (by decide) (fun c15 => ?_) (fun c15 => ?_)
        · have hf := (if_neg c15).symm.trans hf
          refine lv_iinc (v := (v3 + (1 : Int32))) (lv' := [(3, .int (v3 + (1 : Int32))), (0, .ref (ad 0)), (1, .int v1), (2, .int v2)]) hx hb dX11_backs_92 hl (k := 3) rfl rfl (by decide) rfl (fun ls hl => ?_)
          refine lv_goto (tgt := 29) hx hb dX11_backs_95 (by decide) ?_
          obtain rfl := Option.some.inj hf
          exact Kl1 _ rfl _ _ _ hW (lv_sub hl [1, 2, 3, 0] rfl)
        · have hf := (if_pos c15).symm.trans hf
          refine lv_iload_n hx hb dX11_backs_47 rfl (lv_at hl 2 rfl) ?_
          refine lv_if_lt (tgt := 65) hx hb dX11_backs_48 (by decide) (fun c16 => ?_) (fun c16 => ?_)
          · have hf := (if_pos c16).symm.trans hf
            exact J65 μ v2 v3 _ _ _ hf hW (lv_sub hl [0, 1, 2, 3] rfl)
          · have hf := (if_neg c16).symm.trans hf
            refine lv_iload_n hx hb dX11_backs_51 rfl (lv_at hl 3 rfl) ?_
            obtain ⟨x52, h52, hf⟩ := bd_of hf
            refine r_callS C hW hl lk_X11_418 (c_J6_bitCount_0f7a4 h52) ⟨rfl, rfl⟩ ⟨Nat.le_of_ble_eq_true rfl, Nat.le_of_ble_eq_true rfl⟩ (As := [.int v3]) (rest := []) rfl rfl (Nat.le_of_ble_eq_true rfl) dX11_backs_52 ⟨Nat.zero_le _, Nat.zero_le _⟩ (fun H locs hW => ?_)
            show W p l e (rmq 5 112) s m args below meth c H locs 0 0 Q (F0 m 55 ls [.int x52])
            refine lv_iload_n hx hb dX11_backs_55 rfl (lv_at hl 2 rfl) ?_
            obtain ⟨x56, h56, hf⟩ := bd_of hf
            refine r_callS C hW hl lk_X11_418 (c_J6_bitCount_0f7a4 h56) ⟨rfl, rfl⟩ ⟨Nat.le_of_ble_eq_true rfl, Nat.le_of_ble_eq_true rfl⟩ (As := [.int v2]) (rest := [.int x52]) rfl rfl (Nat.le_of_ble_eq_true rfl) dX11_backs_56 ⟨Nat.zero_le _, Nat.zero_le _⟩ (fun H locs hW => ?_)
            show W p l e (rmq 5 112) s m args below meth c H locs 0 0 Q (F0 m 59 ls [.int x56, .int x52])
            refine lv_icmp_lt (tgt := 65) hx hb dX11_backs_59 (by decide) (fun c19 => ?_) (fun c19 => ?_)
            · have hf := (if_pos c19).symm.trans hf
              exact J65 μ v2 v3 _ _ _ hf hW (lv_sub hl [0, 1, 2, 3] rfl)
            · have hf := (if_neg c19).symm.trans hf
              refine lv_goto (tgt := 92) hx hb dX11_backs_62 (by decide) ?_
              refine lv_iinc (v := (v3 + (1 : Int32))) (lv' := [(3, .int (v3 + (1 : Int32))), (0, .ref (ad 0)), (1, .int v1), (2, .int v2)]) hx hb dX11_backs_92 hl (k := 3) rfl rfl (by decide) rfl (fun ls hl => ?_)
              refine lv_goto (tgt := 29) hx hb dX11_backs_95 (by decide) ?_
              obtain rfl := Option.some.inj hf
              exact Kl1 _ rfl _ _ _ hW (lv_sub hl [1, 2, 3, 0] rfl)
    exact L29 x21 (-2 : Int32) (0 : Int32) _ _ _ hf hW (lv_sub hl [2, 3, 1, 0] rfl)
  · have hf := (if_neg c3).symm.trans hf
    refine lv_iconst (v := 0) hx hb dX11_backs_18 (by decide) ?_
    obtain rfl := Option.some.inj hf
    rw [hQ]
    exact r_iret C hr hk hW rfl rfl dX11_backs_19
set_option maxHeartbeats 4000000 in
set_option maxRecDepth 100000 in
theorem c_X11_maskAt {l : Launch} {D : va_G} {tc : Nat → ClassId} {ro : Ro} {ad : Nat → Nat} {μ : Mm} {v1 v2 : Int32} {res : Int32} (hf : f_X11_maskAt μ v1 v2 = some res) : Ct l D tc ro (faM ad) (feM tc ad) yX11_maskAt cX11_maskAt 3 (some .int) (rmq 1 22) [.ref (ad 0), .int v1, .int v2] μ (some (.int res)) μ := by
  refine Ct.of (by decide) (Nat.le_of_ble_eq_true rfl) (fun p e s m args below meth c A C hr hk hW ls hl => ?_)
  have hx := C.1.1
  have hb := C.1.2.1
  obtain ⟨Q, hQ⟩ : ∃ Q, Q = MQ below (Ctq D (faM ad) (feM tc ad) (some (.int res)) μ A) args s 0 0 A := ⟨_, rfl⟩
  rw [← hQ]
  have hl : lv_has ls 3 [(0, .ref (ad 0)), (1, .int v1), (2, .int v2)] := hl
  unfold f_X11_maskAt at hf
  refine lv_bipush (v := 8) hx hb dX11_maskAt_0 (by decide) ?_
  refine lv_aload_n hx hb dX11_maskAt_2 rfl (lv_at hl 0 rfl) ?_
  refine lv_iload_n hx hb dX11_maskAt_3 rfl (lv_at hl 1 rfl) ?_
  refine lv_iload_n hx hb dX11_maskAt_4 rfl (lv_at hl 2 rfl) ?_
  obtain ⟨x5, h5, hf⟩ := bd_of hf
  refine r_callV (k := ((0, 0) : Ky)) C hW hl lk_X11_132 (c_X11_label h5) ⟨rfl, rfl⟩ ⟨Nat.le_of_ble_eq_true rfl, Nat.le_of_ble_eq_true rfl⟩ rfl rfl rfl (As := [.int v1, .int v2]) (rest := [.int (8 : Int32)]) rfl rfl (Nat.le_of_ble_eq_true rfl) dX11_maskAt_5 ⟨Nat.zero_le _, Nat.zero_le _⟩ (fun H locs hW => ?_)
  show W p l e (rmq 1 22) s m args below meth c H locs 0 0 Q (F0 m 8 ls [.int x5, .int (8 : Int32)])
  refine lv_imul hx hb dX11_maskAt_8 ?_
  refine lv_aload_n hx hb dX11_maskAt_9 rfl (lv_at hl 0 rfl) ?_
  refine gf_X11_33 C hW dX11_maskAt_10 ?_
  refine lv_iload_n hx hb dX11_maskAt_13 rfl (lv_at hl 2 rfl) ?_
  obtain ⟨hi2, hf⟩ := ck_of hf
  refine r_iald (k := ((9, 0) : Ky)) (n := 512) C hW rfl rfl hi2 dX11_maskAt_14 ?_
  refine lv_iadd hx hb dX11_maskAt_15 ?_
  obtain rfl := Option.some.inj hf
  rw [hQ]
  exact r_iret C hr hk hW rfl rfl dX11_maskAt_16
set_option maxHeartbeats 4000000 in
set_option maxRecDepth 100000 in
theorem c_X11_laysMore {l : Launch} {D : va_G} {tc : Nat → ClassId} {ro : Ro} {ad : Nat → Nat} {μ : Mm} {v1 : Int32} {res : Mm} (hf : f_X11_laysMore μ v1 = some res) : Ct l D tc ro (faM ad) (feM tc ad) yX11_laysMore cX11_laysMore 3 none (rmq 2 44) [.ref (ad 0), .int v1] μ none res := by
  refine Ct.of (by decide) (Nat.le_of_ble_eq_true rfl) (fun p e s m args below meth c A C hr hk hW ls hl => ?_)
  have hx := C.1.1
  have hb := C.1.2.1
  obtain ⟨Q, hQ⟩ : ∃ Q, Q = MQ below (Ctq D (faM ad) (feM tc ad) none res A) args s 0 0 A := ⟨_, rfl⟩
  rw [← hQ]
  have hl : lv_has ls 3 [(0, .ref (ad 0)), (1, .int v1)] := hl
  unfold f_X11_laysMore at hf
  refine lv_iconst (v := 0) hx hb dX11_laysMore_0 (by decide) ?_
  refine lv_istore_n (lv' := [(2, .int (0 : Int32)), (0, .ref (ad 0)), (1, .int v1)]) hx hb dX11_laysMore_1 rfl hl (by decide) rfl (fun ls hl => ?_)
  have L2 : ∀ (μ : Mm) (v2 : Int32) (H : Heap) (locs : List Loc) (ls : Array Slot), Wh (fun z : Mm × Int32 => f_X11_laysMore_L2 v1 z.1 z.2) (μ, v2) = some res → Wd D (faM ad) (feM tc ad) A s.heap μ H locs → lv_has ls 3 [(0, .ref (ad 0)), (1, .int v1), (2, .int v2)] → W p l e (rmq 2 44) s m args below meth c H locs 0 0 Q (F0 m 2 ls []) := by
    intro μ v2 H locs ls hf hW hl
    refine Wh_rule hf (fun z : Mm × Int32 => ∀ (H : Heap) (locs : List Loc) (ls : Array Slot), Wd D (faM ad) (feM tc ad) A s.heap z.1 H locs → lv_has ls 3 [(0, .ref (ad 0)), (1, .int v1), (2, .int z.2)] → W p l e (rmq 2 44) s m args below meth c H locs 0 0 Q (F0 m 2 ls [])) (fun z o1 hf Kl1 Kr1 => ?_) _ _ _ hW hl
    obtain ⟨μ, v2⟩ := z
    intro H locs ls hW hl
    have hf : f_X11_laysMore_L2 v1 μ v2 = some o1 := hf
    unfold f_X11_laysMore_L2 at hf
    have hW : Wd D (faM ad) (feM tc ad) A s.heap μ H locs := hW
    have hl : lv_has ls 3 [(0, .ref (ad 0)), (1, .int v1), (2, .int v2)] := hl
    refine lv_iload_n hx hb dX11_laysMore_2 rfl (lv_at hl 2 rfl) ?_
    refine lv_aload_n hx hb dX11_laysMore_3 rfl (lv_at hl 0 rfl) ?_
    refine gf_X11_71 C hW dX11_laysMore_4 ?_
    refine r_alen (k := ((29, 0) : Ky)) (t := 0) (v := 4096) C hW rfl rfl rfl rfl dX11_laysMore_7 ?_
    refine lv_icmp_ge (tgt := 24) hx hb dX11_laysMore_8 (by decide) (fun c1 => ?_) (fun c1 => ?_)
    · have hf := (if_pos c1).symm.trans hf
      obtain ⟨x9011, hf, hx9011⟩ := map_of hf
      have e9011 := (Kr1 _ hx9011.symm).symm
      subst e9011
      refine lv_iconst (v := 0) hx hb dX11_laysMore_24 (by decide) ?_
      refine lv_istore_n (lv' := [(2, .int (0 : Int32)), (0, .ref (ad 0)), (1, .int v1)]) hx hb dX11_laysMore_25 rfl hl (by decide) rfl (fun ls hl => ?_)
      have L26 : ∀ (μ : Mm) (v2 : Int32) (H : Heap) (locs : List Loc) (ls : Array Slot), Wh (fun z : Mm × Int32 => f_X11_laysMore_L26 v1 z.1 z.2) (μ, v2) = some res → Wd D (faM ad) (feM tc ad) A s.heap μ H locs → lv_has ls 3 [(0, .ref (ad 0)), (1, .int v1), (2, .int v2)] → W p l e (rmq 2 44) s m args below meth c H locs 0 0 Q (F0 m 26 ls []) := by
        intro μ v2 H locs ls hf hW hl
        refine Wh_rule hf (fun z : Mm × Int32 => ∀ (H : Heap) (locs : List Loc) (ls : Array Slot), Wd D (faM ad) (feM tc ad) A s.heap z.1 H locs → lv_has ls 3 [(0, .ref (ad 0)), (1, .int v1), (2, .int z.2)] → W p l e (rmq 2 44) s m args below meth c H locs 0 0 Q (F0 m 26 ls [])) (fun z o1 hf Kl1 Kr1 => ?_) _ _ _ hW hl
        obtain ⟨μ, v2⟩ := z
        intro H locs ls hW hl
        have hf : f_X11_laysMore_L26 v1 μ v2 = some o1 := hf
        unfold f_X11_laysMore_L26 at hf
        have hW : Wd D (faM ad) (feM tc ad) A s.heap μ H locs := hW
        have hl : lv_has ls 3 [(0, .ref (ad 0)), (1, .int v1), (2, .int v2)] := hl
        refine lv_iload_n hx hb dX11_laysMore_26 rfl (lv_at hl 2 rfl) ?_
        refine lv_aload_n hx hb dX11_laysMore_27 rfl (lv_at hl 0 rfl) ?_
        obtain ⟨x28, h28, hf⟩ := bd_of hf
        refine r_callV (k := ((0, 0) : Ky)) C hW hl lk_X11_115 (c_X11_worlds h28) ⟨rfl, rfl⟩ ⟨Nat.le_of_ble_eq_true rfl, Nat.le_of_ble_eq_true rfl⟩ rfl rfl rfl (As := []) (rest := [.int v2]) rfl rfl (Nat.le_of_ble_eq_true rfl) dX11_laysMore_28 ⟨Nat.zero_le _, Nat.zero_le _⟩ (fun H locs hW => ?_)
        show W p l e (rmq 2 44) s m args below meth c H locs 0 0 Q (F0 m 31 ls [.int x28, .int v2])
        refine lv_icmp_ge (tgt := 70) hx hb dX11_laysMore_31 (by decide) (fun c3 => ?_) (fun c3 => ?_)
        · have hf := (if_pos c3).symm.trans hf
          obtain ⟨x9004, hf, hx9004⟩ := map_of hf
          have e9004 := (Kr1 _ hx9004.symm).symm
          subst e9004
          obtain rfl := Option.some.inj hf
          rw [hQ]
          exact r_vret C hr hk hW rfl rfl dX11_laysMore_70
        · have hf := (if_neg c3).symm.trans hf
          refine lv_aload_n hx hb dX11_laysMore_34 rfl (lv_at hl 0 rfl) ?_
          refine lv_iload_n hx hb dX11_laysMore_35 rfl (lv_at hl 2 rfl) ?_
          obtain ⟨x36, h36, hf⟩ := bd_of hf
          refine r_callV (k := ((0, 0) : Ky)) C hW hl lk_X11_128 (c_X11_isLeft h36) ⟨rfl, rfl⟩ ⟨Nat.le_of_ble_eq_true rfl, Nat.le_of_ble_eq_true rfl⟩ rfl rfl rfl (As := [.int v2]) (rest := []) rfl rfl (Nat.le_of_ble_eq_true rfl) dX11_laysMore_36 ⟨Nat.zero_le _, Nat.zero_le _⟩ (fun H locs hW => ?_)
          show W p l e (rmq 2 44) s m args below meth c H locs 0 0 Q (F0 m 39 ls [.int x36])
          refine lv_if_eq (tgt := 64) hx hb dX11_laysMore_39 (by decide) (fun c6 => ?_) (fun c6 => ?_)
          · have hf := (if_pos c6).symm.trans hf
            refine lv_iinc (v := (v2 + (1 : Int32))) (lv' := [(2, .int (v2 + (1 : Int32))), (0, .ref (ad 0)), (1, .int v1)]) hx hb dX11_laysMore_64 hl (k := 2) rfl rfl (by decide) rfl (fun ls hl => ?_)
            refine lv_goto (tgt := 26) hx hb dX11_laysMore_67 (by decide) ?_
            obtain rfl := Option.some.inj hf
            exact Kl1 _ rfl _ _ _ hW (lv_sub hl [1, 2, 0] rfl)
          · have hf := (if_neg c6).symm.trans hf
            refine lv_aload_n hx hb dX11_laysMore_42 rfl (lv_at hl 0 rfl) ?_
            refine gf_X11_71 C hW dX11_laysMore_43 ?_
            refine lv_aload_n hx hb dX11_laysMore_46 rfl (lv_at hl 0 rfl) ?_
            refine lv_iload_n hx hb dX11_laysMore_47 rfl (lv_at hl 1 rfl) ?_
            refine lv_iload_n hx hb dX11_laysMore_48 rfl (lv_at hl 2 rfl) ?_
            obtain ⟨x49, h49, hf⟩ := bd_of hf
            refine r_callV (k := ((0, 0) : Ky)) C hW hl lk_X11_424 (c_X11_maskAt h49) ⟨rfl, rfl⟩ ⟨Nat.le_of_ble_eq_true rfl, Nat.le_of_ble_eq_true rfl⟩ rfl rfl rfl (As := [.int v1, .int v2]) (rest := [.ref (ad 29)]) rfl rfl (Nat.le_of_ble_eq_true rfl) dX11_laysMore_49 ⟨Nat.zero_le _, Nat.zero_le _⟩ (fun H locs hW => ?_)
            show W p l e (rmq 2 44) s m args below meth c H locs 0 0 Q (F0 m 52 ls [.int x49, .ref (ad 29)])
            refine lv_dup2_11 hx hb dX11_laysMore_52 rfl rfl ?_
            obtain ⟨hi8, hf⟩ := ck_of hf
            refine r_iald (k := ((29, 0) : Ky)) (n := 4096) C hW rfl rfl hi8 dX11_laysMore_53 ?_
            refine lv_iconst (v := 1) hx hb dX11_laysMore_54 (by decide) ?_
            refine lv_aload_n hx hb dX11_laysMore_55 rfl (lv_at hl 0 rfl) ?_
            refine lv_iload_n hx hb dX11_laysMore_56 rfl (lv_at hl 1 rfl) ?_
            refine lv_iload_n hx hb dX11_laysMore_57 rfl (lv_at hl 2 rfl) ?_
            obtain ⟨x58, h58, hf⟩ := bd_of hf
            refine r_callV (k := ((0, 0) : Ky)) C hW hl lk_X11_124 (c_X11_noticeIn h58) ⟨rfl, rfl⟩ ⟨Nat.le_of_ble_eq_true rfl, Nat.le_of_ble_eq_true rfl⟩ rfl rfl rfl (As := [.int v1, .int v2]) (rest := [.int (1 : Int32), .int (μ (29, 0) x49.toNatClampNeg), .int x49, .ref (ad 29)]) rfl rfl (Nat.le_of_ble_eq_true rfl) dX11_laysMore_58 ⟨Nat.zero_le _, Nat.zero_le _⟩ (fun H locs hW => ?_)
            show W p l e (rmq 2 44) s m args below meth c H locs 0 0 Q (F0 m 61 ls [.int x58, .int (1 : Int32), .int (μ (29, 0) x49.toNatClampNeg), .int x49, .ref (ad 29)])
            refine lv_ishl hx hb dX11_laysMore_61 ?_
            refine lv_ior hx hb dX11_laysMore_62 ?_
            obtain ⟨hi10, hf⟩ := ck_of hf
            refine r_iast (k := ((29, 0) : Ky)) (n := 4096) C hW rfl (fun _ => rfl) hi10 dX11_laysMore_63 (fun H locs hW => ?_)
            refine lv_iinc (v := (v2 + (1 : Int32))) (lv' := [(2, .int (v2 + (1 : Int32))), (0, .ref (ad 0)), (1, .int v1)]) hx hb dX11_laysMore_64 hl (k := 2) rfl rfl (by decide) rfl (fun ls hl => ?_)
            refine lv_goto (tgt := 26) hx hb dX11_laysMore_67 (by decide) ?_
            obtain rfl := Option.some.inj hf
            exact Kl1 _ rfl _ _ _ hW (lv_sub hl [1, 2, 0] rfl)
      exact L26 μ (0 : Int32) _ _ _ hf hW (lv_sub hl [1, 2, 0] rfl)
    · have hf := (if_neg c1).symm.trans hf
      refine lv_aload_n hx hb dX11_laysMore_11 rfl (lv_at hl 0 rfl) ?_
      refine gf_X11_71 C hW dX11_laysMore_12 ?_
      refine lv_iload_n hx hb dX11_laysMore_15 rfl (lv_at hl 2 rfl) ?_
      refine lv_iconst (v := 0) hx hb dX11_laysMore_16 (by decide) ?_
      obtain ⟨hi12, hf⟩ := ck_of hf
      refine r_iast (k := ((29, 0) : Ky)) (n := 4096) C hW rfl (fun _ => rfl) hi12 dX11_laysMore_17 (fun H locs hW => ?_)
      refine lv_iinc (v := (v2 + (1 : Int32))) (lv' := [(2, .int (v2 + (1 : Int32))), (0, .ref (ad 0)), (1, .int v1)]) hx hb dX11_laysMore_18 hl (k := 2) rfl rfl (by decide) rfl (fun ls hl => ?_)
      refine lv_goto (tgt := 2) hx hb dX11_laysMore_21 (by decide) ?_
      obtain rfl := Option.some.inj hf
      exact Kl1 _ rfl _ _ _ hW (lv_sub hl [1, 2, 0] rfl)
  exact L2 μ (0 : Int32) _ _ _ hf hW (lv_sub hl [1, 2, 0] rfl)
set_option maxHeartbeats 4000000 in
set_option maxRecDepth 100000 in
theorem c_X11_gives {l : Launch} {D : va_G} {tc : Nat → ClassId} {ro : Ro} {ad : Nat → Nat} {μ : Mm} {v1 : Int32} {res : Int32 × Mm} (hf : f_X11_gives μ v1 = some res) : Ct l D tc ro (faM ad) (feM tc ad) yX11_gives cX11_gives 4 (some .int) (rmq 6 150) [.ref (ad 0), .int v1] μ (some (.int res.1)) res.2 := by
  refine Ct.of (by decide) (Nat.le_of_ble_eq_true rfl) (fun p e s m args below meth c A C hr hk hW ls hl => ?_)
  have hx := C.1.1
  have hb := C.1.2.1
  obtain ⟨Q, hQ⟩ : ∃ Q, Q = MQ below (Ctq D (faM ad) (feM tc ad) (some (.int res.1)) res.2 A) args s 0 0 A := ⟨_, rfl⟩
  rw [← hQ]
  have hl : lv_has ls 4 [(0, .ref (ad 0)), (1, .int v1)] := hl
  unfold f_X11_gives at hf
  refine lv_aload_n hx hb dX11_gives_0 rfl (lv_at hl 0 rfl) ?_
  refine lv_iconst (v := 0) hx hb dX11_gives_1 (by decide) ?_
  refine pf_X11_3 C hW dX11_gives_2 (fun H locs hW => ?_)
  refine lv_aload_n hx hb dX11_gives_5 rfl (lv_at hl 0 rfl) ?_
  refine lv_aload_n hx hb dX11_gives_6 rfl (lv_at hl 0 rfl) ?_
  refine lv_iload_n hx hb dX11_gives_7 rfl (lv_at hl 1 rfl) ?_
  obtain ⟨x8, h8, hf⟩ := bd_of hf
  refine r_callV (k := ((0, 0) : Ky)) C hW hl lk_X11_359 (c_X11_noPerson h8) ⟨rfl, rfl⟩ ⟨Nat.le_of_ble_eq_true rfl, Nat.le_of_ble_eq_true rfl⟩ rfl rfl rfl (As := [.int v1]) (rest := [.ref (ad 0)]) rfl rfl (Nat.le_of_ble_eq_true rfl) dX11_gives_8 ⟨Nat.zero_le _, Nat.zero_le _⟩ (fun H locs hW => ?_)
  show W p l e (rmq 6 150) s m args below meth c H locs 0 0 Q (F0 m 11 ls [.int x8, .ref (ad 0)])
  refine lv_iconst (v := 1) hx hb dX11_gives_11 (by decide) ?_
  obtain ⟨x12, h12, hf⟩ := bd_of hf
  refine r_callV (k := ((0, 0) : Ky)) C hW hl lk_X11_322 (c_X11_throwsIf h12) ⟨rfl, rfl⟩ ⟨Nat.le_of_ble_eq_true rfl, Nat.le_of_ble_eq_true rfl⟩ rfl rfl rfl (As := [.int x8, .int (1 : Int32)]) (rest := []) rfl rfl (Nat.le_of_ble_eq_true rfl) dX11_gives_12 ⟨Nat.zero_le _, Nat.zero_le _⟩ (fun H locs hW => ?_)
  show W p l e (rmq 6 150) s m args below meth c H locs 0 0 Q (F0 m 15 ls [.int x12.1])
  refine lv_if_eq (tgt := 20) hx hb dX11_gives_15 (by decide) (fun c3 => ?_) (fun c3 => ?_)
  · have hf := (if_pos c3).symm.trans hf
    refine lv_iconst (v := 0) hx hb dX11_gives_20 (by decide) ?_
    refine lv_istore_n (lv' := [(2, .int (0 : Int32)), (0, .ref (ad 0)), (1, .int v1)]) hx hb dX11_gives_21 rfl hl (by decide) rfl (fun ls hl => ?_)
    refine lv_iconst (v := 0) hx hb dX11_gives_22 (by decide) ?_
    refine lv_istore_n (lv' := [(3, .int (0 : Int32)), (2, .int (0 : Int32)), (0, .ref (ad 0)), (1, .int v1)]) hx hb dX11_gives_23 rfl hl (by decide) rfl (fun ls hl => ?_)
    have L24 : ∀ (μ : Mm) (v2 v3 : Int32) (H : Heap) (locs : List Loc) (ls : Array Slot), Wh (fun z : Mm × Int32 × Int32 => f_X11_gives_L24 v1 z.1 z.2.1 z.2.2) (μ, v2, v3) = some res → Wd D (faM ad) (feM tc ad) A s.heap μ H locs → lv_has ls 4 [(0, .ref (ad 0)), (1, .int v1), (2, .int v2), (3, .int v3)] → W p l e (rmq 6 150) s m args below meth c H locs 0 0 Q (F0 m 24 ls []) := by
      intro μ v2 v3 H locs ls hf hW hl
      refine Wh_rule hf (fun z : Mm × Int32 × Int32 => ∀ (H : Heap) (locs : List Loc) (ls : Array Slot), Wd D (faM ad) (feM tc ad) A s.heap z.1 H locs → lv_has ls 4 [(0, .ref (ad 0)), (1, .int v1), (2, .int z.2.1), (3, .int z.2.2)] → W p l e (rmq 6 150) s m args below meth c H locs 0 0 Q (F0 m 24 ls [])) (fun z o1 hf Kl1 Kr1 => ?_) _ _ _ hW hl
      obtain ⟨μ, v2, v3⟩ := z
      intro H locs ls hW hl
      have hf : f_X11_gives_L24 v1 μ v2 v3 = some o1 := hf
      unfold f_X11_gives_L24 at hf
      have hW : Wd D (faM ad) (feM tc ad) A s.heap μ H locs := hW
      have hl : lv_has ls 4 [(0, .ref (ad 0)), (1, .int v1), (2, .int v2), (3, .int v3)] := hl
      refine lv_iload_n hx hb dX11_gives_24 rfl (lv_at hl 3 rfl) ?_
      refine lv_aload_n hx hb dX11_gives_25 rfl (lv_at hl 0 rfl) ?_
      obtain ⟨x26, h26, hf⟩ := bd_of hf
      refine r_callV (k := ((0, 0) : Ky)) C hW hl lk_X11_107 (c_X11_people h26) ⟨rfl, rfl⟩ ⟨Nat.le_of_ble_eq_true rfl, Nat.le_of_ble_eq_true rfl⟩ rfl rfl rfl (As := []) (rest := [.int v3]) rfl rfl (Nat.le_of_ble_eq_true rfl) dX11_gives_26 ⟨Nat.zero_le _, Nat.zero_le _⟩ (fun H locs hW => ?_)
      show W p l e (rmq 6 150) s m args below meth c H locs 0 0 Q (F0 m 29 ls [.int x26, .int v3])
      refine lv_icmp_ge (tgt := 96) hx hb dX11_gives_29 (by decide) (fun c5 => ?_) (fun c5 => ?_)
      · have hf := (if_pos c5).symm.trans hf
        obtain ⟨x9006, hf, hx9006⟩ := map_of hf
        have e9006 := (Kr1 _ hx9006.symm).symm
        subst e9006
        refine lv_iload_n hx hb dX11_gives_96 rfl (lv_at hl 2 rfl) ?_
        obtain rfl := Option.some.inj hf
        rw [hQ]
        exact r_iret C hr hk hW rfl rfl dX11_gives_97
      · have hf := (if_neg c5).symm.trans hf
        refine lv_iload_n hx hb dX11_gives_32 rfl (lv_at hl 3 rfl) ?_
        refine lv_iload_n hx hb dX11_gives_33 rfl (lv_at hl 1 rfl) ?_
        refine lv_icmp_eq (tgt := 90) hx hb dX11_gives_34 (by decide) (fun c7 => ?_) (fun c7 => ?_)
        · have hf := (if_pos c7).symm.trans hf
          refine lv_iinc (v := (v3 + (1 : Int32))) (lv' := [(3, .int (v3 + (1 : Int32))), (0, .ref (ad 0)), (1, .int v1), (2, .int v2)]) hx hb dX11_gives_90 hl (k := 3) rfl rfl (by decide) rfl (fun ls hl => ?_)
          refine lv_goto (tgt := 24) hx hb dX11_gives_93 (by decide) ?_
          obtain rfl := Option.some.inj hf
          exact Kl1 _ rfl _ _ _ hW (lv_sub hl [1, 2, 3, 0] rfl)
        · have hf := (if_neg c7).symm.trans hf
          refine lv_aload_n hx hb dX11_gives_37 rfl (lv_at hl 0 rfl) ?_
          refine lv_iload_n hx hb dX11_gives_38 rfl (lv_at hl 3 rfl) ?_
          refine lv_iload_n hx hb dX11_gives_39 rfl (lv_at hl 1 rfl) ?_
          obtain ⟨x40, h40, hf⟩ := bd_of hf
          refine r_callV (k := ((0, 0) : Ky)) C hW hl lk_X11_325 (c_X11_isSeeing h40) ⟨rfl, rfl⟩ ⟨Nat.le_of_ble_eq_true rfl, Nat.le_of_ble_eq_true rfl⟩ rfl rfl rfl (As := [.int v3, .int v1]) (rest := []) rfl rfl (Nat.le_of_ble_eq_true rfl) dX11_gives_40 ⟨Nat.zero_le _, Nat.zero_le _⟩ (fun H locs hW => ?_)
          show W p l e (rmq 6 150) s m args below meth c H locs 0 0 Q (F0 m 43 ls [.int x40])
          refine lv_if_ne (tgt := 49) hx hb dX11_gives_43 (by decide) (fun c9 => ?_) (fun c9 => ?_)
          · have hf := (if_neg c9).symm.trans hf
            refine lv_aload_n hx hb dX11_gives_49 rfl (lv_at hl 0 rfl) ?_
            refine lv_iload_n hx hb dX11_gives_50 rfl (lv_at hl 3 rfl) ?_
            refine lv_iload_n hx hb dX11_gives_51 rfl (lv_at hl 1 rfl) ?_
            obtain ⟨x52, h52, hf⟩ := bd_of hf
            refine r_callV (k := ((0, 0) : Ky)) C hW hl lk_X11_352 (c_X11_mannersCome h52) ⟨rfl, rfl⟩ ⟨Nat.le_of_ble_eq_true rfl, Nat.le_of_ble_eq_true rfl⟩ rfl rfl rfl (As := [.int v3, .int v1]) (rest := []) rfl rfl (Nat.le_of_ble_eq_true rfl) dX11_gives_52 ⟨Nat.zero_le _, Nat.zero_le _⟩ (fun H locs hW => ?_)
            show W p l e (rmq 6 150) s m args below meth c H locs 0 0 Q (F0 m 55 ls [])
            refine lv_aload_n hx hb dX11_gives_55 rfl (lv_at hl 0 rfl) ?_
            refine lv_iload_n hx hb dX11_gives_56 rfl (lv_at hl 1 rfl) ?_
            obtain ⟨x57, h57, hf⟩ := bd_of hf
            refine r_callV (k := ((0, 0) : Ky)) C hW hl lk_X11_427 (c_X11_laysMore h57) ⟨rfl, rfl⟩ ⟨Nat.le_of_ble_eq_true rfl, Nat.le_of_ble_eq_true rfl⟩ rfl rfl rfl (As := [.int v1]) (rest := []) rfl rfl (Nat.le_of_ble_eq_true rfl) dX11_gives_57 ⟨Nat.zero_le _, Nat.zero_le _⟩ (fun H locs hW => ?_)
            show W p l e (rmq 6 150) s m args below meth c H locs 0 0 Q (F0 m 60 ls [])
            refine lv_iload_n hx hb dX11_gives_60 rfl (lv_at hl 2 rfl) ?_
            refine lv_aload_n hx hb dX11_gives_61 rfl (lv_at hl 0 rfl) ?_
            refine gf_X11_71 C hW dX11_gives_62 ?_
            refine lv_aload_n hx hb dX11_gives_65 rfl (lv_at hl 0 rfl) ?_
            refine lv_iload_n hx hb dX11_gives_66 rfl (lv_at hl 1 rfl) ?_
            refine lv_aload_n hx hb dX11_gives_67 rfl (lv_at hl 0 rfl) ?_
            obtain ⟨x68, h68, hf⟩ := bd_of hf
            refine r_callV (k := ((0, 0) : Ky)) C hW hl lk_X11_121 (c_X11_here h68) ⟨rfl, rfl⟩ ⟨Nat.le_of_ble_eq_true rfl, Nat.le_of_ble_eq_true rfl⟩ rfl rfl rfl (As := []) (rest := [.int v1, .ref (ad 0), .ref (ad 29), .int v2]) rfl rfl (Nat.le_of_ble_eq_true rfl) dX11_gives_68 ⟨Nat.zero_le _, Nat.zero_le _⟩ (fun H locs hW => ?_)
            show W p l e (rmq 6 150) s m args below meth c H locs 0 0 Q (F0 m 71 ls [.int x68, .int v1, .ref (ad 0), .ref (ad 29), .int v2])
            obtain ⟨x71, h71, hf⟩ := bd_of hf
            refine r_callV (k := ((0, 0) : Ky)) C hW hl lk_X11_424 (c_X11_maskAt h71) ⟨rfl, rfl⟩ ⟨Nat.le_of_ble_eq_true rfl, Nat.le_of_ble_eq_true rfl⟩ rfl rfl rfl (As := [.int v1, .int x68]) (rest := [.ref (ad 29), .int v2]) rfl rfl (Nat.le_of_ble_eq_true rfl) dX11_gives_71 ⟨Nat.zero_le _, Nat.zero_le _⟩ (fun H locs hW => ?_)
            show W p l e (rmq 6 150) s m args below meth c H locs 0 0 Q (F0 m 74 ls [.int x71, .ref (ad 29), .int v2])
            obtain ⟨hi14, hf⟩ := ck_of hf
            refine r_iald (k := ((29, 0) : Ky)) (n := 4096) C hW rfl rfl hi14 dX11_gives_74 ?_
            obtain ⟨x75, h75, hf⟩ := bd_of hf
            refine r_callS C hW hl lk_X11_143 (c_X11_isOne h75) ⟨rfl, rfl⟩ ⟨Nat.le_of_ble_eq_true rfl, Nat.le_of_ble_eq_true rfl⟩ (As := [.int (x57 (29, 0) x71.toNatClampNeg)]) (rest := [.int v2]) rfl rfl (Nat.le_of_ble_eq_true rfl) dX11_gives_75 ⟨Nat.zero_le _, Nat.zero_le _⟩ (fun H locs hW => ?_)
            show W p l e (rmq 6 150) s m args below meth c H locs 0 0 Q (F0 m 78 ls [.int x75, .int v2])
            refine lv_if_eq (tgt := 87) hx hb dX11_gives_78 (by decide) (fun c16 => ?_) (fun c16 => ?_)
            · have hf := (if_pos c16).symm.trans hf
              refine lv_iconst (v := 0) hx hb dX11_gives_87 (by decide) ?_
              refine lv_ior hx hb dX11_gives_88 ?_
              refine lv_istore_n (lv' := [(2, .int (v2 ||| (0 : Int32))), (0, .ref (ad 0)), (1, .int v1), (3, .int v3)]) hx hb dX11_gives_89 rfl hl (by decide) rfl (fun ls hl => ?_)
              refine lv_iinc (v := (v3 + (1 : Int32))) (lv' := [(3, .int (v3 + (1 : Int32))), (2, .int (v2 ||| (0 : Int32))), (0, .ref (ad 0)), (1, .int v1)]) hx hb dX11_gives_90 hl (k := 3) rfl rfl (by decide) rfl (fun ls hl => ?_)
              refine lv_goto (tgt := 24) hx hb dX11_gives_93 (by decide) ?_
              obtain rfl := Option.some.inj hf
              exact Kl1 _ rfl _ _ _ hW (lv_sub hl [2, 3, 1, 0] rfl)
            · have hf := (if_neg c16).symm.trans hf
              refine lv_iconst (v := 1) hx hb dX11_gives_81 (by decide) ?_
              refine lv_iload_n hx hb dX11_gives_82 rfl (lv_at hl 3 rfl) ?_
              refine lv_ishl hx hb dX11_gives_83 ?_
              refine lv_goto (tgt := 88) hx hb dX11_gives_84 (by decide) ?_
              refine lv_ior hx hb dX11_gives_88 ?_
              refine lv_istore_n (lv' := [(2, .int (v2 ||| ((1 : Int32) <<< (v3 &&& 31)))), (0, .ref (ad 0)), (1, .int v1), (3, .int v3)]) hx hb dX11_gives_89 rfl hl (by decide) rfl (fun ls hl => ?_)
              refine lv_iinc (v := (v3 + (1 : Int32))) (lv' := [(3, .int (v3 + (1 : Int32))), (2, .int (v2 ||| ((1 : Int32) <<< (v3 &&& 31)))), (0, .ref (ad 0)), (1, .int v1)]) hx hb dX11_gives_90 hl (k := 3) rfl rfl (by decide) rfl (fun ls hl => ?_)
              refine lv_goto (tgt := 24) hx hb dX11_gives_93 (by decide) ?_
              obtain rfl := Option.some.inj hf
              exact Kl1 _ rfl _ _ _ hW (lv_sub hl [2, 3, 1, 0] rfl)
          · have hf := (if_pos c9).symm.trans hf
            refine lv_goto (tgt := 90) hx hb dX11_gives_46 (by decide) ?_
            refine lv_iinc (v := (v3 + (1 : Int32))) (lv' := [(3, .int (v3 + (1 : Int32))), (0, .ref (ad 0)), (1, .int v1), (2, .int v2)]) hx hb dX11_gives_90 hl (k := 3) rfl rfl (by decide) rfl (fun ls hl => ?_)
            refine lv_goto (tgt := 24) hx hb dX11_gives_93 (by decide) ?_
            obtain rfl := Option.some.inj hf
            exact Kl1 _ rfl _ _ _ hW (lv_sub hl [1, 2, 3, 0] rfl)
    exact L24 x12.2 (0 : Int32) (0 : Int32) _ _ _ hf hW (lv_sub hl [2, 3, 1, 0] rfl)
  · have hf := (if_neg c3).symm.trans hf
    refine lv_iconst (v := 0) hx hb dX11_gives_18 (by decide) ?_
    obtain rfl := Option.some.inj hf
    rw [hQ]
    exact r_iret C hr hk hW rfl rfl dX11_gives_19
set_option maxHeartbeats 4000000 in
set_option maxRecDepth 100000 in
theorem c_X11_never {l : Launch} {D : va_G} {tc : Nat → ClassId} {ro : Ro} {ad : Nat → Nat} {μ : Mm} {v1 : Int32} {res : Int32 × Mm} (hf : f_X11_never μ v1 = some res) : Ct l D tc ro (faM ad) (feM tc ad) yX11_never cX11_never 6 (some .int) (rmq 6 150) [.ref (ad 0), .int v1] μ (some (.int res.1)) res.2 := by
  refine Ct.of (by decide) (Nat.le_of_ble_eq_true rfl) (fun p e s m args below meth c A C hr hk hW ls hl => ?_)
  have hx := C.1.1
  have hb := C.1.2.1
  obtain ⟨Q, hQ⟩ : ∃ Q, Q = MQ below (Ctq D (faM ad) (feM tc ad) (some (.int res.1)) res.2 A) args s 0 0 A := ⟨_, rfl⟩
  rw [← hQ]
  have hl : lv_has ls 6 [(0, .ref (ad 0)), (1, .int v1)] := hl
  unfold f_X11_never at hf
  refine lv_aload_n hx hb dX11_never_0 rfl (lv_at hl 0 rfl) ?_
  refine lv_iconst (v := 0) hx hb dX11_never_1 (by decide) ?_
  refine pf_X11_3 C hW dX11_never_2 (fun H locs hW => ?_)
  refine lv_aload_n hx hb dX11_never_5 rfl (lv_at hl 0 rfl) ?_
  refine lv_aload_n hx hb dX11_never_6 rfl (lv_at hl 0 rfl) ?_
  refine lv_iload_n hx hb dX11_never_7 rfl (lv_at hl 1 rfl) ?_
  obtain ⟨x8, h8, hf⟩ := bd_of hf
  refine r_callV (k := ((0, 0) : Ky)) C hW hl lk_X11_359 (c_X11_noPerson h8) ⟨rfl, rfl⟩ ⟨Nat.le_of_ble_eq_true rfl, Nat.le_of_ble_eq_true rfl⟩ rfl rfl rfl (As := [.int v1]) (rest := [.ref (ad 0)]) rfl rfl (Nat.le_of_ble_eq_true rfl) dX11_never_8 ⟨Nat.zero_le _, Nat.zero_le _⟩ (fun H locs hW => ?_)
  show W p l e (rmq 6 150) s m args below meth c H locs 0 0 Q (F0 m 11 ls [.int x8, .ref (ad 0)])
  refine lv_iconst (v := 1) hx hb dX11_never_11 (by decide) ?_
  obtain ⟨x12, h12, hf⟩ := bd_of hf
  refine r_callV (k := ((0, 0) : Ky)) C hW hl lk_X11_322 (c_X11_throwsIf h12) ⟨rfl, rfl⟩ ⟨Nat.le_of_ble_eq_true rfl, Nat.le_of_ble_eq_true rfl⟩ rfl rfl rfl (As := [.int x8, .int (1 : Int32)]) (rest := []) rfl rfl (Nat.le_of_ble_eq_true rfl) dX11_never_12 ⟨Nat.zero_le _, Nat.zero_le _⟩ (fun H locs hW => ?_)
  show W p l e (rmq 6 150) s m args below meth c H locs 0 0 Q (F0 m 15 ls [.int x12.1])
  refine lv_if_eq (tgt := 20) hx hb dX11_never_15 (by decide) (fun c3 => ?_) (fun c3 => ?_)
  · have hf := (if_pos c3).symm.trans hf
    refine lv_iconst (v := 0) hx hb dX11_never_20 (by decide) ?_
    refine lv_istore_n (lv' := [(2, .int (0 : Int32)), (0, .ref (ad 0)), (1, .int v1)]) hx hb dX11_never_21 rfl hl (by decide) rfl (fun ls hl => ?_)
    refine lv_iconst (v := 0) hx hb dX11_never_22 (by decide) ?_
    refine lv_istore_n (lv' := [(3, .int (0 : Int32)), (2, .int (0 : Int32)), (0, .ref (ad 0)), (1, .int v1)]) hx hb dX11_never_23 rfl hl (by decide) rfl (fun ls hl => ?_)
    have L24 : ∀ (μ : Mm) (v2 v3 : Int32) (H : Heap) (locs : List Loc) (ls : Array Slot), Wh (fun z : Mm × Int32 × Int32 => f_X11_never_L24 v1 z.1 z.2.1 z.2.2) (μ, v2, v3) = some res → Wd D (faM ad) (feM tc ad) A s.heap μ H locs → lv_has ls 6 [(0, .ref (ad 0)), (1, .int v1), (2, .int v2), (3, .int v3)] → W p l e (rmq 6 150) s m args below meth c H locs 0 0 Q (F0 m 24 ls []) := by
      intro μ v2 v3 H locs ls hf hW hl
      refine Wh_rule hf (fun z : Mm × Int32 × Int32 => ∀ (H : Heap) (locs : List Loc) (ls : Array Slot), Wd D (faM ad) (feM tc ad) A s.heap z.1 H locs → lv_has ls 6 [(0, .ref (ad 0)), (1, .int v1), (2, .int z.2.1), (3, .int z.2.2)] → W p l e (rmq 6 150) s m args below meth c H locs 0 0 Q (F0 m 24 ls [])) (fun z o1 hf Kl1 Kr1 => ?_) _ _ _ hW hl
      obtain ⟨μ, v2, v3⟩ := z
      intro H locs ls hW hl
      have hf : f_X11_never_L24 v1 μ v2 v3 = some o1 := hf
      unfold f_X11_never_L24 at hf
      have hW : Wd D (faM ad) (feM tc ad) A s.heap μ H locs := hW
      have hl : lv_has ls 6 [(0, .ref (ad 0)), (1, .int v1), (2, .int v2), (3, .int v3)] := hl
      refine lv_iload_n hx hb dX11_never_24 rfl (lv_at hl 3 rfl) ?_
      refine lv_aload_n hx hb dX11_never_25 rfl (lv_at hl 0 rfl) ?_
      obtain ⟨x26, h26, hf⟩ := bd_of hf
      refine r_callV (k := ((0, 0) : Ky)) C hW hl lk_X11_107 (c_X11_people h26) ⟨rfl, rfl⟩ ⟨Nat.le_of_ble_eq_true rfl, Nat.le_of_ble_eq_true rfl⟩ rfl rfl rfl (As := []) (rest := [.int v3]) rfl rfl (Nat.le_of_ble_eq_true rfl) dX11_never_26 ⟨Nat.zero_le _, Nat.zero_le _⟩ (fun H locs hW => ?_)
      show W p l e (rmq 6 150) s m args below meth c H locs 0 0 Q (F0 m 29 ls [.int x26, .int v3])
      refine lv_icmp_ge (tgt := 165) hx hb dX11_never_29 (by decide) (fun c5 => ?_) (fun c5 => ?_)
      · have hf := (if_pos c5).symm.trans hf
        obtain ⟨x9006, hf, hx9006⟩ := map_of hf
        have e9006 := (Kr1 _ hx9006.symm).symm
        subst e9006
        refine lv_iload_n hx hb dX11_never_165 rfl (lv_at hl 2 rfl) ?_
        obtain rfl := Option.some.inj hf
        rw [hQ]
        exact r_iret C hr hk hW rfl rfl dX11_never_166
      · have hf := (if_neg c5).symm.trans hf
        refine lv_iload_n hx hb dX11_never_32 rfl (lv_at hl 3 rfl) ?_
        refine lv_iload_n hx hb dX11_never_33 rfl (lv_at hl 1 rfl) ?_
        refine lv_icmp_eq (tgt := 159) hx hb dX11_never_34 (by decide) (fun c7 => ?_) (fun c7 => ?_)
        · have hf := (if_pos c7).symm.trans hf
          refine lv_iinc (v := (v3 + (1 : Int32))) (lv' := [(3, .int (v3 + (1 : Int32))), (0, .ref (ad 0)), (1, .int v1), (2, .int v2)]) hx hb dX11_never_159 hl (k := 3) rfl rfl (by decide) rfl (fun ls hl => ?_)
          refine lv_goto (tgt := 24) hx hb dX11_never_162 (by decide) ?_
          obtain rfl := Option.some.inj hf
          exact Kl1 _ rfl _ _ _ hW (lv_sub hl [1, 2, 3, 0] rfl)
        · have hf := (if_neg c7).symm.trans hf
          refine lv_aload_n hx hb dX11_never_37 rfl (lv_at hl 0 rfl) ?_
          refine lv_iload_n hx hb dX11_never_38 rfl (lv_at hl 3 rfl) ?_
          refine lv_iload_n hx hb dX11_never_39 rfl (lv_at hl 1 rfl) ?_
          obtain ⟨x40, h40, hf⟩ := bd_of hf
          refine r_callV (k := ((0, 0) : Ky)) C hW hl lk_X11_325 (c_X11_isSeeing h40) ⟨rfl, rfl⟩ ⟨Nat.le_of_ble_eq_true rfl, Nat.le_of_ble_eq_true rfl⟩ rfl rfl rfl (As := [.int v3, .int v1]) (rest := []) rfl rfl (Nat.le_of_ble_eq_true rfl) dX11_never_40 ⟨Nat.zero_le _, Nat.zero_le _⟩ (fun H locs hW => ?_)
          show W p l e (rmq 6 150) s m args below meth c H locs 0 0 Q (F0 m 43 ls [.int x40])
          refine lv_if_ne (tgt := 49) hx hb dX11_never_43 (by decide) (fun c9 => ?_) (fun c9 => ?_)
          · have hf := (if_neg c9).symm.trans hf
            refine lv_aload_n hx hb dX11_never_49 rfl (lv_at hl 0 rfl) ?_
            refine lv_iload_n hx hb dX11_never_50 rfl (lv_at hl 3 rfl) ?_
            refine lv_iload_n hx hb dX11_never_51 rfl (lv_at hl 1 rfl) ?_
            obtain ⟨x52, h52, hf⟩ := bd_of hf
            refine r_callV (k := ((0, 0) : Ky)) C hW hl lk_X11_352 (c_X11_mannersCome h52) ⟨rfl, rfl⟩ ⟨Nat.le_of_ble_eq_true rfl, Nat.le_of_ble_eq_true rfl⟩ rfl rfl rfl (As := [.int v3, .int v1]) (rest := []) rfl rfl (Nat.le_of_ble_eq_true rfl) dX11_never_52 ⟨Nat.zero_le _, Nat.zero_le _⟩ (fun H locs hW => ?_)
            show W p l e (rmq 6 150) s m args below meth c H locs 0 0 Q (F0 m 55 ls [])
            refine lv_aload_n hx hb dX11_never_55 rfl (lv_at hl 0 rfl) ?_
            refine lv_iload_n hx hb dX11_never_56 rfl (lv_at hl 1 rfl) ?_
            obtain ⟨x57, h57, hf⟩ := bd_of hf
            refine r_callV (k := ((0, 0) : Ky)) C hW hl lk_X11_427 (c_X11_laysMore h57) ⟨rfl, rfl⟩ ⟨Nat.le_of_ble_eq_true rfl, Nat.le_of_ble_eq_true rfl⟩ rfl rfl rfl (As := [.int v1]) (rest := []) rfl rfl (Nat.le_of_ble_eq_true rfl) dX11_never_57 ⟨Nat.zero_le _, Nat.zero_le _⟩ (fun H locs hW => ?_)
            show W p l e (rmq 6 150) s m args below meth c H locs 0 0 Q (F0 m 60 ls [])
            refine lv_aload_n hx hb dX11_never_60 rfl (lv_at hl 0 rfl) ?_
            refine lv_iload_n hx hb dX11_never_61 rfl (lv_at hl 1 rfl) ?_
            refine lv_iload_n hx hb dX11_never_62 rfl (lv_at hl 1 rfl) ?_
            obtain ⟨x63, h63, hf⟩ := bd_of hf
            refine r_callV (k := ((0, 0) : Ky)) C hW hl lk_X11_135 (c_X11_lays h63) ⟨rfl, rfl⟩ ⟨Nat.le_of_ble_eq_true rfl, Nat.le_of_ble_eq_true rfl⟩ rfl rfl rfl (As := [.int v1, .int v1]) (rest := []) rfl rfl (Nat.le_of_ble_eq_true rfl) dX11_never_63 ⟨Nat.zero_le _, Nat.zero_le _⟩ (fun H locs hW => ?_)
            show W p l e (rmq 6 150) s m args below meth c H locs 0 0 Q (F0 m 66 ls [])
            refine lv_iconst (v := 1) hx hb dX11_never_66 (by decide) ?_
            refine lv_istore (lv' := [(4, .int (1 : Int32)), (0, .ref (ad 0)), (1, .int v1), (2, .int v2), (3, .int v3)]) hx hb dX11_never_67 hl (by decide) rfl (fun ls hl => ?_)
            refine lv_iconst (v := 0) hx hb dX11_never_69 (by decide) ?_
            refine lv_istore (lv' := [(5, .int (0 : Int32)), (4, .int (1 : Int32)), (0, .ref (ad 0)), (1, .int v1), (2, .int v2), (3, .int v3)]) hx hb dX11_never_70 hl (by decide) rfl (fun ls hl => ?_)
            have L72 : ∀ (μ : Mm) (v2 v3 v4 v5 : Int32) (H : Heap) (locs : List Loc) (ls : Array Slot), Wh (fun z : Int32 × Int32 => f_X11_never_L72 v1 v2 v3 μ z.1 z.2) (v4, v5) = some o1 → Wd D (faM ad) (feM tc ad) A s.heap μ H locs → lv_has ls 6 [(0, .ref (ad 0)), (1, .int v1), (2, .int v2), (3, .int v3), (4, .int v4), (5, .int v5)] → W p l e (rmq 6 150) s m args below meth c H locs 0 0 Q (F0 m 72 ls []) := by
              intro μ v2 v3 v4 v5 H locs ls hf hW hl
              refine Wh_rule hf (fun z : Int32 × Int32 => ∀ (H : Heap) (locs : List Loc) (ls : Array Slot), Wd D (faM ad) (feM tc ad) A s.heap μ H locs → lv_has ls 6 [(0, .ref (ad 0)), (1, .int v1), (2, .int v2), (3, .int v3), (4, .int z.1), (5, .int z.2)] → W p l e (rmq 6 150) s m args below meth c H locs 0 0 Q (F0 m 72 ls [])) (fun z o2 hf Kl2 Kr2 => ?_) _ _ _ hW hl
              obtain ⟨v4, v5⟩ := z
              intro H locs ls hW hl
              have hf : f_X11_never_L72 v1 v2 v3 μ v4 v5 = some o2 := hf
              unfold f_X11_never_L72 at hf
              have hW : Wd D (faM ad) (feM tc ad) A s.heap μ H locs := hW
              have hl : lv_has ls 6 [(0, .ref (ad 0)), (1, .int v1), (2, .int v2), (3, .int v3), (4, .int v4), (5, .int v5)] := hl
              refine lv_iload hx hb dX11_never_72 (lv_at hl 5 rfl) ?_
              refine lv_aload_n hx hb dX11_never_74 rfl (lv_at hl 0 rfl) ?_
              obtain ⟨x75, h75, hf⟩ := bd_of hf
              refine r_callV (k := ((0, 0) : Ky)) C hW hl lk_X11_115 (c_X11_worlds h75) ⟨rfl, rfl⟩ ⟨Nat.le_of_ble_eq_true rfl, Nat.le_of_ble_eq_true rfl⟩ rfl rfl rfl (As := []) (rest := [.int v5]) rfl rfl (Nat.le_of_ble_eq_true rfl) dX11_never_75 ⟨Nat.zero_le _, Nat.zero_le _⟩ (fun H locs hW => ?_)
              show W p l e (rmq 6 150) s m args below meth c H locs 0 0 Q (F0 m 78 ls [.int x75, .int v5])
              refine lv_icmp_ge (tgt := 144) hx hb dX11_never_78 (by decide) (fun c14 => ?_) (fun c14 => ?_)
              · have hf := (if_pos c14).symm.trans hf
                obtain ⟨x9016, hf, hx9016⟩ := map_of hf
                have e9016 := (Kr2 _ hx9016.symm).symm
                subst e9016
                refine lv_iload_n hx hb dX11_never_144 rfl (lv_at hl 2 rfl) ?_
                refine lv_iload hx hb dX11_never_145 (lv_at hl 4 rfl) ?_
                refine lv_if_eq (tgt := 156) hx hb dX11_never_147 (by decide) (fun c15 => ?_) (fun c15 => ?_)
                · have hf := (if_pos c15).symm.trans hf
                  refine lv_iconst (v := 0) hx hb dX11_never_156 (by decide) ?_
                  refine lv_ior hx hb dX11_never_157 ?_
                  refine lv_istore_n (lv' := [(2, .int (v2 ||| (0 : Int32))), (0, .ref (ad 0)), (1, .int v1), (3, .int v3), (4, .int v4), (5, .int v5)]) hx hb dX11_never_158 rfl hl (by decide) rfl (fun ls hl => ?_)
                  refine lv_iinc (v := (v3 + (1 : Int32))) (lv' := [(3, .int (v3 + (1 : Int32))), (2, .int (v2 ||| (0 : Int32))), (0, .ref (ad 0)), (1, .int v1), (4, .int v4), (5, .int v5)]) hx hb dX11_never_159 hl (k := 3) rfl rfl (by decide) rfl (fun ls hl => ?_)
                  refine lv_goto (tgt := 24) hx hb dX11_never_162 (by decide) ?_
                  obtain rfl := Option.some.inj hf
                  exact Kl1 _ rfl _ _ _ hW (lv_sub hl [2, 3, 1, 0] rfl)
                · have hf := (if_neg c15).symm.trans hf
                  refine lv_iconst (v := 1) hx hb dX11_never_150 (by decide) ?_
                  refine lv_iload_n hx hb dX11_never_151 rfl (lv_at hl 3 rfl) ?_
                  refine lv_ishl hx hb dX11_never_152 ?_
                  refine lv_goto (tgt := 157) hx hb dX11_never_153 (by decide) ?_
                  refine lv_ior hx hb dX11_never_157 ?_
                  refine lv_istore_n (lv' := [(2, .int (v2 ||| ((1 : Int32) <<< (v3 &&& 31)))), (0, .ref (ad 0)), (1, .int v1), (3, .int v3), (4, .int v4), (5, .int v5)]) hx hb dX11_never_158 rfl hl (by decide) rfl (fun ls hl => ?_)
                  refine lv_iinc (v := (v3 + (1 : Int32))) (lv' := [(3, .int (v3 + (1 : Int32))), (2, .int (v2 ||| ((1 : Int32) <<< (v3 &&& 31)))), (0, .ref (ad 0)), (1, .int v1), (4, .int v4), (5, .int v5)]) hx hb dX11_never_159 hl (k := 3) rfl rfl (by decide) rfl (fun ls hl => ?_)
                  refine lv_goto (tgt := 24) hx hb dX11_never_162 (by decide) ?_
                  obtain rfl := Option.some.inj hf
                  exact Kl1 _ rfl _ _ _ hW (lv_sub hl [2, 3, 1, 0] rfl)
              · have hf := (if_neg c14).symm.trans hf
                refine lv_iload hx hb dX11_never_81 (lv_at hl 4 rfl) ?_
                refine lv_if_eq (tgt := 135) hx hb dX11_never_83 (by decide) (fun c17 => ?_) (fun c17 => ?_)
                · have hf := (if_pos c17).symm.trans hf
                  refine lv_iconst (v := 0) hx hb dX11_never_135 (by decide) ?_
                  refine lv_istore (lv' := [(4, .int (0 : Int32)), (0, .ref (ad 0)), (1, .int v1), (2, .int v2), (3, .int v3), (5, .int v5)]) hx hb dX11_never_136 hl (by decide) rfl (fun ls hl => ?_)
                  refine lv_iinc (v := (v5 + (1 : Int32))) (lv' := [(5, .int (v5 + (1 : Int32))), (4, .int (0 : Int32)), (0, .ref (ad 0)), (1, .int v1), (2, .int v2), (3, .int v3)]) hx hb dX11_never_138 hl (k := 5) rfl rfl (by decide) rfl (fun ls hl => ?_)
                  refine lv_goto (tgt := 72) hx hb dX11_never_141 (by decide) ?_
                  obtain rfl := Option.some.inj hf
                  exact Kl2 _ rfl _ _ _ hW (lv_sub hl [2, 3, 4, 5, 1, 0] rfl)
                · have hf := (if_neg c17).symm.trans hf
                  refine lv_aload_n hx hb dX11_never_86 rfl (lv_at hl 0 rfl) ?_
                  refine lv_iload hx hb dX11_never_87 (lv_at hl 5 rfl) ?_
                  obtain ⟨x89, h89, hf⟩ := bd_of hf
                  refine r_callV (k := ((0, 0) : Ky)) C hW hl lk_X11_128 (c_X11_isLeft h89) ⟨rfl, rfl⟩ ⟨Nat.le_of_ble_eq_true rfl, Nat.le_of_ble_eq_true rfl⟩ rfl rfl rfl (As := [.int v5]) (rest := []) rfl rfl (Nat.le_of_ble_eq_true rfl) dX11_never_89 ⟨Nat.zero_le _, Nat.zero_le _⟩ (fun H locs hW => ?_)
                  show W p l e (rmq 6 150) s m args below meth c H locs 0 0 Q (F0 m 92 ls [.int x89])
                  refine lv_if_eq (tgt := 131) hx hb dX11_never_92 (by decide) (fun c19 => ?_) (fun c19 => ?_)
                  · have hf := (if_pos c19).symm.trans hf
                    refine lv_iconst (v := 1) hx hb dX11_never_131 (by decide) ?_
                    refine lv_goto (tgt := 136) hx hb dX11_never_132 (by decide) ?_
                    refine lv_istore (lv' := [(4, .int (1 : Int32)), (0, .ref (ad 0)), (1, .int v1), (2, .int v2), (3, .int v3), (5, .int v5)]) hx hb dX11_never_136 hl (by decide) rfl (fun ls hl => ?_)
                    refine lv_iinc (v := (v5 + (1 : Int32))) (lv' := [(5, .int (v5 + (1 : Int32))), (4, .int (1 : Int32)), (0, .ref (ad 0)), (1, .int v1), (2, .int v2), (3, .int v3)]) hx hb dX11_never_138 hl (k := 5) rfl rfl (by decide) rfl (fun ls hl => ?_)
                    refine lv_goto (tgt := 72) hx hb dX11_never_141 (by decide) ?_
                    obtain rfl := Option.some.inj hf
                    exact Kl2 _ rfl _ _ _ hW (lv_sub hl [2, 3, 4, 5, 1, 0] rfl)
                  · have hf := (if_neg c19).symm.trans hf
                    refine lv_aload_n hx hb dX11_never_95 rfl (lv_at hl 0 rfl) ?_
                    refine gf_X11_30 C hW dX11_never_96 ?_
                    refine lv_aload_n hx hb dX11_never_99 rfl (lv_at hl 0 rfl) ?_
                    refine lv_iload_n hx hb dX11_never_100 rfl (lv_at hl 1 rfl) ?_
                    refine lv_iload hx hb dX11_never_101 (lv_at hl 5 rfl) ?_
                    obtain ⟨x103, h103, hf⟩ := bd_of hf
                    refine r_callV (k := ((0, 0) : Ky)) C hW hl lk_X11_132 (c_X11_label h103) ⟨rfl, rfl⟩ ⟨Nat.le_of_ble_eq_true rfl, Nat.le_of_ble_eq_true rfl⟩ rfl rfl rfl (As := [.int v1, .int v5]) (rest := [.ref (ad 8)]) rfl rfl (Nat.le_of_ble_eq_true rfl) dX11_never_103 ⟨Nat.zero_le _, Nat.zero_le _⟩ (fun H locs hW => ?_)
                    show W p l e (rmq 6 150) s m args below meth c H locs 0 0 Q (F0 m 106 ls [.int x103, .ref (ad 8)])
                    obtain ⟨hi21, hf⟩ := ck_of hf
                    refine r_iald (k := ((8, 0) : Ky)) (n := 512) C hW rfl rfl hi21 dX11_never_106 ?_
                    obtain ⟨x107, h107, hf⟩ := bd_of hf
                    refine r_callS C hW hl lk_X11_143 (c_X11_isOne h107) ⟨rfl, rfl⟩ ⟨Nat.le_of_ble_eq_true rfl, Nat.le_of_ble_eq_true rfl⟩ (As := [.int (μ (8, 0) x103.toNatClampNeg)]) (rest := []) rfl rfl (Nat.le_of_ble_eq_true rfl) dX11_never_107 ⟨Nat.zero_le _, Nat.zero_le _⟩ (fun H locs hW => ?_)
                    show W p l e (rmq 6 150) s m args below meth c H locs 0 0 Q (F0 m 110 ls [.int x107])
                    refine lv_if_ne (tgt := 131) hx hb dX11_never_110 (by decide) (fun c23 => ?_) (fun c23 => ?_)
                    · have hf := (if_neg c23).symm.trans hf
                      refine lv_iconst (v := 1) hx hb dX11_never_131 (by decide) ?_
                      refine lv_goto (tgt := 136) hx hb dX11_never_132 (by decide) ?_
                      refine lv_istore (lv' := [(4, .int (1 : Int32)), (0, .ref (ad 0)), (1, .int v1), (2, .int v2), (3, .int v3), (5, .int v5)]) hx hb dX11_never_136 hl (by decide) rfl (fun ls hl => ?_)
                      refine lv_iinc (v := (v5 + (1 : Int32))) (lv' := [(5, .int (v5 + (1 : Int32))), (4, .int (1 : Int32)), (0, .ref (ad 0)), (1, .int v1), (2, .int v2), (3, .int v3)]) hx hb dX11_never_138 hl (k := 5) rfl rfl (by decide) rfl (fun ls hl => ?_)
                      refine lv_goto (tgt := 72) hx hb dX11_never_141 (by decide) ?_
                      obtain rfl := Option.some.inj hf
                      exact Kl2 _ rfl _ _ _ hW (lv_sub hl [2, 3, 4, 5, 1, 0] rfl)
                    · have hf := (if_pos c23).symm.trans hf
                      refine lv_aload_n hx hb dX11_never_113 rfl (lv_at hl 0 rfl) ?_
                      refine gf_X11_71 C hW dX11_never_114 ?_
                      refine lv_aload_n hx hb dX11_never_117 rfl (lv_at hl 0 rfl) ?_
                      refine lv_iload_n hx hb dX11_never_118 rfl (lv_at hl 1 rfl) ?_
                      refine lv_iload hx hb dX11_never_119 (lv_at hl 5 rfl) ?_
                      obtain ⟨x121, h121, hf⟩ := bd_of hf
                      refine r_callV (k := ((0, 0) : Ky)) C hW hl lk_X11_424 (c_X11_maskAt h121) ⟨rfl, rfl⟩ ⟨Nat.le_of_ble_eq_true rfl, Nat.le_of_ble_eq_true rfl⟩ rfl rfl rfl (As := [.int v1, .int v5]) (rest := [.ref (ad 29)]) rfl rfl (Nat.le_of_ble_eq_true rfl) dX11_never_121 ⟨Nat.zero_le _, Nat.zero_le _⟩ (fun H locs hW => ?_)
                      show W p l e (rmq 6 150) s m args below meth c H locs 0 0 Q (F0 m 124 ls [.int x121, .ref (ad 29)])
                      obtain ⟨hi25, hf⟩ := ck_of hf
                      refine r_iald (k := ((29, 0) : Ky)) (n := 4096) C hW rfl rfl hi25 dX11_never_124 ?_
                      obtain ⟨x125, h125, hf⟩ := bd_of hf
                      refine r_callS C hW hl lk_X11_143 (c_X11_isOne h125) ⟨rfl, rfl⟩ ⟨Nat.le_of_ble_eq_true rfl, Nat.le_of_ble_eq_true rfl⟩ (As := [.int (μ (29, 0) x121.toNatClampNeg)]) (rest := []) rfl rfl (Nat.le_of_ble_eq_true rfl) dX11_never_125 ⟨Nat.zero_le _, Nat.zero_le _⟩ (fun H locs hW => ?_)
                      show W p l e (rmq 6 150) s m args below meth c H locs 0 0 Q (F0 m 128 ls [.int x125])
                      refine lv_if_ne (tgt := 135) hx hb dX11_never_128 (by decide) (fun c27 => ?_) (fun c27 => ?_)
                      · have hf := (if_neg c27).symm.trans hf
                        refine lv_iconst (v := 0) hx hb dX11_never_135 (by decide) ?_
                        refine lv_istore (lv' := [(4, .int (0 : Int32)), (0, .ref (ad 0)), (1, .int v1), (2, .int v2), (3, .int v3), (5, .int v5)]) hx hb dX11_never_136 hl (by decide) rfl (fun ls hl => ?_)
                        refine lv_iinc (v := (v5 + (1 : Int32))) (lv' := [(5, .int (v5 + (1 : Int32))), (4, .int (0 : Int32)), (0, .ref (ad 0)), (1, .int v1), (2, .int v2), (3, .int v3)]) hx hb dX11_never_138 hl (k := 5) rfl rfl (by decide) rfl (fun ls hl => ?_)
                        refine lv_goto (tgt := 72) hx hb dX11_never_141 (by decide) ?_
                        obtain rfl := Option.some.inj hf
                        exact Kl2 _ rfl _ _ _ hW (lv_sub hl [2, 3, 4, 5, 1, 0] rfl)
                      · have hf := (if_pos c27).symm.trans hf
                        refine lv_iconst (v := 1) hx hb dX11_never_131 (by decide) ?_
                        refine lv_goto (tgt := 136) hx hb dX11_never_132 (by decide) ?_
                        refine lv_istore (lv' := [(4, .int (1 : Int32)), (0, .ref (ad 0)), (1, .int v1), (2, .int v2), (3, .int v3), (5, .int v5)]) hx hb dX11_never_136 hl (by decide) rfl (fun ls hl => ?_)
                        refine lv_iinc (v := (v5 + (1 : Int32))) (lv' := [(5, .int (v5 + (1 : Int32))), (4, .int (1 : Int32)), (0, .ref (ad 0)), (1, .int v1), (2, .int v2), (3, .int v3)]) hx hb dX11_never_138 hl (k := 5) rfl rfl (by decide) rfl (fun ls hl => ?_)
                        refine lv_goto (tgt := 72) hx hb dX11_never_141 (by decide) ?_
                        obtain rfl := Option.some.inj hf
                        exact Kl2 _ rfl _ _ _ hW (lv_sub hl [2, 3, 4, 5, 1, 0] rfl)
            exact L72 x63 v2 v3 (1 : Int32) (0 : Int32) _ _ _ hf hW (lv_sub hl [2, 3, 4, 5, 1, 0] rfl)
          · have hf := (if_pos c9).symm.trans hf
            refine lv_goto (tgt := 159) hx hb dX11_never_46 (by decide) ?_
            refine lv_iinc (v := (v3 + (1 : Int32))) (lv' := [(3, .int (v3 + (1 : Int32))), (0, .ref (ad 0)), (1, .int v1), (2, .int v2)]) hx hb dX11_never_159 hl (k := 3) rfl rfl (by decide) rfl (fun ls hl => ?_)
            refine lv_goto (tgt := 24) hx hb dX11_never_162 (by decide) ?_
            obtain rfl := Option.some.inj hf
            exact Kl1 _ rfl _ _ _ hW (lv_sub hl [1, 2, 3, 0] rfl)
    exact L24 x12.2 (0 : Int32) (0 : Int32) _ _ _ hf hW (lv_sub hl [2, 3, 1, 0] rfl)
  · have hf := (if_neg c3).symm.trans hf
    refine lv_iconst (v := 0) hx hb dX11_never_18 (by decide) ?_
    obtain rfl := Option.some.inj hf
    rw [hQ]
    exact r_iret C hr hk hW rfl rfl dX11_never_19
set_option maxHeartbeats 4000000 in
set_option maxRecDepth 100000 in
theorem c_X11_questionFor {l : Launch} {D : va_G} {tc : Nat → ClassId} {ro : Ro} {ad : Nat → Nat} {μ : Mm} {v1 : Int32} {res : Int32 × Mm} (hf : f_X11_questionFor μ v1 = some res) : Ct l D tc ro (faM ad) (feM tc ad) yX11_questionFor cX11_questionFor 7 (some .int) (rmq 5 112) [.ref (ad 0), .int v1] μ (some (.int res.1)) res.2 := by
  refine Ct.of (by decide) (Nat.le_of_ble_eq_true rfl) (fun p e s m args below meth c A C hr hk hW ls hl => ?_)
  have hx := C.1.1
  have hb := C.1.2.1
  obtain ⟨Q, hQ⟩ : ∃ Q, Q = MQ below (Ctq D (faM ad) (feM tc ad) (some (.int res.1)) res.2 A) args s 0 0 A := ⟨_, rfl⟩
  rw [← hQ]
  have hl : lv_has ls 7 [(0, .ref (ad 0)), (1, .int v1)] := hl
  unfold f_X11_questionFor at hf
  refine lv_aload_n hx hb dX11_questionFor_0 rfl (lv_at hl 0 rfl) ?_
  refine lv_iload_n hx hb dX11_questionFor_1 rfl (lv_at hl 1 rfl) ?_
  refine lv_aload_n hx hb dX11_questionFor_2 rfl (lv_at hl 0 rfl) ?_
  obtain ⟨x3, h3, hf⟩ := bd_of hf
  refine r_callV (k := ((0, 0) : Ky)) C hW hl lk_X11_121 (c_X11_here h3) ⟨rfl, rfl⟩ ⟨Nat.le_of_ble_eq_true rfl, Nat.le_of_ble_eq_true rfl⟩ rfl rfl rfl (As := []) (rest := [.int v1, .ref (ad 0)]) rfl rfl (Nat.le_of_ble_eq_true rfl) dX11_questionFor_3 ⟨Nat.zero_le _, Nat.zero_le _⟩ (fun H locs hW => ?_)
  show W p l e (rmq 5 112) s m args below meth c H locs 0 0 Q (F0 m 6 ls [.int x3, .int v1, .ref (ad 0)])
  obtain ⟨x6, h6, hf⟩ := bd_of hf
  refine r_callV (k := ((0, 0) : Ky)) C hW hl lk_X11_146 (c_X11_isSure h6) ⟨rfl, rfl⟩ ⟨Nat.le_of_ble_eq_true rfl, Nat.le_of_ble_eq_true rfl⟩ rfl rfl rfl (As := [.int v1, .int x3]) (rest := []) rfl rfl (Nat.le_of_ble_eq_true rfl) dX11_questionFor_6 ⟨Nat.zero_le _, Nat.zero_le _⟩ (fun H locs hW => ?_)
  show W p l e (rmq 5 112) s m args below meth c H locs 0 0 Q (F0 m 9 ls [.int x6.1])
  refine lv_if_eq (tgt := 14) hx hb dX11_questionFor_9 (by decide) (fun c3 => ?_) (fun c3 => ?_)
  · have hf := (if_pos c3).symm.trans hf
    refine lv_iconst (v := 0) hx hb dX11_questionFor_14 (by decide) ?_
    refine lv_istore_n (lv' := [(2, .int (0 : Int32)), (0, .ref (ad 0)), (1, .int v1)]) hx hb dX11_questionFor_15 rfl hl (by decide) rfl (fun ls hl => ?_)
    have L16 : ∀ (μ : Mm) (v2 : Int32) (H : Heap) (locs : List Loc) (ls : Array Slot), Wh (fun z : Mm × Int32 => f_X11_questionFor_L16 v1 z.1 z.2) (μ, v2) = some res → Wd D (faM ad) (feM tc ad) A s.heap μ H locs → lv_has ls 7 [(0, .ref (ad 0)), (1, .int v1), (2, .int v2)] → W p l e (rmq 5 112) s m args below meth c H locs 0 0 Q (F0 m 16 ls []) := by
      intro μ v2 H locs ls hf hW hl
      refine Wh_rule hf (fun z : Mm × Int32 => ∀ (H : Heap) (locs : List Loc) (ls : Array Slot), Wd D (faM ad) (feM tc ad) A s.heap z.1 H locs → lv_has ls 7 [(0, .ref (ad 0)), (1, .int v1), (2, .int z.2)] → W p l e (rmq 5 112) s m args below meth c H locs 0 0 Q (F0 m 16 ls [])) (fun z o1 hf Kl1 Kr1 => ?_) _ _ _ hW hl
      obtain ⟨μ, v2⟩ := z
      intro H locs ls hW hl
      have hf : f_X11_questionFor_L16 v1 μ v2 = some o1 := hf
      unfold f_X11_questionFor_L16 at hf
      have hW : Wd D (faM ad) (feM tc ad) A s.heap μ H locs := hW
      have hl : lv_has ls 7 [(0, .ref (ad 0)), (1, .int v1), (2, .int v2)] := hl
      refine lv_iload_n hx hb dX11_questionFor_16 rfl (lv_at hl 2 rfl) ?_
      refine lv_aload_n hx hb dX11_questionFor_17 rfl (lv_at hl 0 rfl) ?_
      obtain ⟨x18, h18, hf⟩ := bd_of hf
      refine r_callV (k := ((0, 0) : Ky)) C hW hl lk_X11_107 (c_X11_people h18) ⟨rfl, rfl⟩ ⟨Nat.le_of_ble_eq_true rfl, Nat.le_of_ble_eq_true rfl⟩ rfl rfl rfl (As := []) (rest := [.int v2]) rfl rfl (Nat.le_of_ble_eq_true rfl) dX11_questionFor_18 ⟨Nat.zero_le _, Nat.zero_le _⟩ (fun H locs hW => ?_)
      show W p l e (rmq 5 112) s m args below meth c H locs 0 0 Q (F0 m 21 ls [.int x18, .int v2])
      refine lv_icmp_ge (tgt := 192) hx hb dX11_questionFor_21 (by decide) (fun c5 => ?_) (fun c5 => ?_)
      · have hf := (if_pos c5).symm.trans hf
        obtain ⟨x9006, hf, hx9006⟩ := map_of hf
        have e9006 := (Kr1 _ hx9006.symm).symm
        subst e9006
        refine lv_iconst (v := -1) hx hb dX11_questionFor_192 (by decide) ?_
        obtain rfl := Option.some.inj hf
        rw [hQ]
        exact r_iret C hr hk hW rfl rfl dX11_questionFor_193
      · have hf := (if_neg c5).symm.trans hf
        refine lv_iconst (v := 0) hx hb dX11_questionFor_24 (by decide) ?_
        refine lv_istore_n (lv' := [(3, .int (0 : Int32)), (0, .ref (ad 0)), (1, .int v1), (2, .int v2)]) hx hb dX11_questionFor_25 rfl hl (by decide) rfl (fun ls hl => ?_)
        have L26 : ∀ (μ : Mm) (v2 v3 : Int32) (H : Heap) (locs : List Loc) (ls : Array Slot), Wh (fun z : Mm × Int32 => f_X11_questionFor_L26 v1 v2 z.1 z.2) (μ, v3) = some o1 → Wd D (faM ad) (feM tc ad) A s.heap μ H locs → lv_has ls 7 [(0, .ref (ad 0)), (1, .int v1), (2, .int v2), (3, .int v3)] → W p l e (rmq 5 112) s m args below meth c H locs 0 0 Q (F0 m 26 ls []) := by
          intro μ v2 v3 H locs ls hf hW hl
          refine Wh_rule hf (fun z : Mm × Int32 => ∀ (H : Heap) (locs : List Loc) (ls : Array Slot), Wd D (faM ad) (feM tc ad) A s.heap z.1 H locs → lv_has ls 7 [(0, .ref (ad 0)), (1, .int v1), (2, .int v2), (3, .int z.2)] → W p l e (rmq 5 112) s m args below meth c H locs 0 0 Q (F0 m 26 ls [])) (fun z o2 hf Kl2 Kr2 => ?_) _ _ _ hW hl
          obtain ⟨μ, v3⟩ := z
          intro H locs ls hW hl
          have hf : f_X11_questionFor_L26 v1 v2 μ v3 = some o2 := hf
          unfold f_X11_questionFor_L26 at hf
          have hW : Wd D (faM ad) (feM tc ad) A s.heap μ H locs := hW
          have hl : lv_has ls 7 [(0, .ref (ad 0)), (1, .int v1), (2, .int v2), (3, .int v3)] := hl
          refine lv_iload_n hx hb dX11_questionFor_26 rfl (lv_at hl 3 rfl) ?_
          refine lv_aload_n hx hb dX11_questionFor_27 rfl (lv_at hl 0 rfl) ?_
          obtain ⟨x28, h28, hf⟩ := bd_of hf
          refine r_callV (k := ((0, 0) : Ky)) C hW hl lk_X11_107 (c_X11_people h28) ⟨rfl, rfl⟩ ⟨Nat.le_of_ble_eq_true rfl, Nat.le_of_ble_eq_true rfl⟩ rfl rfl rfl (As := []) (rest := [.int v3]) rfl rfl (Nat.le_of_ble_eq_true rfl) dX11_questionFor_28 ⟨Nat.zero_le _, Nat.zero_le _⟩ (fun H locs hW => ?_)
          show W p l e (rmq 5 112) s m args below meth c H locs 0 0 Q (F0 m 31 ls [.int x28, .int v3])
          refine lv_icmp_ge (tgt := 186) hx hb dX11_questionFor_31 (by decide) (fun c8 => ?_) (fun c8 => ?_)
          · have hf := (if_pos c8).symm.trans hf
            obtain ⟨x9009, hf, hx9009⟩ := map_of hf
            have e9009 := (Kr2 _ hx9009.symm).symm
            subst e9009
            refine lv_iinc (v := (v2 + (1 : Int32))) (lv' := [(2, .int (v2 + (1 : Int32))), (0, .ref (ad 0)), (1, .int v1), (3, .int v3)]) hx hb dX11_questionFor_186 hl (k := 2) rfl rfl (by decide) rfl (fun ls hl => ?_)
            refine lv_goto (tgt := 16) hx hb dX11_questionFor_189 (by decide) ?_
            obtain rfl := Option.some.inj hf
            exact Kl1 _ rfl _ _ _ hW (lv_sub hl [1, 2, 0] rfl)
          · have hf := (if_neg c8).symm.trans hf
            refine lv_iconst (v := 0) hx hb dX11_questionFor_34 (by decide) ?_
            refine lv_istore (lv' := [(4, .int (0 : Int32)), (0, .ref (ad 0)), (1, .int v1), (2, .int v2), (3, .int v3)]) hx hb dX11_questionFor_35 hl (by decide) rfl (fun ls hl => ?_)
            have L37 : ∀ (μ : Mm) (v3 v4 : Int32) (H : Heap) (locs : List Loc) (ls : Array Slot), Wh (fun z : Mm × Int32 => f_X11_questionFor_L37 v1 v2 v3 z.1 z.2) (μ, v4) = some o2 → Wd D (faM ad) (feM tc ad) A s.heap μ H locs → lv_has ls 7 [(0, .ref (ad 0)), (1, .int v1), (2, .int v2), (3, .int v3), (4, .int v4)] → W p l e (rmq 5 112) s m args below meth c H locs 0 0 Q (F0 m 37 ls []) := by
              intro μ v3 v4 H locs ls hf hW hl
              refine Wh_rule hf (fun z : Mm × Int32 => ∀ (H : Heap) (locs : List Loc) (ls : Array Slot), Wd D (faM ad) (feM tc ad) A s.heap z.1 H locs → lv_has ls 7 [(0, .ref (ad 0)), (1, .int v1), (2, .int v2), (3, .int v3), (4, .int z.2)] → W p l e (rmq 5 112) s m args below meth c H locs 0 0 Q (F0 m 37 ls [])) (fun z o3 hf Kl3 Kr3 => ?_) _ _ _ hW hl
              obtain ⟨μ, v4⟩ := z
              intro H locs ls hW hl
              have hf : f_X11_questionFor_L37 v1 v2 v3 μ v4 = some o3 := hf
              unfold f_X11_questionFor_L37 at hf
              have hW : Wd D (faM ad) (feM tc ad) A s.heap μ H locs := hW
              have hl : lv_has ls 7 [(0, .ref (ad 0)), (1, .int v1), (2, .int v2), (3, .int v3), (4, .int v4)] := hl
              refine lv_iload hx hb dX11_questionFor_37 (lv_at hl 4 rfl) ?_
              refine lv_aload_n hx hb dX11_questionFor_39 rfl (lv_at hl 0 rfl) ?_
              obtain ⟨x40, h40, hf⟩ := bd_of hf
              refine r_callV (k := ((0, 0) : Ky)) C hW hl lk_X11_118 (c_X11_values h40) ⟨rfl, rfl⟩ ⟨Nat.le_of_ble_eq_true rfl, Nat.le_of_ble_eq_true rfl⟩ rfl rfl rfl (As := []) (rest := [.int v4]) rfl rfl (Nat.le_of_ble_eq_true rfl) dX11_questionFor_40 ⟨Nat.zero_le _, Nat.zero_le _⟩ (fun H locs hW => ?_)
              show W p l e (rmq 5 112) s m args below meth c H locs 0 0 Q (F0 m 43 ls [.int x40, .int v4])
              refine lv_icmp_ge (tgt := 180) hx hb dX11_questionFor_43 (by decide) (fun c11 => ?_) (fun c11 => ?_)
              · have hf := (if_pos c11).symm.trans hf
                obtain ⟨x9012, hf, hx9012⟩ := map_of hf
                have e9012 := (Kr3 _ hx9012.symm).symm
                subst e9012
                refine lv_iinc (v := (v3 + (1 : Int32))) (lv' := [(3, .int (v3 + (1 : Int32))), (0, .ref (ad 0)), (1, .int v1), (2, .int v2), (4, .int v4)]) hx hb dX11_questionFor_180 hl (k := 3) rfl rfl (by decide) rfl (fun ls hl => ?_)
                refine lv_goto (tgt := 26) hx hb dX11_questionFor_183 (by decide) ?_
                obtain rfl := Option.some.inj hf
                exact Kl2 _ rfl _ _ _ hW (lv_sub hl [1, 2, 3, 0] rfl)
              · have hf := (if_neg c11).symm.trans hf
                refine lv_iload_n hx hb dX11_questionFor_46 rfl (lv_at hl 2 rfl) ?_
                refine lv_iload_n hx hb dX11_questionFor_47 rfl (lv_at hl 1 rfl) ?_
                refine lv_icmp_eq (tgt := 174) hx hb dX11_questionFor_48 (by decide) (fun c13 => ?_) (fun c13 => ?_)
                · have hf := (if_pos c13).symm.trans hf
                  refine lv_iinc (v := (v4 + (1 : Int32))) (lv' := [(4, .int (v4 + (1 : Int32))), (0, .ref (ad 0)), (1, .int v1), (2, .int v2), (3, .int v3)]) hx hb dX11_questionFor_174 hl (k := 4) rfl rfl (by decide) rfl (fun ls hl => ?_)
                  refine lv_goto (tgt := 37) hx hb dX11_questionFor_177 (by decide) ?_
                  obtain rfl := Option.some.inj hf
                  exact Kl3 _ rfl _ _ _ hW (lv_sub hl [1, 2, 3, 4, 0] rfl)
                · have hf := (if_neg c13).symm.trans hf
                  refine lv_iload_n hx hb dX11_questionFor_51 rfl (lv_at hl 3 rfl) ?_
                  refine lv_iload_n hx hb dX11_questionFor_52 rfl (lv_at hl 1 rfl) ?_
                  refine lv_icmp_ne (tgt := 59) hx hb dX11_questionFor_53 (by decide) (fun c14 => ?_) (fun c14 => ?_)
                  · have hf := (if_neg c14).symm.trans hf
                    refine lv_aload_n hx hb dX11_questionFor_59 rfl (lv_at hl 0 rfl) ?_
                    refine lv_iload_n hx hb dX11_questionFor_60 rfl (lv_at hl 2 rfl) ?_
                    refine lv_iload_n hx hb dX11_questionFor_61 rfl (lv_at hl 3 rfl) ?_
                    refine lv_iload hx hb dX11_questionFor_62 (lv_at hl 4 rfl) ?_
                    obtain ⟨x64, h64, hf⟩ := bd_of hf
                    refine r_callV (k := ((0, 0) : Ky)) C hW hl lk_X11_378 (c_X11_answersCome h64) ⟨rfl, rfl⟩ ⟨Nat.le_of_ble_eq_true rfl, Nat.le_of_ble_eq_true rfl⟩ rfl rfl rfl (As := [.int v2, .int v3, .int v4]) (rest := []) rfl rfl (Nat.le_of_ble_eq_true rfl) dX11_questionFor_64 ⟨Nat.zero_le _, Nat.zero_le _⟩ (fun H locs hW => ?_)
                    show W p l e (rmq 5 112) s m args below meth c H locs 0 0 Q (F0 m 67 ls [])
                    refine lv_iconst (v := 0) hx hb dX11_questionFor_67 (by decide) ?_
                    refine lv_istore (lv' := [(5, .int (0 : Int32)), (0, .ref (ad 0)), (1, .int v1), (2, .int v2), (3, .int v3), (4, .int v4)]) hx hb dX11_questionFor_68 hl (by decide) rfl (fun ls hl => ?_)
                    refine lv_iconst (v := 0) hx hb dX11_questionFor_70 (by decide) ?_
                    refine lv_istore (lv' := [(6, .int (0 : Int32)), (5, .int (0 : Int32)), (0, .ref (ad 0)), (1, .int v1), (2, .int v2), (3, .int v3), (4, .int v4)]) hx hb dX11_questionFor_71 hl (by decide) rfl (fun ls hl => ?_)
                    have L73 : ∀ (μ : Mm) (v4 v5 v6 : Int32) (H : Heap) (locs : List Loc) (ls : Array Slot), Wh (fun z : Int32 × Int32 => f_X11_questionFor_L73 v1 v2 v3 v4 μ z.1 z.2) (v5, v6) = some o3 → Wd D (faM ad) (feM tc ad) A s.heap μ H locs → lv_has ls 7 [(0, .ref (ad 0)), (1, .int v1), (2, .int v2), (3, .int v3), (4, .int v4), (5, .int v5), (6, .int v6)] → W p l e (rmq 5 112) s m args below meth c H locs 0 0 Q (F0 m 73 ls []) := by
                      intro μ v4 v5 v6 H locs ls hf hW hl
                      refine Wh_rule hf (fun z : Int32 × Int32 => ∀ (H : Heap) (locs : List Loc) (ls : Array Slot), Wd D (faM ad) (feM tc ad) A s.heap μ H locs → lv_has ls 7 [(0, .ref (ad 0)), (1, .int v1), (2, .int v2), (3, .int v3), (4, .int v4), (5, .int z.1), (6, .int z.2)] → W p l e (rmq 5 112) s m args below meth c H locs 0 0 Q (F0 m 73 ls [])) (fun z o4 hf Kl4 Kr4 => ?_) _ _ _ hW hl
                      obtain ⟨v5, v6⟩ := z
                      intro H locs ls hW hl
                      have hf : f_X11_questionFor_L73 v1 v2 v3 v4 μ v5 v6 = some o4 := hf
                      unfold f_X11_questionFor_L73 at hf
                      have hW : Wd D (faM ad) (feM tc ad) A s.heap μ H locs := hW
                      have hl : lv_has ls 7 [(0, .ref (ad 0)), (1, .int v1), (2, .int v2), (3, .int v3), (4, .int v4), (5, .int v5), (6, .int v6)] := hl
                      refine lv_iload hx hb dX11_questionFor_73 (lv_at hl 6 rfl) ?_
                      refine lv_aload_n hx hb dX11_questionFor_75 rfl (lv_at hl 0 rfl) ?_
                      obtain ⟨x76, h76, hf⟩ := bd_of hf
                      refine r_callV (k := ((0, 0) : Ky)) C hW hl lk_X11_115 (c_X11_worlds h76) ⟨rfl, rfl⟩ ⟨Nat.le_of_ble_eq_true rfl, Nat.le_of_ble_eq_true rfl⟩ rfl rfl rfl (As := []) (rest := [.int v6]) rfl rfl (Nat.le_of_ble_eq_true rfl) dX11_questionFor_76 ⟨Nat.zero_le _, Nat.zero_le _⟩ (fun H locs hW => ?_)
                      show W p l e (rmq 5 112) s m args below meth c H locs 0 0 Q (F0 m 79 ls [.int x76, .int v6])
                      refine lv_icmp_ge (tgt := 153) hx hb dX11_questionFor_79 (by decide) (fun c17 => ?_) (fun c17 => ?_)
                      · have hf := (if_pos c17).symm.trans hf
                        obtain ⟨x9023, hf, hx9023⟩ := map_of hf
                        have e9023 := (Kr4 _ hx9023.symm).symm
                        subst e9023
                        refine lv_iload hx hb dX11_questionFor_153 (lv_at hl 5 rfl) ?_
                        obtain ⟨x155, h155, hf⟩ := bd_of hf
                        refine r_callS C hW hl lk_X11_143 (c_X11_isOne h155) ⟨rfl, rfl⟩ ⟨Nat.le_of_ble_eq_true rfl, Nat.le_of_ble_eq_true rfl⟩ (As := [.int v5]) (rest := []) rfl rfl (Nat.le_of_ble_eq_true rfl) dX11_questionFor_155 ⟨Nat.zero_le _, Nat.zero_le _⟩ (fun H locs hW => ?_)
                        show W p l e (rmq 5 112) s m args below meth c H locs 0 0 Q (F0 m 158 ls [.int x155])
                        refine lv_if_eq (tgt := 174) hx hb dX11_questionFor_158 (by decide) (fun c19 => ?_) (fun c19 => ?_)
                        · have hf := (if_pos c19).symm.trans hf
                          refine lv_iinc (v := (v4 + (1 : Int32))) (lv' := [(4, .int (v4 + (1 : Int32))), (0, .ref (ad 0)), (1, .int v1), (2, .int v2), (3, .int v3), (5, .int v5), (6, .int v6)]) hx hb dX11_questionFor_174 hl (k := 4) rfl rfl (by decide) rfl (fun ls hl => ?_)
                          refine lv_goto (tgt := 37) hx hb dX11_questionFor_177 (by decide) ?_
                          obtain rfl := Option.some.inj hf
                          exact Kl3 _ rfl _ _ _ hW (lv_sub hl [1, 2, 3, 4, 0] rfl)
                        · have hf := (if_neg c19).symm.trans hf
                          obtain ⟨x9022, hf, hx9022⟩ := map_of hf
                          have e9022 := (Kr3 _ hx9022.symm).symm
                          subst e9022
                          obtain ⟨x9021, hf, hx9021⟩ := map_of hf
                          have e9021 := (Kr2 _ hx9021.symm).symm
                          subst e9021
                          obtain ⟨x9020, hf, hx9020⟩ := map_of hf
                          have e9020 := (Kr1 _ hx9020.symm).symm
                          subst e9020
                          refine lv_bipush (v := 100) hx hb dX11_questionFor_161 (by decide) ?_
                          refine lv_iload_n hx hb dX11_questionFor_163 rfl (lv_at hl 2 rfl) ?_
                          refine lv_imul hx hb dX11_questionFor_164 ?_
                          refine lv_bipush (v := 10) hx hb dX11_questionFor_165 (by decide) ?_
                          refine lv_iload_n hx hb dX11_questionFor_167 rfl (lv_at hl 3 rfl) ?_
                          refine lv_imul hx hb dX11_questionFor_168 ?_
                          refine lv_iadd hx hb dX11_questionFor_169 ?_
                          refine lv_iload hx hb dX11_questionFor_170 (lv_at hl 4 rfl) ?_
                          refine lv_iadd hx hb dX11_questionFor_172 ?_
                          obtain rfl := Option.some.inj hf
                          rw [hQ]
                          exact r_iret C hr hk hW rfl rfl dX11_questionFor_173
                      · have hf := (if_neg c17).symm.trans hf
                        refine lv_iload hx hb dX11_questionFor_82 (lv_at hl 5 rfl) ?_
                        refine lv_aload_n hx hb dX11_questionFor_84 rfl (lv_at hl 0 rfl) ?_
                        refine lv_iload hx hb dX11_questionFor_85 (lv_at hl 6 rfl) ?_
                        obtain ⟨x87, h87, hf⟩ := bd_of hf
                        refine r_callV (k := ((0, 0) : Ky)) C hW hl lk_X11_128 (c_X11_isLeft h87) ⟨rfl, rfl⟩ ⟨Nat.le_of_ble_eq_true rfl, Nat.le_of_ble_eq_true rfl⟩ rfl rfl rfl (As := [.int v6]) (rest := [.int v5]) rfl rfl (Nat.le_of_ble_eq_true rfl) dX11_questionFor_87 ⟨Nat.zero_le _, Nat.zero_le _⟩ (fun H locs hW => ?_)
                        show W p l e (rmq 5 112) s m args below meth c H locs 0 0 Q (F0 m 90 ls [.int x87, .int v5])
                        refine lv_if_eq (tgt := 143) hx hb dX11_questionFor_90 (by decide) (fun c25 => ?_) (fun c25 => ?_)
                        · have hf := (if_pos c25).symm.trans hf
                          refine lv_iconst (v := 0) hx hb dX11_questionFor_143 (by decide) ?_
                          refine lv_ior hx hb dX11_questionFor_144 ?_
                          refine lv_istore (lv' := [(5, .int (v5 ||| (0 : Int32))), (0, .ref (ad 0)), (1, .int v1), (2, .int v2), (3, .int v3), (4, .int v4), (6, .int v6)]) hx hb dX11_questionFor_145 hl (by decide) rfl (fun ls hl => ?_)
                          refine lv_iinc (v := (v6 + (1 : Int32))) (lv' := [(6, .int (v6 + (1 : Int32))), (5, .int (v5 ||| (0 : Int32))), (0, .ref (ad 0)), (1, .int v1), (2, .int v2), (3, .int v3), (4, .int v4)]) hx hb dX11_questionFor_147 hl (k := 6) rfl rfl (by decide) rfl (fun ls hl => ?_)
                          refine lv_goto (tgt := 73) hx hb dX11_questionFor_150 (by decide) ?_
                          obtain rfl := Option.some.inj hf
                          exact Kl4 _ rfl _ _ _ hW (lv_sub hl [2, 3, 4, 5, 6, 1, 0] rfl)
                        · have hf := (if_neg c25).symm.trans hf
                          refine lv_aload_n hx hb dX11_questionFor_93 rfl (lv_at hl 0 rfl) ?_
                          refine gf_X11_33 C hW dX11_questionFor_94 ?_
                          refine lv_iload hx hb dX11_questionFor_97 (lv_at hl 6 rfl) ?_
                          obtain ⟨hi26, hf⟩ := ck_of hf
                          refine r_iald (k := ((9, 0) : Ky)) (n := 512) C hW rfl rfl hi26 dX11_questionFor_99 ?_
                          refine lv_aload_n hx hb dX11_questionFor_100 rfl (lv_at hl 0 rfl) ?_
                          refine gf_X11_33 C hW dX11_questionFor_101 ?_
                          refine lv_aload_n hx hb dX11_questionFor_104 rfl (lv_at hl 0 rfl) ?_
                          obtain ⟨x105, h105, hf⟩ := bd_of hf
                          refine r_callV (k := ((0, 0) : Ky)) C hW hl lk_X11_121 (c_X11_here h105) ⟨rfl, rfl⟩ ⟨Nat.le_of_ble_eq_true rfl, Nat.le_of_ble_eq_true rfl⟩ rfl rfl rfl (As := []) (rest := [.ref (ad 9), .int (μ (9, 0) v6.toNatClampNeg), .int v5]) rfl rfl (Nat.le_of_ble_eq_true rfl) dX11_questionFor_105 ⟨Nat.zero_le _, Nat.zero_le _⟩ (fun H locs hW => ?_)
                          show W p l e (rmq 5 112) s m args below meth c H locs 0 0 Q (F0 m 108 ls [.int x105, .ref (ad 9), .int (μ (9, 0) v6.toNatClampNeg), .int v5])
                          obtain ⟨hi28, hf⟩ := ck_of hf
                          refine r_iald (k := ((9, 0) : Ky)) (n := 512) C hW rfl rfl hi28 dX11_questionFor_108 ?_
                          refine lv_icmp_ne (tgt := 143) hx hb dX11_questionFor_109 (by decide) (fun c29 => ?_) (fun c29 => ?_)
                          · have hf := (if_neg c29).symm.trans hf
                            refine lv_iconst (v := 0) hx hb dX11_questionFor_143 (by decide) ?_
                            refine lv_ior hx hb dX11_questionFor_144 ?_
                            refine lv_istore (lv' := [(5, .int (v5 ||| (0 : Int32))), (0, .ref (ad 0)), (1, .int v1), (2, .int v2), (3, .int v3), (4, .int v4), (6, .int v6)]) hx hb dX11_questionFor_145 hl (by decide) rfl (fun ls hl => ?_)
                            refine lv_iinc (v := (v6 + (1 : Int32))) (lv' := [(6, .int (v6 + (1 : Int32))), (5, .int (v5 ||| (0 : Int32))), (0, .ref (ad 0)), (1, .int v1), (2, .int v2), (3, .int v3), (4, .int v4)]) hx hb dX11_questionFor_147 hl (k := 6) rfl rfl (by decide) rfl (fun ls hl => ?_)
                            refine lv_goto (tgt := 73) hx hb dX11_questionFor_150 (by decide) ?_
                            obtain rfl := Option.some.inj hf
                            exact Kl4 _ rfl _ _ _ hW (lv_sub hl [2, 3, 4, 5, 6, 1, 0] rfl)
                          · have hf := (if_pos c29).symm.trans hf
                            refine lv_aload_n hx hb dX11_questionFor_112 rfl (lv_at hl 0 rfl) ?_
                            refine lv_iload_n hx hb dX11_questionFor_113 rfl (lv_at hl 1 rfl) ?_
                            refine lv_iload hx hb dX11_questionFor_114 (lv_at hl 6 rfl) ?_
                            obtain ⟨x116, h116, hf⟩ := bd_of hf
                            refine r_callV (k := ((0, 0) : Ky)) C hW hl lk_X11_132 (c_X11_label h116) ⟨rfl, rfl⟩ ⟨Nat.le_of_ble_eq_true rfl, Nat.le_of_ble_eq_true rfl⟩ rfl rfl rfl (As := [.int v1, .int v6]) (rest := [.int v5]) rfl rfl (Nat.le_of_ble_eq_true rfl) dX11_questionFor_116 ⟨Nat.zero_le _, Nat.zero_le _⟩ (fun H locs hW => ?_)
                            show W p l e (rmq 5 112) s m args below meth c H locs 0 0 Q (F0 m 119 ls [.int x116, .int v5])
                            refine lv_aload_n hx hb dX11_questionFor_119 rfl (lv_at hl 0 rfl) ?_
                            refine lv_iload_n hx hb dX11_questionFor_120 rfl (lv_at hl 1 rfl) ?_
                            refine lv_aload_n hx hb dX11_questionFor_121 rfl (lv_at hl 0 rfl) ?_
                            obtain ⟨x122, h122, hf⟩ := bd_of hf
                            refine r_callV (k := ((0, 0) : Ky)) C hW hl lk_X11_121 (c_X11_here h122) ⟨rfl, rfl⟩ ⟨Nat.le_of_ble_eq_true rfl, Nat.le_of_ble_eq_true rfl⟩ rfl rfl rfl (As := []) (rest := [.int v1, .ref (ad 0), .int x116, .int v5]) rfl rfl (Nat.le_of_ble_eq_true rfl) dX11_questionFor_122 ⟨Nat.zero_le _, Nat.zero_le _⟩ (fun H locs hW => ?_)
                            show W p l e (rmq 5 112) s m args below meth c H locs 0 0 Q (F0 m 125 ls [.int x122, .int v1, .ref (ad 0), .int x116, .int v5])
                            obtain ⟨x125, h125, hf⟩ := bd_of hf
                            refine r_callV (k := ((0, 0) : Ky)) C hW hl lk_X11_132 (c_X11_label h125) ⟨rfl, rfl⟩ ⟨Nat.le_of_ble_eq_true rfl, Nat.le_of_ble_eq_true rfl⟩ rfl rfl rfl (As := [.int v1, .int x122]) (rest := [.int x116, .int v5]) rfl rfl (Nat.le_of_ble_eq_true rfl) dX11_questionFor_125 ⟨Nat.zero_le _, Nat.zero_le _⟩ (fun H locs hW => ?_)
                            show W p l e (rmq 5 112) s m args below meth c H locs 0 0 Q (F0 m 128 ls [.int x125, .int x116, .int v5])
                            refine lv_icmp_ne (tgt := 143) hx hb dX11_questionFor_128 (by decide) (fun c33 => ?_) (fun c33 => ?_)
                            · have hf := (if_neg c33).symm.trans hf
                              refine lv_iconst (v := 0) hx hb dX11_questionFor_143 (by decide) ?_
                              refine lv_ior hx hb dX11_questionFor_144 ?_
                              refine lv_istore (lv' := [(5, .int (v5 ||| (0 : Int32))), (0, .ref (ad 0)), (1, .int v1), (2, .int v2), (3, .int v3), (4, .int v4), (6, .int v6)]) hx hb dX11_questionFor_145 hl (by decide) rfl (fun ls hl => ?_)
                              refine lv_iinc (v := (v6 + (1 : Int32))) (lv' := [(6, .int (v6 + (1 : Int32))), (5, .int (v5 ||| (0 : Int32))), (0, .ref (ad 0)), (1, .int v1), (2, .int v2), (3, .int v3), (4, .int v4)]) hx hb dX11_questionFor_147 hl (k := 6) rfl rfl (by decide) rfl (fun ls hl => ?_)
                              refine lv_goto (tgt := 73) hx hb dX11_questionFor_150 (by decide) ?_
                              obtain rfl := Option.some.inj hf
                              exact Kl4 _ rfl _ _ _ hW (lv_sub hl [2, 3, 4, 5, 6, 1, 0] rfl)
                            · have hf := (if_pos c33).symm.trans hf
                              refine lv_iconst (v := 1) hx hb dX11_questionFor_131 (by decide) ?_
                              refine lv_aload_n hx hb dX11_questionFor_132 rfl (lv_at hl 0 rfl) ?_
                              refine lv_iload_n hx hb dX11_questionFor_133 rfl (lv_at hl 1 rfl) ?_
                              refine lv_iload hx hb dX11_questionFor_134 (lv_at hl 6 rfl) ?_
                              obtain ⟨x136, h136, hf⟩ := bd_of hf
                              refine r_callV (k := ((0, 0) : Ky)) C hW hl lk_X11_124 (c_X11_noticeIn h136) ⟨rfl, rfl⟩ ⟨Nat.le_of_ble_eq_true rfl, Nat.le_of_ble_eq_true rfl⟩ rfl rfl rfl (As := [.int v1, .int v6]) (rest := [.int (1 : Int32), .int v5]) rfl rfl (Nat.le_of_ble_eq_true rfl) dX11_questionFor_136 ⟨Nat.zero_le _, Nat.zero_le _⟩ (fun H locs hW => ?_)
                              show W p l e (rmq 5 112) s m args below meth c H locs 0 0 Q (F0 m 139 ls [.int x136, .int (1 : Int32), .int v5])
                              refine lv_ishl hx hb dX11_questionFor_139 ?_
                              refine lv_goto (tgt := 144) hx hb dX11_questionFor_140 (by decide) ?_
                              refine lv_ior hx hb dX11_questionFor_144 ?_
                              refine lv_istore (lv' := [(5, .int (v5 ||| ((1 : Int32) <<< (x136 &&& 31)))), (0, .ref (ad 0)), (1, .int v1), (2, .int v2), (3, .int v3), (4, .int v4), (6, .int v6)]) hx hb dX11_questionFor_145 hl (by decide) rfl (fun ls hl => ?_)
                              refine lv_iinc (v := (v6 + (1 : Int32))) (lv' := [(6, .int (v6 + (1 : Int32))), (5, .int (v5 ||| ((1 : Int32) <<< (x136 &&& 31)))), (0, .ref (ad 0)), (1, .int v1), (2, .int v2), (3, .int v3), (4, .int v4)]) hx hb dX11_questionFor_147 hl (k := 6) rfl rfl (by decide) rfl (fun ls hl => ?_)
                              refine lv_goto (tgt := 73) hx hb dX11_questionFor_150 (by decide) ?_
                              obtain rfl := Option.some.inj hf
                              exact Kl4 _ rfl _ _ _ hW (lv_sub hl [2, 3, 4, 5, 6, 1, 0] rfl)
                    exact L73 x64 v4 (0 : Int32) (0 : Int32) _ _ _ hf hW (lv_sub hl [2, 3, 4, 5, 6, 1, 0] rfl)
                  · have hf := (if_pos c14).symm.trans hf
                    refine lv_goto (tgt := 174) hx hb dX11_questionFor_56 (by decide) ?_
                    refine lv_iinc (v := (v4 + (1 : Int32))) (lv' := [(4, .int (v4 + (1 : Int32))), (0, .ref (ad 0)), (1, .int v1), (2, .int v2), (3, .int v3)]) hx hb dX11_questionFor_174 hl (k := 4) rfl rfl (by decide) rfl (fun ls hl => ?_)
                    refine lv_goto (tgt := 37) hx hb dX11_questionFor_177 (by decide) ?_
                    obtain rfl := Option.some.inj hf
                    exact Kl3 _ rfl _ _ _ hW (lv_sub hl [1, 2, 3, 4, 0] rfl)
            exact L37 μ v3 (0 : Int32) _ _ _ hf hW (lv_sub hl [1, 2, 3, 4, 0] rfl)
        exact L26 μ v2 (0 : Int32) _ _ _ hf hW (lv_sub hl [1, 2, 3, 0] rfl)
    exact L16 x6.2 (0 : Int32) _ _ _ hf hW (lv_sub hl [1, 2, 0] rfl)
  · have hf := (if_neg c3).symm.trans hf
    refine lv_iconst (v := -1) hx hb dX11_questionFor_12 (by decide) ?_
    obtain rfl := Option.some.inj hf
    rw [hQ]
    exact r_iret C hr hk hW rfl rfl dX11_questionFor_13
