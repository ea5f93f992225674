set_option maxHeartbeats 4000000 in
set_option maxRecDepth 100000 in
theorem c_X11_guess {l : Launch} {D : va_G} {tc : Nat → ClassId} {ro : Ro} {ad : Nat → Nat} {μ : Mm} {v1 : Int32} {res : Int32 × Mm} (hf : f_X11_guess μ v1 = some res) : Ct l D tc ro (faM ad) (feM tc ad) yX11_guess cX11_guess 2 (some .int) (rmq 3 66) [.ref (ad 0), .int v1] μ (some (.int res.1)) res.2 := by
  refine Ct.of (by decide) (Nat.le_of_ble_eq_true rfl) (fun p e s m args below meth c A C hr hk hW ls hl => ?_)
  have hx := C.1.1
  have hb := C.1.2.1
  obtain ⟨Q, hQ⟩ : ∃ Q, Q = MQ below (Ctq D (faM ad) (feM tc ad) (some (.int res.1)) res.2 A) args s 0 0 A := ⟨_, rfl⟩
  rw [← hQ]
  have hl : lv_has ls 2 [(0, .ref (ad 0)), (1, .int v1)] := hl
  unfold f_X11_guess at hf
  refine lv_aload_n hx hb dX11_guess_0 rfl (lv_at hl 0 rfl) ?_
  refine lv_iconst (v := 0) hx hb dX11_guess_1 (by decide) ?_
  refine pf_X11_3 C hW dX11_guess_2 (fun H locs hW => ?_)
  refine lv_aload_n hx hb dX11_guess_5 rfl (lv_at hl 0 rfl) ?_
  refine lv_aload_n hx hb dX11_guess_6 rfl (lv_at hl 0 rfl) ?_
  refine lv_iload_n hx hb dX11_guess_7 rfl (lv_at hl 1 rfl) ?_
  obtain ⟨x8, h8, hf⟩ := bd_of hf
  refine r_callV (k := ((0, 0) : Ky)) C hW hl lk_X11_359 (c_X11_noPerson h8) ⟨rfl, rfl⟩ ⟨Nat.le_of_ble_eq_true rfl, Nat.le_of_ble_eq_true rfl⟩ rfl rfl rfl (As := [.int v1]) (rest := [.ref (ad 0)]) rfl rfl (Nat.le_of_ble_eq_true rfl) dX11_guess_8 ⟨Nat.zero_le _, Nat.zero_le _⟩ (fun H locs hW => ?_)
  show W p l e (rmq 3 66) s m args below meth c H locs 0 0 Q (F0 m 11 ls [.int x8, .ref (ad 0)])
  refine lv_iconst (v := 1) hx hb dX11_guess_11 (by decide) ?_
  obtain ⟨x12, h12, hf⟩ := bd_of hf
  refine r_callV (k := ((0, 0) : Ky)) C hW hl lk_X11_322 (c_X11_throwsIf h12) ⟨rfl, rfl⟩ ⟨Nat.le_of_ble_eq_true rfl, Nat.le_of_ble_eq_true rfl⟩ rfl rfl rfl (As := [.int x8, .int (1 : Int32)]) (rest := []) rfl rfl (Nat.le_of_ble_eq_true rfl) dX11_guess_12 ⟨Nat.zero_le _, Nat.zero_le _⟩ (fun H locs hW => ?_)
  show W p l e (rmq 3 66) s m args below meth c H locs 0 0 Q (F0 m 15 ls [.int x12.1])
  refine lv_if_eq (tgt := 20) hx hb dX11_guess_15 (by decide) (fun c3 => ?_) (fun c3 => ?_)
  · have hf := (if_pos c3).symm.trans hf
    refine lv_aload_n hx hb dX11_guess_20 rfl (lv_at hl 0 rfl) ?_
    refine lv_iload_n hx hb dX11_guess_21 rfl (lv_at hl 1 rfl) ?_
    obtain ⟨x22, h22, hf⟩ := bd_of hf
    refine r_callV (k := ((0, 0) : Ky)) C hW hl lk_X11_451 (c_X11_laysVotes h22) ⟨rfl, rfl⟩ ⟨Nat.le_of_ble_eq_true rfl, Nat.le_of_ble_eq_true rfl⟩ rfl rfl rfl (As := [.int v1]) (rest := []) rfl rfl (Nat.le_of_ble_eq_true rfl) dX11_guess_22 ⟨Nat.zero_le _, Nat.zero_le _⟩ (fun H locs hW => ?_)
    show W p l e (rmq 3 66) s m args below meth c H locs 0 0 Q (F0 m 25 ls [])
    refine lv_aload_n hx hb dX11_guess_25 rfl (lv_at hl 0 rfl) ?_
    refine lv_iload_n hx hb dX11_guess_26 rfl (lv_at hl 1 rfl) ?_
    refine lv_aload_n hx hb dX11_guess_27 rfl (lv_at hl 0 rfl) ?_
    obtain ⟨x28, h28, hf⟩ := bd_of hf
    refine r_callV (k := ((0, 0) : Ky)) C hW hl lk_X11_121 (c_X11_here h28) ⟨rfl, rfl⟩ ⟨Nat.le_of_ble_eq_true rfl, Nat.le_of_ble_eq_true rfl⟩ rfl rfl rfl (As := []) (rest := [.int v1, .ref (ad 0)]) rfl rfl (Nat.le_of_ble_eq_true rfl) dX11_guess_28 ⟨Nat.zero_le _, Nat.zero_le _⟩ (fun H locs hW => ?_)
    show W p l e (rmq 3 66) s m args below meth c H locs 0 0 Q (F0 m 31 ls [.int x28, .int v1, .ref (ad 0)])
    obtain ⟨x31, h31, hf⟩ := bd_of hf
    refine r_callV (k := ((0, 0) : Ky)) C hW hl lk_X11_454 (c_X11_guessOf h31) ⟨rfl, rfl⟩ ⟨Nat.le_of_ble_eq_true rfl, Nat.le_of_ble_eq_true rfl⟩ rfl rfl rfl (As := [.int v1, .int x28]) (rest := []) rfl rfl (Nat.le_of_ble_eq_true rfl) dX11_guess_31 ⟨Nat.zero_le _, Nat.zero_le _⟩ (fun H locs hW => ?_)
    show W p l e (rmq 3 66) s m args below meth c H locs 0 0 Q (F0 m 34 ls [.int x31])
    obtain rfl := Option.some.inj hf
    rw [hQ]
    exact r_iret C hr hk hW rfl rfl dX11_guess_34
  · have hf := (if_neg c3).symm.trans hf
    refine lv_iconst (v := 0) hx hb dX11_guess_18 (by decide) ?_
    obtain rfl := Option.some.inj hf
    rw [hQ]
    exact r_iret C hr hk hW rfl rfl dX11_guess_19
set_option maxHeartbeats 4000000 in
set_option maxRecDepth 100000 in
theorem c_X11_right {l : Launch} {D : va_G} {tc : Nat → ClassId} {ro : Ro} {ad : Nat → Nat} {μ : Mm} {v1 : Int32} {res : Int32 × Mm} (hf : f_X11_right μ v1 = some res) : Ct l D tc ro (faM ad) (feM tc ad) yX11_right cX11_right 4 (some .int) (rmq 3 66) [.ref (ad 0), .int v1] μ (some (.int res.1)) res.2 := by
  refine Ct.of (by decide) (Nat.le_of_ble_eq_true rfl) (fun p e s m args below meth c A C hr hk hW ls hl => ?_)
  have hx := C.1.1
  have hb := C.1.2.1
  obtain ⟨Q, hQ⟩ : ∃ Q, Q = MQ below (Ctq D (faM ad) (feM tc ad) (some (.int res.1)) res.2 A) args s 0 0 A := ⟨_, rfl⟩
  rw [← hQ]
  have hl : lv_has ls 4 [(0, .ref (ad 0)), (1, .int v1)] := hl
  unfold f_X11_right at hf
  have J24 : ∀ (μ : Mm) (s0 : Int32) (H : Heap) (locs : List Loc) (ls : Array Slot), f_X11_right_J24 μ v1 s0 = some res → Wd D (faM ad) (feM tc ad) A s.heap μ H locs → lv_has ls 4 [(0, .ref (ad 0)), (1, .int v1)] → W p l e (rmq 3 66) s m args below meth c H locs 0 0 Q (F0 m 24 ls [.int s0, .ref (ad 0)]) := by
    intro μ s0 H locs ls hf hW hl
    unfold f_X11_right_J24 at hf
    refine lv_iconst (v := 1) hx hb dX11_right_24 (by decide) ?_
    obtain ⟨x25, h25, hf⟩ := bd_of hf
    refine r_callV (k := ((0, 0) : Ky)) C hW hl lk_X11_322 (c_X11_throwsIf h25) ⟨rfl, rfl⟩ ⟨Nat.le_of_ble_eq_true rfl, Nat.le_of_ble_eq_true rfl⟩ rfl rfl rfl (As := [.int s0, .int (1 : Int32)]) (rest := []) rfl rfl (Nat.le_of_ble_eq_true rfl) dX11_right_25 ⟨Nat.zero_le _, Nat.zero_le _⟩ (fun H locs hW => ?_)
    show W p l e (rmq 3 66) s m args below meth c H locs 0 0 Q (F0 m 28 ls [.int x25.1])
    refine lv_if_eq (tgt := 33) hx hb dX11_right_28 (by decide) (fun c2 => ?_) (fun c2 => ?_)
    · have hf := (if_pos c2).symm.trans hf
      refine lv_iconst (v := 0) hx hb dX11_right_33 (by decide) ?_
      refine lv_istore_n (lv' := [(2, .int (0 : Int32)), (0, .ref (ad 0)), (1, .int v1)]) hx hb dX11_right_34 rfl hl (by decide) rfl (fun ls hl => ?_)
      have L35 : ∀ (μ : Mm) (v2 : Int32) (H : Heap) (locs : List Loc) (ls : Array Slot), Wh (fun z : Mm × Int32 => f_X11_right_L35 v1 z.1 z.2) (μ, v2) = some res → Wd D (faM ad) (feM tc ad) A s.heap μ H locs → lv_has ls 4 [(0, .ref (ad 0)), (1, .int v1), (2, .int v2)] → W p l e (rmq 3 66) s m args below meth c H locs 0 0 Q (F0 m 35 ls []) := by
        intro μ v2 H locs ls hf hW hl
        refine Wh_rule hf (fun z : Mm × Int32 => ∀ (H : Heap) (locs : List Loc) (ls : Array Slot), Wd D (faM ad) (feM tc ad) A s.heap z.1 H locs → lv_has ls 4 [(0, .ref (ad 0)), (1, .int v1), (2, .int z.2)] → W p l e (rmq 3 66) s m args below meth c H locs 0 0 Q (F0 m 35 ls [])) (fun z o1 hf Kl1 Kr1 => ?_) _ _ _ hW hl
        obtain ⟨μ, v2⟩ := z
        intro H locs ls hW hl
        have hf : f_X11_right_L35 v1 μ v2 = some o1 := hf
        unfold f_X11_right_L35 at hf
        have hW : Wd D (faM ad) (feM tc ad) A s.heap μ H locs := hW
        have hl : lv_has ls 4 [(0, .ref (ad 0)), (1, .int v1), (2, .int v2)] := hl
        refine lv_iload_n hx hb dX11_right_35 rfl (lv_at hl 2 rfl) ?_
        refine lv_aload_n hx hb dX11_right_36 rfl (lv_at hl 0 rfl) ?_
        obtain ⟨x37, h37, hf⟩ := bd_of hf
        refine r_callV (k := ((0, 0) : Ky)) C hW hl lk_X11_115 (c_X11_worlds h37) ⟨rfl, rfl⟩ ⟨Nat.le_of_ble_eq_true rfl, Nat.le_of_ble_eq_true rfl⟩ rfl rfl rfl (As := []) (rest := [.int v2]) rfl rfl (Nat.le_of_ble_eq_true rfl) dX11_right_37 ⟨Nat.zero_le _, Nat.zero_le _⟩ (fun H locs hW => ?_)
        show W p l e (rmq 3 66) s m args below meth c H locs 0 0 Q (F0 m 40 ls [.int x37, .int v2])
        refine lv_icmp_ge (tgt := 60) hx hb dX11_right_40 (by decide) (fun c4 => ?_) (fun c4 => ?_)
        · have hf := (if_pos c4).symm.trans hf
          obtain ⟨x9027, hf, hx9027⟩ := map_of hf
          have e9027 := (Kr1 _ hx9027.symm).symm
          subst e9027
          refine lv_iconst (v := 0) hx hb dX11_right_60 (by decide) ?_
          refine lv_istore_n (lv' := [(2, .int (0 : Int32)), (0, .ref (ad 0)), (1, .int v1)]) hx hb dX11_right_61 rfl hl (by decide) rfl (fun ls hl => ?_)
          have L62 : ∀ (μ : Mm) (v2 : Int32) (H : Heap) (locs : List Loc) (ls : Array Slot), Wh (fun z : Mm × Int32 => f_X11_right_L62 v1 z.1 z.2) (μ, v2) = some res → Wd D (faM ad) (feM tc ad) A s.heap μ H locs → lv_has ls 4 [(0, .ref (ad 0)), (1, .int v1), (2, .int v2)] → W p l e (rmq 3 66) s m args below meth c H locs 0 0 Q (F0 m 62 ls []) := by
            intro μ v2 H locs ls hf hW hl
            refine Wh_rule hf (fun z : Mm × Int32 => ∀ (H : Heap) (locs : List Loc) (ls : Array Slot), Wd D (faM ad) (feM tc ad) A s.heap z.1 H locs → lv_has ls 4 [(0, .ref (ad 0)), (1, .int v1), (2, .int z.2)] → W p l e (rmq 3 66) s m args below meth c H locs 0 0 Q (F0 m 62 ls [])) (fun z o1 hf Kl1 Kr1 => ?_) _ _ _ hW hl
            obtain ⟨μ, v2⟩ := z
            intro H locs ls hW hl
            have hf : f_X11_right_L62 v1 μ v2 = some o1 := hf
            unfold f_X11_right_L62 at hf
            have hW : Wd D (faM ad) (feM tc ad) A s.heap μ H locs := hW
            have hl : lv_has ls 4 [(0, .ref (ad 0)), (1, .int v1), (2, .int v2)] := hl
            have J83 : ∀ (μ : Mm) (v2 : Int32) (H : Heap) (locs : List Loc) (ls : Array Slot), f_X11_right_J83 μ v1 v2 = some o1 → Wd D (faM ad) (feM tc ad) A s.heap μ H locs → lv_has ls 4 [(0, .ref (ad 0)), (1, .int v1), (2, .int v2)] → W p l e (rmq 3 66) s m args below meth c H locs 0 0 Q (F0 m 83 ls []) := by
              intro μ v2 H locs ls hf hW hl
              unfold f_X11_right_J83 at hf
              refine lv_aload_n hx hb dX11_right_83 rfl (lv_at hl 0 rfl) ?_
              refine lv_iload_n hx hb dX11_right_84 rfl (lv_at hl 2 rfl) ?_
              obtain ⟨x85, h85, hf⟩ := bd_of hf
              refine r_callV (k := ((0, 0) : Ky)) C hW hl lk_X11_451 (c_X11_laysVotes h85) ⟨rfl, rfl⟩ ⟨Nat.le_of_ble_eq_true rfl, Nat.le_of_ble_eq_true rfl⟩ rfl rfl rfl (As := [.int v2]) (rest := []) rfl rfl (Nat.le_of_ble_eq_true rfl) dX11_right_85 ⟨Nat.zero_le _, Nat.zero_le _⟩ (fun H locs hW => ?_)
              show W p l e (rmq 3 66) s m args below meth c H locs 0 0 Q (F0 m 88 ls [])
              refine lv_iconst (v := 0) hx hb dX11_right_88 (by decide) ?_
              refine lv_istore_n (lv' := [(3, .int (0 : Int32)), (0, .ref (ad 0)), (1, .int v1), (2, .int v2)]) hx hb dX11_right_89 rfl hl (by decide) rfl (fun ls hl => ?_)
              have L90 : ∀ (μ : Mm) (v2 v3 : Int32) (H : Heap) (locs : List Loc) (ls : Array Slot), Wh (fun z : Mm × Int32 => f_X11_right_L90 v1 v2 z.1 z.2) (μ, v3) = some o1 → Wd D (faM ad) (feM tc ad) A s.heap μ H locs → lv_has ls 4 [(0, .ref (ad 0)), (1, .int v1), (2, .int v2), (3, .int v3)] → W p l e (rmq 3 66) s m args below meth c H locs 0 0 Q (F0 m 90 ls []) := by
                intro μ v2 v3 H locs ls hf hW hl
                refine Wh_rule hf (fun z : Mm × Int32 => ∀ (H : Heap) (locs : List Loc) (ls : Array Slot), Wd D (faM ad) (feM tc ad) A s.heap z.1 H locs → lv_has ls 4 [(0, .ref (ad 0)), (1, .int v1), (2, .int v2), (3, .int z.2)] → W p l e (rmq 3 66) s m args below meth c H locs 0 0 Q (F0 m 90 ls [])) (fun z o2 hf Kl2 Kr2 => ?_) _ _ _ hW hl
                obtain ⟨μ, v3⟩ := z
                intro H locs ls hW hl
                have hf : f_X11_right_L90 v1 v2 μ v3 = some o2 := hf
                unfold f_X11_right_L90 at hf
                have hW : Wd D (faM ad) (feM tc ad) A s.heap μ H locs := hW
                have hl : lv_has ls 4 [(0, .ref (ad 0)), (1, .int v1), (2, .int v2), (3, .int v3)] := hl
                refine lv_iload_n hx hb dX11_right_90 rfl (lv_at hl 3 rfl) ?_
                refine lv_aload_n hx hb dX11_right_91 rfl (lv_at hl 0 rfl) ?_
                obtain ⟨x92, h92, hf⟩ := bd_of hf
                refine r_callV (k := ((0, 0) : Ky)) C hW hl lk_X11_115 (c_X11_worlds h92) ⟨rfl, rfl⟩ ⟨Nat.le_of_ble_eq_true rfl, Nat.le_of_ble_eq_true rfl⟩ rfl rfl rfl (As := []) (rest := [.int v3]) rfl rfl (Nat.le_of_ble_eq_true rfl) dX11_right_92 ⟨Nat.zero_le _, Nat.zero_le _⟩ (fun H locs hW => ?_)
                show W p l e (rmq 3 66) s m args below meth c H locs 0 0 Q (F0 m 95 ls [.int x92, .int v3])
                refine lv_icmp_ge (tgt := 139) hx hb dX11_right_95 (by decide) (fun c7 => ?_) (fun c7 => ?_)
                · have hf := (if_pos c7).symm.trans hf
                  obtain ⟨x9008, hf, hx9008⟩ := map_of hf
                  have e9008 := (Kr2 _ hx9008.symm).symm
                  subst e9008
                  refine lv_iinc (v := (v2 + (1 : Int32))) (lv' := [(2, .int (v2 + (1 : Int32))), (0, .ref (ad 0)), (1, .int v1), (3, .int v3)]) hx hb dX11_right_139 hl (k := 2) rfl rfl (by decide) rfl (fun ls hl => ?_)
                  refine lv_goto (tgt := 62) hx hb dX11_right_142 (by decide) ?_
                  obtain rfl := Option.some.inj hf
                  exact Kl1 _ rfl _ _ _ hW (lv_sub hl [1, 2, 0] rfl)
                · have hf := (if_neg c7).symm.trans hf
                  refine lv_aload_n hx hb dX11_right_98 rfl (lv_at hl 0 rfl) ?_
                  refine gf_X11_58 C hW dX11_right_99 ?_
                  refine lv_iload_n hx hb dX11_right_102 rfl (lv_at hl 3 rfl) ?_
                  refine lv_aload_n hx hb dX11_right_103 rfl (lv_at hl 0 rfl) ?_
                  refine gf_X11_58 C hW dX11_right_104 ?_
                  refine lv_iload_n hx hb dX11_right_107 rfl (lv_at hl 3 rfl) ?_
                  obtain ⟨hi9, hf⟩ := ck_of hf
                  refine r_zald (k := ((25, 0) : Ky)) (n := 512) C hW rfl rfl hi9 dX11_right_108 ?_
                  refine lv_if_eq (tgt := 131) hx hb dX11_right_109 (by decide) (fun c10 => ?_) (fun c10 => ?_)
                  · have hf := (if_pos c10).symm.trans hf
                    refine lv_iconst (v := 0) hx hb dX11_right_131 (by decide) ?_
                    obtain ⟨hi11, hf⟩ := ck_of hf
                    refine r_zast (k := ((25, 0) : Ky)) (n := 512) C hW rfl (fun _ => rfl) hi11 dX11_right_132 (fun H locs hW => ?_)
                    refine lv_iinc (v := (v3 + (1 : Int32))) (lv' := [(3, .int (v3 + (1 : Int32))), (0, .ref (ad 0)), (1, .int v1), (2, .int v2)]) hx hb dX11_right_133 hl (k := 3) rfl rfl (by decide) rfl (fun ls hl => ?_)
                    refine lv_goto (tgt := 90) hx hb dX11_right_136 (by decide) ?_
                    obtain rfl := Option.some.inj hf
                    exact Kl2 _ rfl _ _ _ hW (lv_sub hl [1, 2, 3, 0] rfl)
                  · have hf := (if_neg c10).symm.trans hf
                    refine lv_aload_n hx hb dX11_right_112 rfl (lv_at hl 0 rfl) ?_
                    refine lv_iload_n hx hb dX11_right_113 rfl (lv_at hl 2 rfl) ?_
                    refine lv_iload_n hx hb dX11_right_114 rfl (lv_at hl 3 rfl) ?_
                    obtain ⟨x115, h115, hf⟩ := bd_of hf
                    refine r_callV (k := ((0, 0) : Ky)) C hW hl lk_X11_454 (c_X11_guessOf h115) ⟨rfl, rfl⟩ ⟨Nat.le_of_ble_eq_true rfl, Nat.le_of_ble_eq_true rfl⟩ rfl rfl rfl (As := [.int v2, .int v3]) (rest := [.int v3, .ref (ad 25)]) rfl rfl (Nat.le_of_ble_eq_true rfl) dX11_right_115 ⟨Nat.zero_le _, Nat.zero_le _⟩ (fun H locs hW => ?_)
                    show W p l e (rmq 3 66) s m args below meth c H locs 0 0 Q (F0 m 118 ls [.int x115, .int v3, .ref (ad 25)])
                    refine lv_aload_n hx hb dX11_right_118 rfl (lv_at hl 0 rfl) ?_
                    refine lv_iload_n hx hb dX11_right_119 rfl (lv_at hl 2 rfl) ?_
                    refine lv_iload_n hx hb dX11_right_120 rfl (lv_at hl 3 rfl) ?_
                    obtain ⟨x121, h121, hf⟩ := bd_of hf
                    refine r_callV (k := ((0, 0) : Ky)) C hW hl lk_X11_124 (c_X11_noticeIn h121) ⟨rfl, rfl⟩ ⟨Nat.le_of_ble_eq_true rfl, Nat.le_of_ble_eq_true rfl⟩ rfl rfl rfl (As := [.int v2, .int v3]) (rest := [.int x115, .int v3, .ref (ad 25)]) rfl rfl (Nat.le_of_ble_eq_true rfl) dX11_right_121 ⟨Nat.zero_le _, Nat.zero_le _⟩ (fun H locs hW => ?_)
                    show W p l e (rmq 3 66) s m args below meth c H locs 0 0 Q (F0 m 124 ls [.int x121, .int x115, .int v3, .ref (ad 25)])
                    refine lv_icmp_ne (tgt := 131) hx hb dX11_right_124 (by decide) (fun c14 => ?_) (fun c14 => ?_)
                    · have hf := (if_neg c14).symm.trans hf
                      refine lv_iconst (v := 0) hx hb dX11_right_131 (by decide) ?_
                      obtain ⟨hi15, hf⟩ := ck_of hf
                      refine r_zast (k := ((25, 0) : Ky)) (n := 512) C hW rfl (fun _ => rfl) hi15 dX11_right_132 (fun H locs hW => ?_)
                      refine lv_iinc (v := (v3 + (1 : Int32))) (lv' := [(3, .int (v3 + (1 : Int32))), (0, .ref (ad 0)), (1, .int v1), (2, .int v2)]) hx hb dX11_right_133 hl (k := 3) rfl rfl (by decide) rfl (fun ls hl => ?_)
                      refine lv_goto (tgt := 90) hx hb dX11_right_136 (by decide) ?_
                      obtain rfl := Option.some.inj hf
                      exact Kl2 _ rfl _ _ _ hW (lv_sub hl [1, 2, 3, 0] rfl)
                    · have hf := (if_pos c14).symm.trans hf
                      refine lv_iconst (v := 1) hx hb dX11_right_127 (by decide) ?_
                      refine lv_goto (tgt := 132) hx hb dX11_right_128 (by decide) ?_
                      obtain ⟨hi16, hf⟩ := ck_of hf
                      refine r_zast (k := ((25, 0) : Ky)) (n := 512) C hW rfl (fun _ => rfl) hi16 dX11_right_132 (fun H locs hW => ?_)
                      refine lv_iinc (v := (v3 + (1 : Int32))) (lv' := [(3, .int (v3 + (1 : Int32))), (0, .ref (ad 0)), (1, .int v1), (2, .int v2)]) hx hb dX11_right_133 hl (k := 3) rfl rfl (by decide) rfl (fun ls hl => ?_)
                      refine lv_goto (tgt := 90) hx hb dX11_right_136 (by decide) ?_
                      obtain rfl := Option.some.inj hf
                      exact Kl2 _ rfl _ _ _ hW (lv_sub hl [1, 2, 3, 0] rfl)
              exact L90 x85 v2 (0 : Int32) _ _ _ hf hW (lv_sub hl [1, 2, 3, 0] rfl)
            refine lv_iload_n hx hb dX11_right_62 rfl (lv_at hl 2 rfl) ?_
            refine lv_aload_n hx hb dX11_right_63 rfl (lv_at hl 0 rfl) ?_
            obtain ⟨x64, h64, hf⟩ := bd_of hf
            refine r_callV (k := ((0, 0) : Ky)) C hW hl lk_X11_107 (c_X11_people h64) ⟨rfl, rfl⟩ ⟨Nat.le_of_ble_eq_true rfl, Nat.le_of_ble_eq_true rfl⟩ rfl rfl rfl (As := []) (rest := [.int v2]) rfl rfl (Nat.le_of_ble_eq_true rfl) dX11_right_64 ⟨Nat.zero_le _, Nat.zero_le _⟩ (fun H locs hW => ?_)
            show W p l e (rmq 3 66) s m args below meth c H locs 0 0 Q (F0 m 67 ls [.int x64, .int v2])
            refine lv_icmp_ge (tgt := 145) hx hb dX11_right_67 (by decide) (fun c18 => ?_) (fun c18 => ?_)
            · have hf := (if_pos c18).symm.trans hf
              obtain ⟨x9024, hf, hx9024⟩ := map_of hf
              have e9024 := (Kr1 _ hx9024.symm).symm
              subst e9024
              refine lv_iconst (v := 0) hx hb dX11_right_145 (by decide) ?_
              refine lv_istore_n (lv' := [(2, .int (0 : Int32)), (0, .ref (ad 0)), (1, .int v1)]) hx hb dX11_right_146 rfl hl (by decide) rfl (fun ls hl => ?_)
              refine lv_iconst (v := 0) hx hb dX11_right_147 (by decide) ?_
              refine lv_istore_n (lv' := [(3, .int (0 : Int32)), (2, .int (0 : Int32)), (0, .ref (ad 0)), (1, .int v1)]) hx hb dX11_right_148 rfl hl (by decide) rfl (fun ls hl => ?_)
              have L149 : ∀ (μ : Mm) (v2 v3 : Int32) (H : Heap) (locs : List Loc) (ls : Array Slot), Wh (fun z : Int32 × Int32 => f_X11_right_L149 μ z.1 z.2) (v2, v3) = some res → Wd D (faM ad) (feM tc ad) A s.heap μ H locs → lv_has ls 4 [(0, .ref (ad 0)), (2, .int v2), (3, .int v3)] → W p l e (rmq 3 66) s m args below meth c H locs 0 0 Q (F0 m 149 ls []) := by
                intro μ v2 v3 H locs ls hf hW hl
                refine Wh_rule hf (fun z : Int32 × Int32 => ∀ (H : Heap) (locs : List Loc) (ls : Array Slot), Wd D (faM ad) (feM tc ad) A s.heap μ H locs → lv_has ls 4 [(0, .ref (ad 0)), (2, .int z.1), (3, .int z.2)] → W p l e (rmq 3 66) s m args below meth c H locs 0 0 Q (F0 m 149 ls [])) (fun z o1 hf Kl1 Kr1 => ?_) _ _ _ hW hl
                obtain ⟨v2, v3⟩ := z
                intro H locs ls hW hl
                have hf : f_X11_right_L149 μ v2 v3 = some o1 := hf
                unfold f_X11_right_L149 at hf
                have hW : Wd D (faM ad) (feM tc ad) A s.heap μ H locs := hW
                have hl : lv_has ls 4 [(0, .ref (ad 0)), (2, .int v2), (3, .int v3)] := hl
                refine lv_iload_n hx hb dX11_right_149 rfl (lv_at hl 2 rfl) ?_
                refine lv_aload_n hx hb dX11_right_150 rfl (lv_at hl 0 rfl) ?_
                obtain ⟨x151, h151, hf⟩ := bd_of hf
                refine r_callV (k := ((0, 0) : Ky)) C hW hl lk_X11_115 (c_X11_worlds h151) ⟨rfl, rfl⟩ ⟨Nat.le_of_ble_eq_true rfl, Nat.le_of_ble_eq_true rfl⟩ rfl rfl rfl (As := []) (rest := [.int v3]) rfl rfl (Nat.le_of_ble_eq_true rfl) dX11_right_151 ⟨Nat.zero_le _, Nat.zero_le _⟩ (fun H locs hW => ?_)
                show W p l e (rmq 3 66) s m args below meth c H locs 0 0 Q (F0 m 154 ls [.int x151, .int v3])
                refine lv_icmp_ge (tgt := 180) hx hb dX11_right_154 (by decide) (fun c20 => ?_) (fun c20 => ?_)
                · have hf := (if_pos c20).symm.trans hf
                  obtain ⟨x9021, hf, hx9021⟩ := map_of hf
                  have e9021 := (Kr1 _ hx9021.symm).symm
                  subst e9021
                  refine lv_iload_n hx hb dX11_right_180 rfl (lv_at hl 1 rfl) ?_
                  obtain rfl := Option.some.inj hf
                  rw [hQ]
                  exact r_iret C hr hk hW rfl rfl dX11_right_181
                · have hf := (if_neg c20).symm.trans hf
                  refine lv_iload_n hx hb dX11_right_157 rfl (lv_at hl 1 rfl) ?_
                  refine lv_aload_n hx hb dX11_right_158 rfl (lv_at hl 0 rfl) ?_
                  refine gf_X11_58 C hW dX11_right_159 ?_
                  refine lv_iload_n hx hb dX11_right_162 rfl (lv_at hl 2 rfl) ?_
                  obtain ⟨hi22, hf⟩ := ck_of hf
                  refine r_zald (k := ((25, 0) : Ky)) (n := 512) C hW rfl rfl hi22 dX11_right_163 ?_
                  refine lv_if_eq (tgt := 171) hx hb dX11_right_164 (by decide) (fun c23 => ?_) (fun c23 => ?_)
                  · have hf := (if_pos c23).symm.trans hf
                    refine lv_iconst (v := 0) hx hb dX11_right_171 (by decide) ?_
                    refine lv_iadd hx hb dX11_right_172 ?_
                    refine lv_istore_n (lv' := [(2, .int (v2 + (0 : Int32))), (0, .ref (ad 0)), (3, .int v3)]) hx hb dX11_right_173 rfl hl (by decide) rfl (fun ls hl => ?_)
                    refine lv_iinc (v := (v3 + (1 : Int32))) (lv' := [(3, .int (v3 + (1 : Int32))), (2, .int (v2 + (0 : Int32))), (0, .ref (ad 0))]) hx hb dX11_right_174 hl (k := 2) rfl rfl (by decide) rfl (fun ls hl => ?_)
                    refine lv_goto (tgt := 149) hx hb dX11_right_177 (by decide) ?_
                    obtain rfl := Option.some.inj hf
                    exact Kl1 _ rfl _ _ _ hW (lv_sub hl [2, 1, 0] rfl)
                  · have hf := (if_neg c23).symm.trans hf
                    refine lv_iconst (v := 1) hx hb dX11_right_167 (by decide) ?_
                    refine lv_goto (tgt := 172) hx hb dX11_right_168 (by decide) ?_
                    refine lv_iadd hx hb dX11_right_172 ?_
                    refine lv_istore_n (lv' := [(2, .int (v2 + (1 : Int32))), (0, .ref (ad 0)), (3, .int v3)]) hx hb dX11_right_173 rfl hl (by decide) rfl (fun ls hl => ?_)
                    refine lv_iinc (v := (v3 + (1 : Int32))) (lv' := [(3, .int (v3 + (1 : Int32))), (2, .int (v2 + (1 : Int32))), (0, .ref (ad 0))]) hx hb dX11_right_174 hl (k := 2) rfl rfl (by decide) rfl (fun ls hl => ?_)
                    refine lv_goto (tgt := 149) hx hb dX11_right_177 (by decide) ?_
                    obtain rfl := Option.some.inj hf
                    exact Kl1 _ rfl _ _ _ hW (lv_sub hl [2, 1, 0] rfl)
              exact L149 μ (0 : Int32) (0 : Int32) _ _ _ hf hW (lv_sub hl [2, 1, 0] rfl)
            · have hf := (if_neg c18).symm.trans hf
              refine lv_iload_n hx hb dX11_right_70 rfl (lv_at hl 1 rfl) ?_
              refine lv_iconst (v := -1) hx hb dX11_right_71 (by decide) ?_
              refine lv_icmp_eq (tgt := 83) hx hb dX11_right_72 (by decide) (fun c25 => ?_) (fun c25 => ?_)
              · have hf := (if_pos c25).symm.trans hf
                exact J83 μ v2 _ _ _ hf hW (lv_sub hl [0, 1, 2] rfl)
              · have hf := (if_neg c25).symm.trans hf
                refine lv_iload_n hx hb dX11_right_75 rfl (lv_at hl 2 rfl) ?_
                refine lv_iload_n hx hb dX11_right_76 rfl (lv_at hl 1 rfl) ?_
                refine lv_icmp_eq (tgt := 83) hx hb dX11_right_77 (by decide) (fun c26 => ?_) (fun c26 => ?_)
                · have hf := (if_pos c26).symm.trans hf
                  exact J83 μ v2 _ _ _ hf hW (lv_sub hl [0, 1, 2] rfl)
                · have hf := (if_neg c26).symm.trans hf
                  refine lv_goto (tgt := 139) hx hb dX11_right_80 (by decide) ?_
                  refine lv_iinc (v := (v2 + (1 : Int32))) (lv' := [(2, .int (v2 + (1 : Int32))), (0, .ref (ad 0)), (1, .int v1)]) hx hb dX11_right_139 hl (k := 2) rfl rfl (by decide) rfl (fun ls hl => ?_)
                  refine lv_goto (tgt := 62) hx hb dX11_right_142 (by decide) ?_
                  obtain rfl := Option.some.inj hf
                  exact Kl1 _ rfl _ _ _ hW (lv_sub hl [1, 2, 0] rfl)
          exact L62 μ (0 : Int32) _ _ _ hf hW (lv_sub hl [1, 2, 0] rfl)
        · have hf := (if_neg c4).symm.trans hf
          refine lv_aload_n hx hb dX11_right_43 rfl (lv_at hl 0 rfl) ?_
          refine gf_X11_58 C hW dX11_right_44 ?_
          refine lv_iload_n hx hb dX11_right_47 rfl (lv_at hl 2 rfl) ?_
          refine lv_aload_n hx hb dX11_right_48 rfl (lv_at hl 0 rfl) ?_
          refine lv_iload_n hx hb dX11_right_49 rfl (lv_at hl 2 rfl) ?_
          obtain ⟨x50, h50, hf⟩ := bd_of hf
          refine r_callV (k := ((0, 0) : Ky)) C hW hl lk_X11_128 (c_X11_isLeft h50) ⟨rfl, rfl⟩ ⟨Nat.le_of_ble_eq_true rfl, Nat.le_of_ble_eq_true rfl⟩ rfl rfl rfl (As := [.int v2]) (rest := [.int v2, .ref (ad 25)]) rfl rfl (Nat.le_of_ble_eq_true rfl) dX11_right_50 ⟨Nat.zero_le _, Nat.zero_le _⟩ (fun H locs hW => ?_)
          show W p l e (rmq 3 66) s m args below meth c H locs 0 0 Q (F0 m 53 ls [.int x50, .int v2, .ref (ad 25)])
          obtain ⟨hi29, hf⟩ := ck_of hf
          refine r_zast (k := ((25, 0) : Ky)) (n := 512) C hW rfl (fun _ => rfl) hi29 dX11_right_53 (fun H locs hW => ?_)
          refine lv_iinc (v := (v2 + (1 : Int32))) (lv' := [(2, .int (v2 + (1 : Int32))), (0, .ref (ad 0)), (1, .int v1)]) hx hb dX11_right_54 hl (k := 2) rfl rfl (by decide) rfl (fun ls hl => ?_)
          refine lv_goto (tgt := 35) hx hb dX11_right_57 (by decide) ?_
          obtain rfl := Option.some.inj hf
          exact Kl1 _ rfl _ _ _ hW (lv_sub hl [1, 2, 0] rfl)
      exact L35 x25.2 (0 : Int32) _ _ _ hf hW (lv_sub hl [1, 2, 0] rfl)
    · have hf := (if_neg c2).symm.trans hf
      refine lv_iconst (v := 0) hx hb dX11_right_31 (by decide) ?_
      obtain rfl := Option.some.inj hf
      rw [hQ]
      exact r_iret C hr hk hW rfl rfl dX11_right_32
  refine lv_aload_n hx hb dX11_right_0 rfl (lv_at hl 0 rfl) ?_
  refine lv_iconst (v := 0) hx hb dX11_right_1 (by decide) ?_
  refine pf_X11_3 C hW dX11_right_2 (fun H locs hW => ?_)
  refine lv_aload_n hx hb dX11_right_5 rfl (lv_at hl 0 rfl) ?_
  refine lv_iload_n hx hb dX11_right_6 rfl (lv_at hl 1 rfl) ?_
  refine lv_iconst (v := -1) hx hb dX11_right_7 (by decide) ?_
  refine lv_icmp_eq (tgt := 23) hx hb dX11_right_8 (by decide) (fun c30 => ?_) (fun c30 => ?_)
  · have hf := (if_pos c30).symm.trans hf
    refine lv_iconst (v := 0) hx hb dX11_right_23 (by decide) ?_
    exact J24 (mst μ (0, 0) 0 (0 : Int32)) (0 : Int32) _ _ _ hf hW (lv_sub hl [0, 1] rfl)
  · have hf := (if_neg c30).symm.trans hf
    refine lv_aload_n hx hb dX11_right_11 rfl (lv_at hl 0 rfl) ?_
    refine lv_iload_n hx hb dX11_right_12 rfl (lv_at hl 1 rfl) ?_
    obtain ⟨x13, h13, hf⟩ := bd_of hf
    refine r_callV (k := ((0, 0) : Ky)) C hW hl lk_X11_359 (c_X11_noPerson h13) ⟨rfl, rfl⟩ ⟨Nat.le_of_ble_eq_true rfl, Nat.le_of_ble_eq_true rfl⟩ rfl rfl rfl (As := [.int v1]) (rest := [.ref (ad 0)]) rfl rfl (Nat.le_of_ble_eq_true rfl) dX11_right_13 ⟨Nat.zero_le _, Nat.zero_le _⟩ (fun H locs hW => ?_)
    show W p l e (rmq 3 66) s m args below meth c H locs 0 0 Q (F0 m 16 ls [.int x13, .ref (ad 0)])
    refine lv_if_eq (tgt := 23) hx hb dX11_right_16 (by decide) (fun c32 => ?_) (fun c32 => ?_)
    · have hf := (if_pos c32).symm.trans hf
      refine lv_iconst (v := 0) hx hb dX11_right_23 (by decide) ?_
      exact J24 (mst μ (0, 0) 0 (0 : Int32)) (0 : Int32) _ _ _ hf hW (lv_sub hl [0, 1] rfl)
    · have hf := (if_neg c32).symm.trans hf
      refine lv_iconst (v := 1) hx hb dX11_right_19 (by decide) ?_
      refine lv_goto (tgt := 24) hx hb dX11_right_20 (by decide) ?_
      exact J24 (mst μ (0, 0) 0 (0 : Int32)) (1 : Int32) _ _ _ hf hW (lv_sub hl [0, 1] rfl)
set_option maxHeartbeats 4000000 in
set_option maxRecDepth 100000 in
theorem c_X11_readThrees {l : Launch} {D : va_G} {tc : Nat → ClassId} {ro : Ro} {ad : Nat → Nat} {μ : Mm} {v1 v2 : Int32} {res : Int32 × Mm} (hf : f_X11_readThrees μ v1 v2 = some res) : Ct l D tc ro (faM ad) (feM tc ad) yX11_readThrees cX11_readThrees 5 (some .boolean) (rmq 2 43) [.ref (ad 0), .int v1, .int v2] μ (some (.int res.1)) res.2 := by
  refine Ct.of (by decide) (Nat.le_of_ble_eq_true rfl) (fun p e s m args below meth c A C hr hk hW ls hl => ?_)
  have hx := C.1.1
  have hb := C.1.2.1
  obtain ⟨Q, hQ⟩ : ∃ Q, Q = MQ below (Ctq D (faM ad) (feM tc ad) (some (.int res.1)) res.2 A) args s 0 0 A := ⟨_, rfl⟩
  rw [← hQ]
  have hl : lv_has ls 5 [(0, .ref (ad 0)), (1, .int v1), (2, .int v2)] := hl
  unfold f_X11_readThrees at hf
  have J18 : ∀ (μ : Mm) (s0 : Int32) (H : Heap) (locs : List Loc) (ls : Array Slot), f_X11_readThrees_J18 μ v1 v2 s0 = some res → Wd D (faM ad) (feM tc ad) A s.heap μ H locs → lv_has ls 5 [(0, .ref (ad 0)), (1, .int v1), (2, .int v2)] → W p l e (rmq 2 43) s m args below meth c H locs 0 0 Q (F0 m 18 ls [.int s0]) := by
    intro μ s0 H locs ls hf hW hl
    unfold f_X11_readThrees_J18 at hf
    refine lv_istore_n (lv' := [(3, .int s0), (0, .ref (ad 0)), (1, .int v1), (2, .int v2)]) hx hb dX11_readThrees_18 rfl hl (by decide) rfl (fun ls hl => ?_)
    refine lv_iconst (v := 0) hx hb dX11_readThrees_19 (by decide) ?_
    refine lv_istore (lv' := [(4, .int (0 : Int32)), (3, .int s0), (0, .ref (ad 0)), (1, .int v1), (2, .int v2)]) hx hb dX11_readThrees_20 hl (by decide) rfl (fun ls hl => ?_)
    have L22 : ∀ (μ : Mm) (v3 v4 : Int32) (H : Heap) (locs : List Loc) (ls : Array Slot), Wh (fun z : Int32 × Int32 => f_X11_readThrees_L22 v1 v2 μ z.1 z.2) (v3, v4) = some res → Wd D (faM ad) (feM tc ad) A s.heap μ H locs → lv_has ls 5 [(0, .ref (ad 0)), (1, .int v1), (2, .int v2), (3, .int v3), (4, .int v4)] → W p l e (rmq 2 43) s m args below meth c H locs 0 0 Q (F0 m 22 ls []) := by
      intro μ v3 v4 H locs ls hf hW hl
      refine Wh_rule hf (fun z : Int32 × Int32 => ∀ (H : Heap) (locs : List Loc) (ls : Array Slot), Wd D (faM ad) (feM tc ad) A s.heap μ H locs → lv_has ls 5 [(0, .ref (ad 0)), (1, .int v1), (2, .int v2), (3, .int z.1), (4, .int z.2)] → W p l e (rmq 2 43) s m args below meth c H locs 0 0 Q (F0 m 22 ls [])) (fun z o1 hf Kl1 Kr1 => ?_) _ _ _ hW hl
      obtain ⟨v3, v4⟩ := z
      intro H locs ls hW hl
      have hf : f_X11_readThrees_L22 v1 v2 μ v3 v4 = some o1 := hf
      unfold f_X11_readThrees_L22 at hf
      have hW : Wd D (faM ad) (feM tc ad) A s.heap μ H locs := hW
      have hl : lv_has ls 5 [(0, .ref (ad 0)), (1, .int v1), (2, .int v2), (3, .int v3), (4, .int v4)] := hl
      refine lv_iload hx hb dX11_readThrees_22 (lv_at hl 4 rfl) ?_
      refine lv_iconst (v := 2) hx hb dX11_readThrees_24 (by decide) ?_
      refine lv_iadd hx hb dX11_readThrees_25 ?_
      refine lv_aload_n hx hb dX11_readThrees_26 rfl (lv_at hl 0 rfl) ?_
      refine gf_X11_162 C hW dX11_readThrees_27 ?_
      refine lv_icmp_ge (tgt := 125) hx hb dX11_readThrees_30 (by decide) (fun c1 => ?_) (fun c1 => ?_)
      · have hf := (if_pos c1).symm.trans hf
        obtain ⟨x9003, hf, hx9003⟩ := map_of hf
        have e9003 := (Kr1 _ hx9003.symm).symm
        subst e9003
        refine lv_iload_n hx hb dX11_readThrees_125 rfl (lv_at hl 3 rfl) ?_
        obtain ⟨hz2, hf⟩ := cb_of hf
        obtain rfl := Option.some.inj hf
        rw [hQ]
        exact r_zret C hr hk hW hz2 rfl rfl dX11_readThrees_126
      · have hf := (if_neg c1).symm.trans hf
        refine lv_iload_n hx hb dX11_readThrees_33 rfl (lv_at hl 3 rfl) ?_
        refine lv_if_eq (tgt := 125) hx hb dX11_readThrees_34 (by decide) (fun c4 => ?_) (fun c4 => ?_)
        · have hf := (if_pos c4).symm.trans hf
          obtain ⟨x9006, hf, hx9006⟩ := map_of hf
          have e9006 := (Kr1 _ hx9006.symm).symm
          subst e9006
          refine lv_iload_n hx hb dX11_readThrees_125 rfl (lv_at hl 3 rfl) ?_
          obtain ⟨hz5, hf⟩ := cb_of hf
          obtain rfl := Option.some.inj hf
          rw [hQ]
          exact r_zret C hr hk hW hz5 rfl rfl dX11_readThrees_126
        · have hf := (if_neg c4).symm.trans hf
          refine lv_aload_n hx hb dX11_readThrees_37 rfl (lv_at hl 0 rfl) ?_
          refine lv_aload_n hx hb dX11_readThrees_38 rfl (lv_at hl 0 rfl) ?_
          refine gf_X11_39 C hW dX11_readThrees_39 ?_
          refine lv_iload hx hb dX11_readThrees_42 (lv_at hl 4 rfl) ?_
          obtain ⟨hi7, hf⟩ := ck_of hf
          refine r_bald (k := ((11, 0) : Ky)) (n := 400) C hW rfl rfl hi7 dX11_readThrees_44 ?_
          refine lv_bipush (v := 97) hx hb dX11_readThrees_45 (by decide) ?_
          refine lv_isub hx hb dX11_readThrees_47 ?_
          obtain ⟨x48, h48, hf⟩ := bd_of hf
          refine r_callV (k := ((0, 0) : Ky)) C hW hl lk_X11_359 (c_X11_noPerson h48) ⟨rfl, rfl⟩ ⟨Nat.le_of_ble_eq_true rfl, Nat.le_of_ble_eq_true rfl⟩ rfl rfl rfl (As := [.int ((μ (11, 0) v4.toNatClampNeg) - (97 : Int32))]) (rest := []) rfl rfl (Nat.le_of_ble_eq_true rfl) dX11_readThrees_48 ⟨Nat.zero_le _, Nat.zero_le _⟩ (fun H locs hW => ?_)
          show W p l e (rmq 2 43) s m args below meth c H locs 0 0 Q (F0 m 51 ls [.int x48])
          refine lv_if_ne (tgt := 117) hx hb dX11_readThrees_51 (by decide) (fun c9 => ?_) (fun c9 => ?_)
          · have hf := (if_neg c9).symm.trans hf
            refine lv_iconst (v := 0) hx hb dX11_readThrees_117 (by decide) ?_
            refine lv_istore_n (lv' := [(3, .int (0 : Int32)), (0, .ref (ad 0)), (1, .int v1), (2, .int v2), (4, .int v4)]) hx hb dX11_readThrees_118 rfl hl (by decide) rfl (fun ls hl => ?_)
            refine lv_iinc (v := (v4 + (3 : Int32))) (lv' := [(4, .int (v4 + (3 : Int32))), (3, .int (0 : Int32)), (0, .ref (ad 0)), (1, .int v1), (2, .int v2)]) hx hb dX11_readThrees_119 hl (k := 4) rfl rfl (by decide) rfl (fun ls hl => ?_)
            refine lv_goto (tgt := 22) hx hb dX11_readThrees_122 (by decide) ?_
            obtain rfl := Option.some.inj hf
            exact Kl1 _ rfl _ _ _ hW (lv_sub hl [2, 3, 4, 1, 0] rfl)
          · have hf := (if_pos c9).symm.trans hf
            refine lv_aload_n hx hb dX11_readThrees_54 rfl (lv_at hl 0 rfl) ?_
            refine lv_aload_n hx hb dX11_readThrees_55 rfl (lv_at hl 0 rfl) ?_
            refine gf_X11_39 C hW dX11_readThrees_56 ?_
            refine lv_iload hx hb dX11_readThrees_59 (lv_at hl 4 rfl) ?_
            refine lv_iconst (v := 1) hx hb dX11_readThrees_61 (by decide) ?_
            refine lv_iadd hx hb dX11_readThrees_62 ?_
            obtain ⟨hi10, hf⟩ := ck_of hf
            refine r_bald (k := ((11, 0) : Ky)) (n := 400) C hW rfl rfl hi10 dX11_readThrees_63 ?_
            refine lv_bipush (v := 97) hx hb dX11_readThrees_64 (by decide) ?_
            refine lv_isub hx hb dX11_readThrees_66 ?_
            obtain ⟨x67, h67, hf⟩ := bd_of hf
            refine r_callV (k := ((0, 0) : Ky)) C hW hl lk_X11_359 (c_X11_noPerson h67) ⟨rfl, rfl⟩ ⟨Nat.le_of_ble_eq_true rfl, Nat.le_of_ble_eq_true rfl⟩ rfl rfl rfl (As := [.int ((μ (11, 0) (v4 + (1 : Int32)).toNatClampNeg) - (97 : Int32))]) (rest := []) rfl rfl (Nat.le_of_ble_eq_true rfl) dX11_readThrees_67 ⟨Nat.zero_le _, Nat.zero_le _⟩ (fun H locs hW => ?_)
            show W p l e (rmq 2 43) s m args below meth c H locs 0 0 Q (F0 m 70 ls [.int x67])
            refine lv_if_ne (tgt := 117) hx hb dX11_readThrees_70 (by decide) (fun c12 => ?_) (fun c12 => ?_)
            · have hf := (if_neg c12).symm.trans hf
              refine lv_iconst (v := 0) hx hb dX11_readThrees_117 (by decide) ?_
              refine lv_istore_n (lv' := [(3, .int (0 : Int32)), (0, .ref (ad 0)), (1, .int v1), (2, .int v2), (4, .int v4)]) hx hb dX11_readThrees_118 rfl hl (by decide) rfl (fun ls hl => ?_)
              refine lv_iinc (v := (v4 + (3 : Int32))) (lv' := [(4, .int (v4 + (3 : Int32))), (3, .int (0 : Int32)), (0, .ref (ad 0)), (1, .int v1), (2, .int v2)]) hx hb dX11_readThrees_119 hl (k := 4) rfl rfl (by decide) rfl (fun ls hl => ?_)
              refine lv_goto (tgt := 22) hx hb dX11_readThrees_122 (by decide) ?_
              obtain rfl := Option.some.inj hf
              exact Kl1 _ rfl _ _ _ hW (lv_sub hl [2, 3, 4, 1, 0] rfl)
            · have hf := (if_pos c12).symm.trans hf
              refine lv_aload_n hx hb dX11_readThrees_73 rfl (lv_at hl 0 rfl) ?_
              refine gf_X11_39 C hW dX11_readThrees_74 ?_
              refine lv_iload hx hb dX11_readThrees_77 (lv_at hl 4 rfl) ?_
              refine lv_iconst (v := 2) hx hb dX11_readThrees_79 (by decide) ?_
              refine lv_iadd hx hb dX11_readThrees_80 ?_
              obtain ⟨hi13, hf⟩ := ck_of hf
              refine r_bald (k := ((11, 0) : Ky)) (n := 400) C hW rfl rfl hi13 dX11_readThrees_81 ?_
              refine lv_iconst (v := 0) hx hb dX11_readThrees_82 (by decide) ?_
              refine lv_iload_n hx hb dX11_readThrees_83 rfl (lv_at hl 1 rfl) ?_
              obtain ⟨x84, h84, hf⟩ := bd_of hf
              refine r_callS C hW hl lk_X11_111 (c_X11_in h84) ⟨rfl, rfl⟩ ⟨Nat.le_of_ble_eq_true rfl, Nat.le_of_ble_eq_true rfl⟩ (As := [.int (μ (11, 0) (v4 + (2 : Int32)).toNatClampNeg), .int (0 : Int32), .int v1]) (rest := []) rfl rfl (Nat.le_of_ble_eq_true rfl) dX11_readThrees_84 ⟨Nat.zero_le _, Nat.zero_le _⟩ (fun H locs hW => ?_)
              show W p l e (rmq 2 43) s m args below meth c H locs 0 0 Q (F0 m 87 ls [.int x84])
              refine lv_if_eq (tgt := 117) hx hb dX11_readThrees_87 (by decide) (fun c15 => ?_) (fun c15 => ?_)
              · have hf := (if_pos c15).symm.trans hf
                refine lv_iconst (v := 0) hx hb dX11_readThrees_117 (by decide) ?_
                refine lv_istore_n (lv' := [(3, .int (0 : Int32)), (0, .ref (ad 0)), (1, .int v1), (2, .int v2), (4, .int v4)]) hx hb dX11_readThrees_118 rfl hl (by decide) rfl (fun ls hl => ?_)
                refine lv_iinc (v := (v4 + (3 : Int32))) (lv' := [(4, .int (v4 + (3 : Int32))), (3, .int (0 : Int32)), (0, .ref (ad 0)), (1, .int v1), (2, .int v2)]) hx hb dX11_readThrees_119 hl (k := 4) rfl rfl (by decide) rfl (fun ls hl => ?_)
                refine lv_goto (tgt := 22) hx hb dX11_readThrees_122 (by decide) ?_
                obtain rfl := Option.some.inj hf
                exact Kl1 _ rfl _ _ _ hW (lv_sub hl [2, 3, 4, 1, 0] rfl)
              · have hf := (if_neg c15).symm.trans hf
                refine lv_iload_n hx hb dX11_readThrees_90 rfl (lv_at hl 2 rfl) ?_
                refine lv_if_ne (tgt := 113) hx hb dX11_readThrees_91 (by decide) (fun c16 => ?_) (fun c16 => ?_)
                · have hf := (if_neg c16).symm.trans hf
                  refine lv_iconst (v := 1) hx hb dX11_readThrees_113 (by decide) ?_
                  refine lv_goto (tgt := 118) hx hb dX11_readThrees_114 (by decide) ?_
                  refine lv_istore_n (lv' := [(3, .int (1 : Int32)), (0, .ref (ad 0)), (1, .int v1), (2, .int v2), (4, .int v4)]) hx hb dX11_readThrees_118 rfl hl (by decide) rfl (fun ls hl => ?_)
                  refine lv_iinc (v := (v4 + (3 : Int32))) (lv' := [(4, .int (v4 + (3 : Int32))), (3, .int (1 : Int32)), (0, .ref (ad 0)), (1, .int v1), (2, .int v2)]) hx hb dX11_readThrees_119 hl (k := 4) rfl rfl (by decide) rfl (fun ls hl => ?_)
                  refine lv_goto (tgt := 22) hx hb dX11_readThrees_122 (by decide) ?_
                  obtain rfl := Option.some.inj hf
                  exact Kl1 _ rfl _ _ _ hW (lv_sub hl [2, 3, 4, 1, 0] rfl)
                · have hf := (if_pos c16).symm.trans hf
                  refine lv_aload_n hx hb dX11_readThrees_94 rfl (lv_at hl 0 rfl) ?_
                  refine gf_X11_39 C hW dX11_readThrees_95 ?_
                  refine lv_iload hx hb dX11_readThrees_98 (lv_at hl 4 rfl) ?_
                  obtain ⟨hi17, hf⟩ := ck_of hf
                  refine r_bald (k := ((11, 0) : Ky)) (n := 400) C hW rfl rfl hi17 dX11_readThrees_100 ?_
                  refine lv_aload_n hx hb dX11_readThrees_101 rfl (lv_at hl 0 rfl) ?_
                  refine gf_X11_39 C hW dX11_readThrees_102 ?_
                  refine lv_iload hx hb dX11_readThrees_105 (lv_at hl 4 rfl) ?_
                  refine lv_iconst (v := 1) hx hb dX11_readThrees_107 (by decide) ?_
                  refine lv_iadd hx hb dX11_readThrees_108 ?_
                  obtain ⟨hi18, hf⟩ := ck_of hf
                  refine r_bald (k := ((11, 0) : Ky)) (n := 400) C hW rfl rfl hi18 dX11_readThrees_109 ?_
                  refine lv_icmp_eq (tgt := 117) hx hb dX11_readThrees_110 (by decide) (fun c19 => ?_) (fun c19 => ?_)
                  · have hf := (if_pos c19).symm.trans hf
                    refine lv_iconst (v := 0) hx hb dX11_readThrees_117 (by decide) ?_
                    refine lv_istore_n (lv' := [(3, .int (0 : Int32)), (0, .ref (ad 0)), (1, .int v1), (2, .int v2), (4, .int v4)]) hx hb dX11_readThrees_118 rfl hl (by decide) rfl (fun ls hl => ?_)
                    refine lv_iinc (v := (v4 + (3 : Int32))) (lv' := [(4, .int (v4 + (3 : Int32))), (3, .int (0 : Int32)), (0, .ref (ad 0)), (1, .int v1), (2, .int v2)]) hx hb dX11_readThrees_119 hl (k := 4) rfl rfl (by decide) rfl (fun ls hl => ?_)
                    refine lv_goto (tgt := 22) hx hb dX11_readThrees_122 (by decide) ?_
                    obtain rfl := Option.some.inj hf
                    exact Kl1 _ rfl _ _ _ hW (lv_sub hl [2, 3, 4, 1, 0] rfl)
                  · have hf := (if_neg c19).symm.trans hf
                    refine lv_iconst (v := 1) hx hb dX11_readThrees_113 (by decide) ?_
                    refine lv_goto (tgt := 118) hx hb dX11_readThrees_114 (by decide) ?_
                    refine lv_istore_n (lv' := [(3, .int (1 : Int32)), (0, .ref (ad 0)), (1, .int v1), (2, .int v2), (4, .int v4)]) hx hb dX11_readThrees_118 rfl hl (by decide) rfl (fun ls hl => ?_)
                    refine lv_iinc (v := (v4 + (3 : Int32))) (lv' := [(4, .int (v4 + (3 : Int32))), (3, .int (1 : Int32)), (0, .ref (ad 0)), (1, .int v1), (2, .int v2)]) hx hb dX11_readThrees_119 hl (k := 4) rfl rfl (by decide) rfl (fun ls hl => ?_)
                    refine lv_goto (tgt := 22) hx hb dX11_readThrees_122 (by decide) ?_
                    obtain rfl := Option.some.inj hf
                    exact Kl1 _ rfl _ _ _ hW (lv_sub hl [2, 3, 4, 1, 0] rfl)
    exact L22 μ s0 (0 : Int32) _ _ _ hf hW (lv_sub hl [2, 3, 4, 1, 0] rfl)
  refine lv_aload_n hx hb dX11_readThrees_0 rfl (lv_at hl 0 rfl) ?_
  obtain ⟨x1, h1, hf⟩ := bd_of hf
  refine r_callV (k := ((0, 0) : Ky)) C hW hl lk_X11_311 (c_X11_uses h1) ⟨rfl, rfl⟩ ⟨Nat.le_of_ble_eq_true rfl, Nat.le_of_ble_eq_true rfl⟩ rfl rfl rfl (As := []) (rest := []) rfl rfl (Nat.le_of_ble_eq_true rfl) dX11_readThrees_1 ⟨Nat.zero_le _, Nat.zero_le _⟩ (fun H locs hW => ?_)
  show W p l e (rmq 2 43) s m args below meth c H locs 0 0 Q (F0 m 4 ls [])
  refine lv_aload_n hx hb dX11_readThrees_4 rfl (lv_at hl 0 rfl) ?_
  refine gf_X11_162 C hW dX11_readThrees_5 ?_
  refine lv_iconst (v := 3) hx hb dX11_readThrees_8 (by decide) ?_
  refine lv_irem hx hb dX11_readThrees_9 (by decide) ?_
  refine lv_if_ne (tgt := 17) hx hb dX11_readThrees_10 (by decide) (fun c22 => ?_) (fun c22 => ?_)
  · have hf := (if_neg c22).symm.trans hf
    refine lv_iconst (v := 0) hx hb dX11_readThrees_17 (by decide) ?_
    exact J18 x1 (0 : Int32) _ _ _ hf hW (lv_sub hl [0, 1, 2] rfl)
  · have hf := (if_pos c22).symm.trans hf
    refine lv_iconst (v := 1) hx hb dX11_readThrees_13 (by decide) ?_
    refine lv_goto (tgt := 18) hx hb dX11_readThrees_14 (by decide) ?_
    exact J18 x1 (1 : Int32) _ _ _ hf hW (lv_sub hl [0, 1, 2] rfl)
set_option maxHeartbeats 4000000 in
set_option maxRecDepth 100000 in
theorem c_X11_canStand {l : Launch} {D : va_G} {tc : Nat → ClassId} {ro : Ro} {ad : Nat → Nat} {μ : Mm} {v1 v2 : Int32} {res : Int32} (hf : f_X11_canStand μ v1 v2 = some res) : Ct l D tc ro (faM ad) (feM tc ad) yX11_canStand cX11_canStand 3 (some .boolean) (rmq 1 21) [.ref (ad 0), .int v1, .int v2] μ (some (.int res)) μ := by
  refine Ct.of (by decide) (Nat.le_of_ble_eq_true rfl) (fun p e s m args below meth c A C hr hk hW ls hl => ?_)
  have hx := C.1.1
  have hb := C.1.2.1
  obtain ⟨Q, hQ⟩ : ∃ Q, Q = MQ below (Ctq D (faM ad) (feM tc ad) (some (.int res)) μ A) args s 0 0 A := ⟨_, rfl⟩
  rw [← hQ]
  have hl : lv_has ls 3 [(0, .ref (ad 0)), (1, .int v1), (2, .int v2)] := hl
  unfold f_X11_canStand at hf
  refine lv_iload_n hx hb dX11_canStand_0 rfl (lv_at hl 1 rfl) ?_
  refine lv_iload_n hx hb dX11_canStand_1 rfl (lv_at hl 2 rfl) ?_
  obtain ⟨x2, h2, hf⟩ := bd_of hf
  refine r_callS C hW hl lk_X11_103 (c_X11_has h2) ⟨rfl, rfl⟩ ⟨Nat.le_of_ble_eq_true rfl, Nat.le_of_ble_eq_true rfl⟩ (As := [.int v1, .int v2]) (rest := []) rfl rfl (Nat.le_of_ble_eq_true rfl) dX11_canStand_2 ⟨Nat.zero_le _, Nat.zero_le _⟩ (fun H locs hW => ?_)
  show W p l e (rmq 1 21) s m args below meth c H locs 0 0 Q (F0 m 5 ls [.int x2])
  refine lv_if_ne (tgt := 25) hx hb dX11_canStand_5 (by decide) (fun c2 => ?_) (fun c2 => ?_)
  · have hf := (if_neg c2).symm.trans hf
    refine lv_iconst (v := 0) hx hb dX11_canStand_25 (by decide) ?_
    obtain rfl := Option.some.inj hf
    rw [hQ]
    exact r_zret C hr hk hW (Or.inl rfl) rfl rfl dX11_canStand_26
  · have hf := (if_pos c2).symm.trans hf
    refine lv_aload_n hx hb dX11_canStand_8 rfl (lv_at hl 0 rfl) ?_
    refine gf_X11_83 C hW dX11_canStand_9 ?_
    refine lv_iload_n hx hb dX11_canStand_12 rfl (lv_at hl 2 rfl) ?_
    obtain ⟨hi3, hf⟩ := ck_of hf
    refine r_iald (k := ((33, 0) : Ky)) (n := 9) C hW rfl rfl hi3 dX11_canStand_13 ?_
    refine lv_iload_n hx hb dX11_canStand_14 rfl (lv_at hl 1 rfl) ?_
    refine lv_iconst (v := -1) hx hb dX11_canStand_15 (by decide) ?_
    refine lv_ixor hx hb dX11_canStand_16 ?_
    refine lv_iand hx hb dX11_canStand_17 ?_
    refine lv_if_ne (tgt := 25) hx hb dX11_canStand_18 (by decide) (fun c4 => ?_) (fun c4 => ?_)
    · have hf := (if_neg c4).symm.trans hf
      refine lv_iconst (v := 0) hx hb dX11_canStand_25 (by decide) ?_
      obtain rfl := Option.some.inj hf
      rw [hQ]
      exact r_zret C hr hk hW (Or.inl rfl) rfl rfl dX11_canStand_26
    · have hf := (if_pos c4).symm.trans hf
      refine lv_iconst (v := 1) hx hb dX11_canStand_21 (by decide) ?_
      refine lv_goto (tgt := 26) hx hb dX11_canStand_22 (by decide) ?_
      obtain rfl := Option.some.inj hf
      rw [hQ]
      exact r_zret C hr hk hW (Or.inr rfl) rfl rfl dX11_canStand_26
set_option maxHeartbeats 4000000 in
set_option maxRecDepth 100000 in
theorem c_X11_rows {l : Launch} {D : va_G} {tc : Nat → ClassId} {ro : Ro} {ad : Nat → Nat} {μ : Mm} {v1 : Int32} {res : Int32 × Mm} (hf : f_X11_rows μ v1 = some res) : Ct l D tc ro (faM ad) (feM tc ad) yX11_rows cX11_rows 7 (some .int) (rmq 3 67) [.ref (ad 0), .int v1] μ (some (.int res.1)) res.2 := by
  refine Ct.of (by decide) (Nat.le_of_ble_eq_true rfl) (fun p e s m args below meth c A C hr hk hW ls hl => ?_)
  have hx := C.1.1
  have hb := C.1.2.1
  obtain ⟨Q, hQ⟩ : ∃ Q, Q = MQ below (Ctq D (faM ad) (feM tc ad) (some (.int res.1)) res.2 A) args s 0 0 A := ⟨_, rfl⟩
  rw [← hQ]
  have hl : lv_has ls 7 [(0, .ref (ad 0)), (1, .int v1)] := hl
  unfold f_X11_rows at hf
  have J22 : ∀ (μ : Mm) (s0 : Int32) (H : Heap) (locs : List Loc) (ls : Array Slot), f_X11_rows_J22 μ v1 s0 = some res → Wd D (faM ad) (feM tc ad) A s.heap μ H locs → lv_has ls 7 [(0, .ref (ad 0)), (1, .int v1)] → W p l e (rmq 3 67) s m args below meth c H locs 0 0 Q (F0 m 22 ls [.int s0, .ref (ad 0)]) := by
    intro μ s0 H locs ls hf hW hl
    unfold f_X11_rows_J22 at hf
    refine lv_iconst (v := 1) hx hb dX11_rows_22 (by decide) ?_
    obtain ⟨x23, h23, hf⟩ := bd_of hf
    refine r_callV (k := ((0, 0) : Ky)) C hW hl lk_X11_322 (c_X11_throwsIf h23) ⟨rfl, rfl⟩ ⟨Nat.le_of_ble_eq_true rfl, Nat.le_of_ble_eq_true rfl⟩ rfl rfl rfl (As := [.int s0, .int (1 : Int32)]) (rest := []) rfl rfl (Nat.le_of_ble_eq_true rfl) dX11_rows_23 ⟨Nat.zero_le _, Nat.zero_le _⟩ (fun H locs hW => ?_)
    show W p l e (rmq 3 67) s m args below meth c H locs 0 0 Q (F0 m 26 ls [.int x23.1])
    refine lv_if_eq (tgt := 31) hx hb dX11_rows_26 (by decide) (fun c2 => ?_) (fun c2 => ?_)
    · have hf := (if_pos c2).symm.trans hf
      refine lv_aload_n hx hb dX11_rows_31 rfl (lv_at hl 0 rfl) ?_
      obtain ⟨x32, h32, hf⟩ := bd_of hf
      refine r_callV (k := ((0, 0) : Ky)) C hW hl lk_X11_107 (c_X11_people h32) ⟨rfl, rfl⟩ ⟨Nat.le_of_ble_eq_true rfl, Nat.le_of_ble_eq_true rfl⟩ rfl rfl rfl (As := []) (rest := []) rfl rfl (Nat.le_of_ble_eq_true rfl) dX11_rows_32 ⟨Nat.zero_le _, Nat.zero_le _⟩ (fun H locs hW => ?_)
      show W p l e (rmq 3 67) s m args below meth c H locs 0 0 Q (F0 m 35 ls [.int x32])
      refine lv_bipush (v := 7) hx hb dX11_rows_35 (by decide) ?_
      refine lv_icmp_le (tgt := 43) hx hb dX11_rows_37 (by decide) (fun c4 => ?_) (fun c4 => ?_)
      · have hf := (if_pos c4).symm.trans hf
        refine lv_iconst (v := 0) hx hb dX11_rows_43 (by decide) ?_
        refine lv_istore_n (lv' := [(3, .int (0 : Int32)), (0, .ref (ad 0)), (1, .int v1)]) hx hb dX11_rows_44 rfl hl (by decide) rfl (fun ls hl => ?_)
        have L45 : ∀ (μ : Mm) (v3 : Int32) (H : Heap) (locs : List Loc) (ls : Array Slot), Wh (fun z : Mm × Int32 => f_X11_rows_L45 v1 z.1 z.2) (μ, v3) = some res → Wd D (faM ad) (feM tc ad) A s.heap μ H locs → lv_has ls 7 [(0, .ref (ad 0)), (1, .int v1), (3, .int v3)] → W p l e (rmq 3 67) s m args below meth c H locs 0 0 Q (F0 m 45 ls []) := by
          intro μ v3 H locs ls hf hW hl
          refine Wh_rule hf (fun z : Mm × Int32 => ∀ (H : Heap) (locs : List Loc) (ls : Array Slot), Wd D (faM ad) (feM tc ad) A s.heap z.1 H locs → lv_has ls 7 [(0, .ref (ad 0)), (1, .int v1), (3, .int z.2)] → W p l e (rmq 3 67) s m args below meth c H locs 0 0 Q (F0 m 45 ls [])) (fun z o1 hf Kl1 Kr1 => ?_) _ _ _ hW hl
          obtain ⟨μ, v3⟩ := z
          intro H locs ls hW hl
          have hf : f_X11_rows_L45 v1 μ v3 = some o1 := hf
          unfold f_X11_rows_L45 at hf
          have hW : Wd D (faM ad) (feM tc ad) A s.heap μ H locs := hW
          have hl : lv_has ls 7 [(0, .ref (ad 0)), (1, .int v1), (3, .int v3)] := hl
          refine lv_iload_n hx hb dX11_rows_45 rfl (lv_at hl 2 rfl) ?_
          refine lv_aload_n hx hb dX11_rows_46 rfl (lv_at hl 0 rfl) ?_
          obtain ⟨x47, h47, hf⟩ := bd_of hf
          refine r_callV (k := ((0, 0) : Ky)) C hW hl lk_X11_107 (c_X11_people h47) ⟨rfl, rfl⟩ ⟨Nat.le_of_ble_eq_true rfl, Nat.le_of_ble_eq_true rfl⟩ rfl rfl rfl (As := []) (rest := [.int v3]) rfl rfl (Nat.le_of_ble_eq_true rfl) dX11_rows_47 ⟨Nat.zero_le _, Nat.zero_le _⟩ (fun H locs hW => ?_)
          show W p l e (rmq 3 67) s m args below meth c H locs 0 0 Q (F0 m 50 ls [.int x47, .int v3])
          refine lv_icmp_ge (tgt := 66) hx hb dX11_rows_50 (by decide) (fun c6 => ?_) (fun c6 => ?_)
          · have hf := (if_pos c6).symm.trans hf
            obtain ⟨x9049, hf, hx9049⟩ := map_of hf
            have e9049 := (Kr1 _ hx9049.symm).symm
            subst e9049
            refine lv_iconst (v := 0) hx hb dX11_rows_66 (by decide) ?_
            refine lv_istore_n (lv' := [(3, .int (0 : Int32)), (0, .ref (ad 0)), (1, .int v1)]) hx hb dX11_rows_67 rfl hl (by decide) rfl (fun ls hl => ?_)
            have L68 : ∀ (μ : Mm) (v3 : Int32) (H : Heap) (locs : List Loc) (ls : Array Slot), Wh (fun z : Mm × Int32 => f_X11_rows_L68 v1 z.1 z.2) (μ, v3) = some res → Wd D (faM ad) (feM tc ad) A s.heap μ H locs → lv_has ls 7 [(0, .ref (ad 0)), (1, .int v1), (3, .int v3)] → W p l e (rmq 3 67) s m args below meth c H locs 0 0 Q (F0 m 68 ls []) := by
              intro μ v3 H locs ls hf hW hl
              refine Wh_rule hf (fun z : Mm × Int32 => ∀ (H : Heap) (locs : List Loc) (ls : Array Slot), Wd D (faM ad) (feM tc ad) A s.heap z.1 H locs → lv_has ls 7 [(0, .ref (ad 0)), (1, .int v1), (3, .int z.2)] → W p l e (rmq 3 67) s m args below meth c H locs 0 0 Q (F0 m 68 ls [])) (fun z o1 hf Kl1 Kr1 => ?_) _ _ _ hW hl
              obtain ⟨μ, v3⟩ := z
              intro H locs ls hW hl
              have hf : f_X11_rows_L68 v1 μ v3 = some o1 := hf
              unfold f_X11_rows_L68 at hf
              have hW : Wd D (faM ad) (feM tc ad) A s.heap μ H locs := hW
              have hl : lv_has ls 7 [(0, .ref (ad 0)), (1, .int v1), (3, .int v3)] := hl
              refine lv_iload_n hx hb dX11_rows_68 rfl (lv_at hl 2 rfl) ?_
              refine lv_aload_n hx hb dX11_rows_69 rfl (lv_at hl 0 rfl) ?_
              refine gf_X11_162 C hW dX11_rows_70 ?_
              refine lv_icmp_ge (tgt := 149) hx hb dX11_rows_73 (by decide) (fun c7 => ?_) (fun c7 => ?_)
              · have hf := (if_pos c7).symm.trans hf
                obtain ⟨x9040, hf, hx9040⟩ := map_of hf
                have e9040 := (Kr1 _ hx9040.symm).symm
                subst e9040
                refine lv_iconst (v := 1) hx hb dX11_rows_149 (by decide) ?_
                refine lv_aload_n hx hb dX11_rows_150 rfl (lv_at hl 0 rfl) ?_
                obtain ⟨x151, h151, hf⟩ := bd_of hf
                refine r_callV (k := ((0, 0) : Ky)) C hW hl lk_X11_107 (c_X11_people h151) ⟨rfl, rfl⟩ ⟨Nat.le_of_ble_eq_true rfl, Nat.le_of_ble_eq_true rfl⟩ rfl rfl rfl (As := []) (rest := [.int (1 : Int32)]) rfl rfl (Nat.le_of_ble_eq_true rfl) dX11_rows_151 ⟨Nat.zero_le _, Nat.zero_le _⟩ (fun H locs hW => ?_)
                show W p l e (rmq 3 67) s m args below meth c H locs 0 0 Q (F0 m 154 ls [.int x151, .int (1 : Int32)])
                refine lv_ishl hx hb dX11_rows_154 ?_
                refine lv_iconst (v := 1) hx hb dX11_rows_155 (by decide) ?_
                refine lv_isub hx hb dX11_rows_156 ?_
                refine lv_istore_n (lv' := [(3, .int (((1 : Int32) <<< (x151 &&& 31)) - (1 : Int32))), (0, .ref (ad 0)), (1, .int v1)]) hx hb dX11_rows_157 rfl hl (by decide) rfl (fun ls hl => ?_)
                refine lv_iload_n hx hb dX11_rows_158 rfl (lv_at hl 0 rfl) ?_
                refine lv_istore (lv' := [(4, .int (((1 : Int32) <<< (x151 &&& 31)) - (1 : Int32))), (3, .int (((1 : Int32) <<< (x151 &&& 31)) - (1 : Int32))), (0, .ref (ad 0)), (1, .int v1)]) hx hb dX11_rows_159 hl (by decide) rfl (fun ls hl => ?_)
                have L161 : ∀ (μ : Mm) (v3 v4 : Int32) (H : Heap) (locs : List Loc) (ls : Array Slot), Wh (fun z : Mm × Int32 => f_X11_rows_L161 v1 v3 z.1 z.2) (μ, v4) = some res → Wd D (faM ad) (feM tc ad) A s.heap μ H locs → lv_has ls 7 [(0, .ref (ad 0)), (1, .int v1), (3, .int v3), (4, .int v4)] → W p l e (rmq 3 67) s m args below meth c H locs 0 0 Q (F0 m 161 ls []) := by
                  intro μ v3 v4 H locs ls hf hW hl
                  refine Wh_rule hf (fun z : Mm × Int32 => ∀ (H : Heap) (locs : List Loc) (ls : Array Slot), Wd D (faM ad) (feM tc ad) A s.heap z.1 H locs → lv_has ls 7 [(0, .ref (ad 0)), (1, .int v1), (3, .int v3), (4, .int z.2)] → W p l e (rmq 3 67) s m args below meth c H locs 0 0 Q (F0 m 161 ls [])) (fun z o1 hf Kl1 Kr1 => ?_) _ _ _ hW hl
                  obtain ⟨μ, v4⟩ := z
                  intro H locs ls hW hl
                  have hf : f_X11_rows_L161 v1 v3 μ v4 = some o1 := hf
                  unfold f_X11_rows_L161 at hf
                  have hW : Wd D (faM ad) (feM tc ad) A s.heap μ H locs := hW
                  have hl : lv_has ls 7 [(0, .ref (ad 0)), (1, .int v1), (3, .int v3), (4, .int v4)] := hl
                  have J183 : ∀ (μ : Mm) (v4 s0 s1 : Int32) (H : Heap) (locs : List Loc) (ls : Array Slot), f_X11_rows_J183 μ v1 v3 v4 s0 s1 = some o1 → Wd D (faM ad) (feM tc ad) A s.heap μ H locs → lv_has ls 7 [(0, .ref (ad 0)), (1, .int v1), (3, .int v3), (4, .int v4)] → W p l e (rmq 3 67) s m args below meth c H locs 0 0 Q (F0 m 183 ls [.int s0, .int s1, .ref (ad 34)]) := by
                    intro μ v4 s0 s1 H locs ls hf hW hl
                    unfold f_X11_rows_J183 at hf
                    obtain ⟨hi9, hf⟩ := ck_of hf
                    refine r_iast (k := ((34, 0) : Ky)) (n := 512) C hW rfl (fun _ => rfl) hi9 dX11_rows_183 (fun H locs hW => ?_)
                    refine lv_iconst (v := 0) hx hb dX11_rows_184 (by decide) ?_
                    refine lv_istore (lv' := [(5, .int (0 : Int32)), (0, .ref (ad 0)), (1, .int v1), (3, .int v3), (4, .int v4)]) hx hb dX11_rows_185 hl (by decide) rfl (fun ls hl => ?_)
                    have L187 : ∀ (μ : Mm) (v4 v5 : Int32) (H : Heap) (locs : List Loc) (ls : Array Slot), Wh (fun z : Mm × Int32 => f_X11_rows_L187 v1 v3 v4 z.1 z.2) (μ, v5) = some o1 → Wd D (faM ad) (feM tc ad) A s.heap μ H locs → lv_has ls 7 [(0, .ref (ad 0)), (1, .int v1), (3, .int v3), (4, .int v4), (5, .int v5)] → W p l e (rmq 3 67) s m args below meth c H locs 0 0 Q (F0 m 187 ls []) := by
                      intro μ v4 v5 H locs ls hf hW hl
                      refine Wh_rule hf (fun z : Mm × Int32 => ∀ (H : Heap) (locs : List Loc) (ls : Array Slot), Wd D (faM ad) (feM tc ad) A s.heap z.1 H locs → lv_has ls 7 [(0, .ref (ad 0)), (1, .int v1), (3, .int v3), (4, .int v4), (5, .int z.2)] → W p l e (rmq 3 67) s m args below meth c H locs 0 0 Q (F0 m 187 ls [])) (fun z o2 hf Kl2 Kr2 => ?_) _ _ _ hW hl
                      obtain ⟨μ, v5⟩ := z
                      intro H locs ls hW hl
                      have hf : f_X11_rows_L187 v1 v3 v4 μ v5 = some o2 := hf
                      unfold f_X11_rows_L187 at hf
                      have hW : Wd D (faM ad) (feM tc ad) A s.heap μ H locs := hW
                      have hl : lv_has ls 7 [(0, .ref (ad 0)), (1, .int v1), (3, .int v3), (4, .int v4), (5, .int v5)] := hl
                      refine lv_iload hx hb dX11_rows_187 (lv_at hl 4 rfl) ?_
                      refine lv_aload_n hx hb dX11_rows_189 rfl (lv_at hl 0 rfl) ?_
                      obtain ⟨x190, h190, hf⟩ := bd_of hf
                      refine r_callV (k := ((0, 0) : Ky)) C hW hl lk_X11_107 (c_X11_people h190) ⟨rfl, rfl⟩ ⟨Nat.le_of_ble_eq_true rfl, Nat.le_of_ble_eq_true rfl⟩ rfl rfl rfl (As := []) (rest := [.int v5]) rfl rfl (Nat.le_of_ble_eq_true rfl) dX11_rows_190 ⟨Nat.zero_le _, Nat.zero_le _⟩ (fun H locs hW => ?_)
                      show W p l e (rmq 3 67) s m args below meth c H locs 0 0 Q (F0 m 193 ls [.int x190, .int v5])
                      refine lv_icmp_ge (tgt := 239) hx hb dX11_rows_193 (by decide) (fun c11 => ?_) (fun c11 => ?_)
                      · have hf := (if_pos c11).symm.trans hf
                        obtain ⟨x9012, hf, hx9012⟩ := map_of hf
                        have e9012 := (Kr2 _ hx9012.symm).symm
                        subst e9012
                        refine lv_iinc (v := (v4 + (-1 : Int32))) (lv' := [(4, .int (v4 + (-1 : Int32))), (0, .ref (ad 0)), (1, .int v1), (3, .int v3), (5, .int v5)]) hx hb dX11_rows_239 hl (k := 3) rfl rfl (by decide) rfl (fun ls hl => ?_)
                        refine lv_goto (tgt := 161) hx hb dX11_rows_242 (by decide) ?_
                        obtain rfl := Option.some.inj hf
                        exact Kl1 _ rfl _ _ _ hW (lv_sub hl [1, 2, 3, 0] rfl)
                      · have hf := (if_neg c11).symm.trans hf
                        refine lv_aload_n hx hb dX11_rows_196 rfl (lv_at hl 0 rfl) ?_
                        refine gf_X11_86 C hW dX11_rows_197 ?_
                        refine lv_iload hx hb dX11_rows_200 (lv_at hl 3 rfl) ?_
                        refine lv_dup2_11 hx hb dX11_rows_202 rfl rfl ?_
                        obtain ⟨hi13, hf⟩ := ck_of hf
                        refine r_iald (k := ((34, 0) : Ky)) (n := 512) C hW rfl rfl hi13 dX11_rows_203 ?_
                        refine lv_aload_n hx hb dX11_rows_204 rfl (lv_at hl 0 rfl) ?_
                        refine lv_iload hx hb dX11_rows_205 (lv_at hl 3 rfl) ?_
                        refine lv_iload hx hb dX11_rows_207 (lv_at hl 4 rfl) ?_
                        obtain ⟨x209, h209, hf⟩ := bd_of hf
                        refine r_callV (k := ((0, 0) : Ky)) C hW hl lk_X11_461 (c_X11_canStand h209) ⟨rfl, rfl⟩ ⟨Nat.le_of_ble_eq_true rfl, Nat.le_of_ble_eq_true rfl⟩ rfl rfl rfl (As := [.int v4, .int v5]) (rest := [.int (μ (34, 0) v4.toNatClampNeg), .int v4, .ref (ad 34)]) rfl rfl (Nat.le_of_ble_eq_true rfl) dX11_rows_209 ⟨Nat.zero_le _, Nat.zero_le _⟩ (fun H locs hW => ?_)
                        show W p l e (rmq 3 67) s m args below meth c H locs 0 0 Q (F0 m 212 ls [.int x209, .int (μ (34, 0) v4.toNatClampNeg), .int v4, .ref (ad 34)])
                        refine lv_if_eq (tgt := 230) hx hb dX11_rows_212 (by decide) (fun c15 => ?_) (fun c15 => ?_)
                        · have hf := (if_pos c15).symm.trans hf
                          refine lv_iconst (v := 0) hx hb dX11_rows_230 (by decide) ?_
                          refine lv_iadd hx hb dX11_rows_231 ?_
                          obtain ⟨hi16, hf⟩ := ck_of hf
                          refine r_iast (k := ((34, 0) : Ky)) (n := 512) C hW rfl (fun _ => rfl) hi16 dX11_rows_232 (fun H locs hW => ?_)
                          refine lv_iinc (v := (v5 + (1 : Int32))) (lv' := [(5, .int (v5 + (1 : Int32))), (0, .ref (ad 0)), (1, .int v1), (3, .int v3), (4, .int v4)]) hx hb dX11_rows_233 hl (k := 4) rfl rfl (by decide) rfl (fun ls hl => ?_)
                          refine lv_goto (tgt := 187) hx hb dX11_rows_236 (by decide) ?_
                          obtain rfl := Option.some.inj hf
                          exact Kl2 _ rfl _ _ _ hW (lv_sub hl [1, 2, 3, 4, 0] rfl)
                        · have hf := (if_neg c15).symm.trans hf
                          refine lv_aload_n hx hb dX11_rows_215 rfl (lv_at hl 0 rfl) ?_
                          refine gf_X11_86 C hW dX11_rows_216 ?_
                          refine lv_iload hx hb dX11_rows_219 (lv_at hl 3 rfl) ?_
                          refine lv_iconst (v := 1) hx hb dX11_rows_221 (by decide) ?_
                          refine lv_iload hx hb dX11_rows_222 (lv_at hl 4 rfl) ?_
                          refine lv_ishl hx hb dX11_rows_224 ?_
                          refine lv_ior hx hb dX11_rows_225 ?_
                          obtain ⟨hi17, hf⟩ := ck_of hf
                          refine r_iald (k := ((34, 0) : Ky)) (n := 512) C hW rfl rfl hi17 dX11_rows_226 ?_
                          refine lv_goto (tgt := 231) hx hb dX11_rows_227 (by decide) ?_
                          refine lv_iadd hx hb dX11_rows_231 ?_
                          obtain ⟨hi18, hf⟩ := ck_of hf
                          refine r_iast (k := ((34, 0) : Ky)) (n := 512) C hW rfl (fun _ => rfl) hi18 dX11_rows_232 (fun H locs hW => ?_)
                          refine lv_iinc (v := (v5 + (1 : Int32))) (lv' := [(5, .int (v5 + (1 : Int32))), (0, .ref (ad 0)), (1, .int v1), (3, .int v3), (4, .int v4)]) hx hb dX11_rows_233 hl (k := 4) rfl rfl (by decide) rfl (fun ls hl => ?_)
                          refine lv_goto (tgt := 187) hx hb dX11_rows_236 (by decide) ?_
                          obtain rfl := Option.some.inj hf
                          exact Kl2 _ rfl _ _ _ hW (lv_sub hl [1, 2, 3, 4, 0] rfl)
                    exact L187 (mst μ (34, 0) s1.toNatClampNeg s0) v4 (0 : Int32) _ _ _ hf hW (lv_sub hl [1, 2, 3, 4, 0] rfl)
                  refine lv_iload hx hb dX11_rows_161 (lv_at hl 3 rfl) ?_
                  refine lv_if_lt (tgt := 245) hx hb dX11_rows_163 (by decide) (fun c19 => ?_) (fun c19 => ?_)
                  · have hf := (if_pos c19).symm.trans hf
                    obtain ⟨x9038, hf, hx9038⟩ := map_of hf
                    have e9038 := (Kr1 _ hx9038.symm).symm
                    subst e9038
                    refine lv_iload_n hx hb dX11_rows_245 rfl (lv_at hl 1 rfl) ?_
                    refine lv_iconst (v := -1) hx hb dX11_rows_246 (by decide) ?_
                    refine lv_icmp_eq (tgt := 267) hx hb dX11_rows_247 (by decide) (fun c20 => ?_) (fun c20 => ?_)
                    · have hf := (if_pos c20).symm.trans hf
                      refine lv_iload_n hx hb dX11_rows_267 rfl (lv_at hl 1 rfl) ?_
                      refine lv_iconst (v := -1) hx hb dX11_rows_268 (by decide) ?_
                      refine lv_icmp_ne (tgt := 281) hx hb dX11_rows_269 (by decide) (fun c21 => ?_) (fun c21 => ?_)
                      · have hf := (if_neg c21).symm.trans hf
                        refine lv_iconst (v := -1) hx hb dX11_rows_281 (by decide) ?_
                        obtain rfl := Option.some.inj hf
                        rw [hQ]
                        exact r_iret C hr hk hW rfl rfl dX11_rows_282
                      · have hf := (if_pos c21).symm.trans hf
                        refine lv_aload_n hx hb dX11_rows_272 rfl (lv_at hl 0 rfl) ?_
                        refine gf_X11_86 C hW dX11_rows_273 ?_
                        refine lv_iconst (v := 0) hx hb dX11_rows_276 (by decide) ?_
                        obtain ⟨hi22, hf⟩ := ck_of hf
                        refine r_iald (k := ((34, 0) : Ky)) (n := 512) C hW rfl rfl hi22 dX11_rows_277 ?_
                        refine lv_goto (tgt := 282) hx hb dX11_rows_278 (by decide) ?_
                        obtain rfl := Option.some.inj hf
                        rw [hQ]
                        exact r_iret C hr hk hW rfl rfl dX11_rows_282
                    · have hf := (if_neg c20).symm.trans hf
                      refine lv_aload_n hx hb dX11_rows_250 rfl (lv_at hl 0 rfl) ?_
                      refine gf_X11_86 C hW dX11_rows_251 ?_
                      refine lv_iconst (v := 0) hx hb dX11_rows_254 (by decide) ?_
                      obtain ⟨hi23, hf⟩ := ck_of hf
                      refine r_iald (k := ((34, 0) : Ky)) (n := 512) C hW rfl rfl hi23 dX11_rows_255 ?_
                      refine lv_if_eq (tgt := 267) hx hb dX11_rows_256 (by decide) (fun c24 => ?_) (fun c24 => ?_)
                      · have hf := (if_pos c24).symm.trans hf
                        refine lv_iload_n hx hb dX11_rows_267 rfl (lv_at hl 1 rfl) ?_
                        refine lv_iconst (v := -1) hx hb dX11_rows_268 (by decide) ?_
                        refine lv_icmp_ne (tgt := 281) hx hb dX11_rows_269 (by decide) (fun c25 => ?_) (fun c25 => ?_)
                        · have hf := (if_neg c25).symm.trans hf
                          refine lv_iconst (v := -1) hx hb dX11_rows_281 (by decide) ?_
                          obtain rfl := Option.some.inj hf
                          rw [hQ]
                          exact r_iret C hr hk hW rfl rfl dX11_rows_282
                        · have hf := (if_pos c25).symm.trans hf
                          refine lv_aload_n hx hb dX11_rows_272 rfl (lv_at hl 0 rfl) ?_
                          refine gf_X11_86 C hW dX11_rows_273 ?_
                          refine lv_iconst (v := 0) hx hb dX11_rows_276 (by decide) ?_
                          obtain ⟨hi26, hf⟩ := ck_of hf
                          refine r_iald (k := ((34, 0) : Ky)) (n := 512) C hW rfl rfl hi26 dX11_rows_277 ?_
                          refine lv_goto (tgt := 282) hx hb dX11_rows_278 (by decide) ?_
                          obtain rfl := Option.some.inj hf
                          rw [hQ]
                          exact r_iret C hr hk hW rfl rfl dX11_rows_282
                      · have hf := (if_neg c24).symm.trans hf
                        refine lv_iload_n hx hb dX11_rows_259 rfl (lv_at hl 1 rfl) ?_
                        refine lv_aload_n hx hb dX11_rows_260 rfl (lv_at hl 0 rfl) ?_
                        obtain ⟨x261, h261, hf⟩ := bd_of hf
                        refine r_callV (k := ((0, 0) : Ky)) C hW hl lk_X11_107 (c_X11_people h261) ⟨rfl, rfl⟩ ⟨Nat.le_of_ble_eq_true rfl, Nat.le_of_ble_eq_true rfl⟩ rfl rfl rfl (As := []) (rest := [.int v1]) rfl rfl (Nat.le_of_ble_eq_true rfl) dX11_rows_261 ⟨Nat.zero_le _, Nat.zero_le _⟩ (fun H locs hW => ?_)
                        show W p l e (rmq 3 67) s m args below meth c H locs 0 0 Q (F0 m 264 ls [.int x261, .int v1])
                        refine lv_icmp_lt (tgt := 283) hx hb dX11_rows_264 (by decide) (fun c28 => ?_) (fun c28 => ?_)
                        · have hf := (if_pos c28).symm.trans hf
                          refine lv_iconst (v := 0) hx hb dX11_rows_283 (by decide) ?_
                          refine lv_istore (lv' := [(4, .int (0 : Int32)), (0, .ref (ad 0)), (1, .int v1), (3, .int v3)]) hx hb dX11_rows_284 hl (by decide) rfl (fun ls hl => ?_)
                          refine lv_iconst (v := -1) hx hb dX11_rows_286 (by decide) ?_
                          refine lv_istore (lv' := [(5, .int (-1 : Int32)), (4, .int (0 : Int32)), (0, .ref (ad 0)), (1, .int v1), (3, .int v3)]) hx hb dX11_rows_287 hl (by decide) rfl (fun ls hl => ?_)
                          refine lv_iconst (v := 0) hx hb dX11_rows_289 (by decide) ?_
                          refine lv_istore (lv' := [(6, .int (0 : Int32)), (5, .int (-1 : Int32)), (4, .int (0 : Int32)), (0, .ref (ad 0)), (1, .int v1), (3, .int v3)]) hx hb dX11_rows_290 hl (by decide) rfl (fun ls hl => ?_)
                          have L292 : ∀ (μ : Mm) (v4 v5 v6 : Int32) (H : Heap) (locs : List Loc) (ls : Array Slot), Wh (fun z : Int32 × Int32 × Int32 => f_X11_rows_L292 v1 μ z.1 z.2.1 z.2.2) (v4, v5, v6) = some res → Wd D (faM ad) (feM tc ad) A s.heap μ H locs → lv_has ls 7 [(0, .ref (ad 0)), (1, .int v1), (4, .int v4), (5, .int v5), (6, .int v6)] → W p l e (rmq 3 67) s m args below meth c H locs 0 0 Q (F0 m 292 ls []) := by
                            intro μ v4 v5 v6 H locs ls hf hW hl
                            refine Wh_rule hf (fun z : Int32 × Int32 × Int32 => ∀ (H : Heap) (locs : List Loc) (ls : Array Slot), Wd D (faM ad) (feM tc ad) A s.heap μ H locs → lv_has ls 7 [(0, .ref (ad 0)), (1, .int v1), (4, .int z.1), (5, .int z.2.1), (6, .int z.2.2)] → W p l e (rmq 3 67) s m args below meth c H locs 0 0 Q (F0 m 292 ls [])) (fun z o1 hf Kl1 Kr1 => ?_) _ _ _ hW hl
                            obtain ⟨v4, v5, v6⟩ := z
                            intro H locs ls hW hl
                            have hf : f_X11_rows_L292 v1 μ v4 v5 v6 = some o1 := hf
                            unfold f_X11_rows_L292 at hf
                            have hW : Wd D (faM ad) (feM tc ad) A s.heap μ H locs := hW
                            have hl : lv_has ls 7 [(0, .ref (ad 0)), (1, .int v1), (4, .int v4), (5, .int v5), (6, .int v6)] := hl
                            refine lv_iload hx hb dX11_rows_292 (lv_at hl 4 rfl) ?_
                            refine lv_iload_n hx hb dX11_rows_294 rfl (lv_at hl 1 rfl) ?_
                            refine lv_icmp_gt (tgt := 348) hx hb dX11_rows_295 (by decide) (fun c29 => ?_) (fun c29 => ?_)
                            · have hf := (if_pos c29).symm.trans hf
                              obtain ⟨x9030, hf, hx9030⟩ := map_of hf
                              have e9030 := (Kr1 _ hx9030.symm).symm
                              subst e9030
                              refine lv_iload hx hb dX11_rows_348 (lv_at hl 3 rfl) ?_
                              obtain rfl := Option.some.inj hf
                              rw [hQ]
                              exact r_iret C hr hk hW rfl rfl dX11_rows_350
                            · have hf := (if_neg c29).symm.trans hf
                              refine lv_iconst (v := 0) hx hb dX11_rows_298 (by decide) ?_
                              refine lv_istore (lv' := [(5, .int (0 : Int32)), (0, .ref (ad 0)), (1, .int v1), (4, .int v4), (6, .int v6)]) hx hb dX11_rows_299 hl (by decide) rfl (fun ls hl => ?_)
                              have L301 : ∀ (v4 v5 v6 : Int32) (H : Heap) (locs : List Loc) (ls : Array Slot), Wh (fun z : Int32 => f_X11_rows_L301 v1 v4 v6 μ z) (v5) = some o1 → Wd D (faM ad) (feM tc ad) A s.heap μ H locs → lv_has ls 7 [(0, .ref (ad 0)), (1, .int v1), (4, .int v4), (5, .int v5), (6, .int v6)] → W p l e (rmq 3 67) s m args below meth c H locs 0 0 Q (F0 m 301 ls []) := by
                                intro v4 v5 v6 H locs ls hf hW hl
                                refine Wh_rule hf (fun z : Int32 => ∀ (H : Heap) (locs : List Loc) (ls : Array Slot), Wd D (faM ad) (feM tc ad) A s.heap μ H locs → lv_has ls 7 [(0, .ref (ad 0)), (1, .int v1), (4, .int v4), (5, .int z), (6, .int v6)] → W p l e (rmq 3 67) s m args below meth c H locs 0 0 Q (F0 m 301 ls [])) (fun z o2 hf Kl2 Kr2 => ?_) _ _ _ hW hl
                                obtain ⟨v5, ez⟩ : ∃ q, q = z := ⟨_, rfl⟩
                                subst ez
                                intro H locs ls hW hl
                                have hf : f_X11_rows_L301 v1 v4 v6 μ v5 = some o2 := hf
                                unfold f_X11_rows_L301 at hf
                                have hW : Wd D (faM ad) (feM tc ad) A s.heap μ H locs := hW
                                have hl : lv_has ls 7 [(0, .ref (ad 0)), (1, .int v1), (4, .int v4), (5, .int v5), (6, .int v6)] := hl
                                refine lv_aload_n hx hb dX11_rows_301 rfl (lv_at hl 0 rfl) ?_
                                refine lv_iload hx hb dX11_rows_302 (lv_at hl 2 rfl) ?_
                                refine lv_iload hx hb dX11_rows_304 (lv_at hl 3 rfl) ?_
                                obtain ⟨x306, h306, hf⟩ := bd_of hf
                                refine r_callV (k := ((0, 0) : Ky)) C hW hl lk_X11_461 (c_X11_canStand h306) ⟨rfl, rfl⟩ ⟨Nat.le_of_ble_eq_true rfl, Nat.le_of_ble_eq_true rfl⟩ rfl rfl rfl (As := [.int v4, .int v5]) (rest := []) rfl rfl (Nat.le_of_ble_eq_true rfl) dX11_rows_306 ⟨Nat.zero_le _, Nat.zero_le _⟩ (fun H locs hW => ?_)
                                show W p l e (rmq 3 67) s m args below meth c H locs 0 0 Q (F0 m 309 ls [.int x306])
                                refine lv_if_eq (tgt := 327) hx hb dX11_rows_309 (by decide) (fun c32 => ?_) (fun c32 => ?_)
                                · have hf := (if_pos c32).symm.trans hf
                                  refine lv_iinc (v := (v5 + (1 : Int32))) (lv' := [(5, .int (v5 + (1 : Int32))), (0, .ref (ad 0)), (1, .int v1), (4, .int v4), (6, .int v6)]) hx hb dX11_rows_327 hl (k := 3) rfl rfl (by decide) rfl (fun ls hl => ?_)
                                  refine lv_goto (tgt := 301) hx hb dX11_rows_330 (by decide) ?_
                                  obtain rfl := Option.some.inj hf
                                  exact Kl2 _ rfl _ _ _ hW (lv_sub hl [1, 2, 3, 0, 4] rfl)
                                · have hf := (if_neg c32).symm.trans hf
                                  refine lv_aload_n hx hb dX11_rows_312 rfl (lv_at hl 0 rfl) ?_
                                  refine gf_X11_86 C hW dX11_rows_313 ?_
                                  refine lv_iload hx hb dX11_rows_316 (lv_at hl 2 rfl) ?_
                                  refine lv_iconst (v := 1) hx hb dX11_rows_318 (by decide) ?_
                                  refine lv_iload hx hb dX11_rows_319 (lv_at hl 3 rfl) ?_
                                  refine lv_ishl hx hb dX11_rows_321 ?_
                                  refine lv_ior hx hb dX11_rows_322 ?_
                                  obtain ⟨hi33, hf⟩ := ck_of hf
                                  refine r_iald (k := ((34, 0) : Ky)) (n := 512) C hW rfl rfl hi33 dX11_rows_323 ?_
                                  refine lv_if_ne (tgt := 333) hx hb dX11_rows_324 (by decide) (fun c34 => ?_) (fun c34 => ?_)
                                  · have hf := (if_neg c34).symm.trans hf
                                    obtain ⟨x9035, hf, hx9035⟩ := map_of hf
                                    have e9035 := (Kr2 _ hx9035.symm).symm
                                    subst e9035
                                    refine lv_iload hx hb dX11_rows_333 (lv_at hl 2 rfl) ?_
                                    refine lv_iconst (v := 1) hx hb dX11_rows_335 (by decide) ?_
                                    refine lv_iload hx hb dX11_rows_336 (lv_at hl 3 rfl) ?_
                                    refine lv_ishl hx hb dX11_rows_338 ?_
                                    refine lv_ior hx hb dX11_rows_339 ?_
                                    refine lv_istore (lv' := [(4, .int (v4 ||| ((1 : Int32) <<< (v5 &&& 31)))), (0, .ref (ad 0)), (1, .int v1), (5, .int v5), (6, .int v6)]) hx hb dX11_rows_340 hl (by decide) rfl (fun ls hl => ?_)
                                    refine lv_iinc (v := (v6 + (1 : Int32))) (lv' := [(6, .int (v6 + (1 : Int32))), (4, .int (v4 ||| ((1 : Int32) <<< (v5 &&& 31)))), (0, .ref (ad 0)), (1, .int v1), (5, .int v5)]) hx hb dX11_rows_342 hl (k := 4) rfl rfl (by decide) rfl (fun ls hl => ?_)
                                    refine lv_goto (tgt := 292) hx hb dX11_rows_345 (by decide) ?_
                                    obtain rfl := Option.some.inj hf
                                    exact Kl1 _ rfl _ _ _ hW (lv_sub hl [2, 3, 1, 4, 0] rfl)
                                  · have hf := (if_pos c34).symm.trans hf
                                    refine lv_iinc (v := (v5 + (1 : Int32))) (lv' := [(5, .int (v5 + (1 : Int32))), (0, .ref (ad 0)), (1, .int v1), (4, .int v4), (6, .int v6)]) hx hb dX11_rows_327 hl (k := 3) rfl rfl (by decide) rfl (fun ls hl => ?_)
                                    refine lv_goto (tgt := 301) hx hb dX11_rows_330 (by decide) ?_
                                    obtain rfl := Option.some.inj hf
                                    exact Kl2 _ rfl _ _ _ hW (lv_sub hl [1, 2, 3, 0, 4] rfl)
                              exact L301 v4 (0 : Int32) v6 _ _ _ hf hW (lv_sub hl [1, 2, 3, 0, 4] rfl)
                          exact L292 μ (0 : Int32) (-1 : Int32) (0 : Int32) _ _ _ hf hW (lv_sub hl [3, 4, 2, 1, 0] rfl)
                        · have hf := (if_neg c28).symm.trans hf
                          refine lv_iload_n hx hb dX11_rows_267 rfl (lv_at hl 1 rfl) ?_
                          refine lv_iconst (v := -1) hx hb dX11_rows_268 (by decide) ?_
                          refine lv_icmp_ne (tgt := 281) hx hb dX11_rows_269 (by decide) (fun c36 => ?_) (fun c36 => ?_)
                          · have hf := (if_neg c36).symm.trans hf
                            refine lv_iconst (v := -1) hx hb dX11_rows_281 (by decide) ?_
                            obtain rfl := Option.some.inj hf
                            rw [hQ]
                            exact r_iret C hr hk hW rfl rfl dX11_rows_282
                          · have hf := (if_pos c36).symm.trans hf
                            refine lv_aload_n hx hb dX11_rows_272 rfl (lv_at hl 0 rfl) ?_
                            refine gf_X11_86 C hW dX11_rows_273 ?_
                            refine lv_iconst (v := 0) hx hb dX11_rows_276 (by decide) ?_
                            obtain ⟨hi37, hf⟩ := ck_of hf
                            refine r_iald (k := ((34, 0) : Ky)) (n := 512) C hW rfl rfl hi37 dX11_rows_277 ?_
                            refine lv_goto (tgt := 282) hx hb dX11_rows_278 (by decide) ?_
                            obtain rfl := Option.some.inj hf
                            rw [hQ]
                            exact r_iret C hr hk hW rfl rfl dX11_rows_282
                  · have hf := (if_neg c19).symm.trans hf
                    refine lv_aload_n hx hb dX11_rows_166 rfl (lv_at hl 0 rfl) ?_
                    refine gf_X11_86 C hW dX11_rows_167 ?_
                    refine lv_iload hx hb dX11_rows_170 (lv_at hl 3 rfl) ?_
                    refine lv_iload hx hb dX11_rows_172 (lv_at hl 3 rfl) ?_
                    refine lv_iload_n hx hb dX11_rows_174 rfl (lv_at hl 2 rfl) ?_
                    refine lv_icmp_ne (tgt := 182) hx hb dX11_rows_175 (by decide) (fun c39 => ?_) (fun c39 => ?_)
                    · have hf := (if_neg c39).symm.trans hf
                      refine lv_iconst (v := 0) hx hb dX11_rows_182 (by decide) ?_
                      exact J183 μ v4 (0 : Int32) v4 _ _ _ hf hW (lv_sub hl [0, 1, 2, 3] rfl)
                    · have hf := (if_pos c39).symm.trans hf
                      refine lv_iconst (v := 1) hx hb dX11_rows_178 (by decide) ?_
                      refine lv_goto (tgt := 183) hx hb dX11_rows_179 (by decide) ?_
                      exact J183 μ v4 (1 : Int32) v4 _ _ _ hf hW (lv_sub hl [0, 1, 2, 3] rfl)
                exact L161 μ (((1 : Int32) <<< (x151 &&& 31)) - (1 : Int32)) (((1 : Int32) <<< (x151 &&& 31)) - (1 : Int32)) _ _ _ hf hW (lv_sub hl [2, 3, 1, 0] rfl)
              · have hf := (if_neg c7).symm.trans hf
                refine lv_aload_n hx hb dX11_rows_76 rfl (lv_at hl 0 rfl) ?_
                refine gf_X11_39 C hW dX11_rows_77 ?_
                refine lv_iload_n hx hb dX11_rows_80 rfl (lv_at hl 2 rfl) ?_
                obtain ⟨hi41, hf⟩ := ck_of hf
                refine r_bald (k := ((11, 0) : Ky)) (n := 400) C hW rfl rfl hi41 dX11_rows_81 ?_
                refine lv_bipush (v := 97) hx hb dX11_rows_82 (by decide) ?_
                refine lv_isub hx hb dX11_rows_84 ?_
                refine lv_istore (lv' := [(4, .int ((μ (11, 0) v3.toNatClampNeg) - (97 : Int32))), (0, .ref (ad 0)), (1, .int v1), (3, .int v3)]) hx hb dX11_rows_85 hl (by decide) rfl (fun ls hl => ?_)
                refine lv_aload_n hx hb dX11_rows_87 rfl (lv_at hl 1 rfl) ?_
                refine gf_X11_39 C hW dX11_rows_88 ?_
                refine lv_iload_n hx hb dX11_rows_91 rfl (lv_at hl 3 rfl) ?_
                refine lv_iconst (v := 1) hx hb dX11_rows_92 (by decide) ?_
                refine lv_iadd hx hb dX11_rows_93 ?_
                obtain ⟨hi42, hf⟩ := ck_of hf
                refine r_bald (k := ((11, 0) : Ky)) (n := 400) C hW rfl rfl hi42 dX11_rows_94 ?_
                refine lv_bipush (v := 97) hx hb dX11_rows_95 (by decide) ?_
                refine lv_isub hx hb dX11_rows_97 ?_
                refine lv_istore (lv' := [(5, .int ((μ (11, 0) (v3 + (1 : Int32)).toNatClampNeg) - (97 : Int32))), (4, .int ((μ (11, 0) v3.toNatClampNeg) - (97 : Int32))), (0, .ref (ad 0)), (1, .int v1), (3, .int v3)]) hx hb dX11_rows_98 hl (by decide) rfl (fun ls hl => ?_)
                refine lv_aload_n hx hb dX11_rows_100 rfl (lv_at hl 2 rfl) ?_
                refine gf_X11_39 C hW dX11_rows_101 ?_
                refine lv_iload_n hx hb dX11_rows_104 rfl (lv_at hl 4 rfl) ?_
                refine lv_iconst (v := 2) hx hb dX11_rows_105 (by decide) ?_
                refine lv_iadd hx hb dX11_rows_106 ?_
                obtain ⟨hi43, hf⟩ := ck_of hf
                refine r_bald (k := ((11, 0) : Ky)) (n := 400) C hW rfl rfl hi43 dX11_rows_107 ?_
                refine lv_iconst (v := 1) hx hb dX11_rows_108 (by decide) ?_
                refine lv_icmp_ne (tgt := 129) hx hb dX11_rows_109 (by decide) (fun c44 => ?_) (fun c44 => ?_)
                · have hf := (if_neg c44).symm.trans hf
                  refine lv_aload_n hx hb dX11_rows_129 rfl (lv_at hl 2 rfl) ?_
                  refine gf_X11_83 C hW dX11_rows_130 ?_
                  refine lv_iload hx hb dX11_rows_133 (lv_at hl 1 rfl) ?_
                  refine lv_dup2_11 hx hb dX11_rows_135 rfl rfl ?_
                  obtain ⟨hi45, hf⟩ := ck_of hf
                  refine r_iald (k := ((33, 0) : Ky)) (n := 9) C hW rfl rfl hi45 dX11_rows_136 ?_
                  refine lv_iconst (v := 1) hx hb dX11_rows_137 (by decide) ?_
                  refine lv_iload hx hb dX11_rows_138 (lv_at hl 0 rfl) ?_
                  refine lv_ishl hx hb dX11_rows_140 ?_
                  refine lv_ior hx hb dX11_rows_141 ?_
                  obtain ⟨hi46, hf⟩ := ck_of hf
                  refine r_iast (k := ((33, 0) : Ky)) (n := 9) C hW rfl (fun _ => rfl) hi46 dX11_rows_142 (fun H locs hW => ?_)
                  refine lv_iinc (v := (v3 + (3 : Int32))) (lv' := [(3, .int (v3 + (3 : Int32))), (5, .int ((μ (11, 0) (v3 + (1 : Int32)).toNatClampNeg) - (97 : Int32))), (4, .int ((μ (11, 0) v3.toNatClampNeg) - (97 : Int32))), (0, .ref (ad 0)), (1, .int v1)]) hx hb dX11_rows_143 hl (k := 4) rfl rfl (by decide) rfl (fun ls hl => ?_)
                  refine lv_goto (tgt := 68) hx hb dX11_rows_146 (by decide) ?_
                  obtain rfl := Option.some.inj hf
                  exact Kl1 _ rfl _ _ _ hW (lv_sub hl [3, 4, 0] rfl)
                · have hf := (if_pos c44).symm.trans hf
                  refine lv_aload_n hx hb dX11_rows_112 rfl (lv_at hl 2 rfl) ?_
                  refine gf_X11_83 C hW dX11_rows_113 ?_
                  refine lv_iload hx hb dX11_rows_116 (lv_at hl 0 rfl) ?_
                  refine lv_dup2_11 hx hb dX11_rows_118 rfl rfl ?_
                  obtain ⟨hi47, hf⟩ := ck_of hf
                  refine r_iald (k := ((33, 0) : Ky)) (n := 9) C hW rfl rfl hi47 dX11_rows_119 ?_
                  refine lv_iconst (v := 1) hx hb dX11_rows_120 (by decide) ?_
                  refine lv_iload hx hb dX11_rows_121 (lv_at hl 1 rfl) ?_
                  refine lv_ishl hx hb dX11_rows_123 ?_
                  refine lv_ior hx hb dX11_rows_124 ?_
                  obtain ⟨hi48, hf⟩ := ck_of hf
                  refine r_iast (k := ((33, 0) : Ky)) (n := 9) C hW rfl (fun _ => rfl) hi48 dX11_rows_125 (fun H locs hW => ?_)
                  refine lv_goto (tgt := 143) hx hb dX11_rows_126 (by decide) ?_
                  refine lv_iinc (v := (v3 + (3 : Int32))) (lv' := [(3, .int (v3 + (3 : Int32))), (5, .int ((μ (11, 0) (v3 + (1 : Int32)).toNatClampNeg) - (97 : Int32))), (4, .int ((μ (11, 0) v3.toNatClampNeg) - (97 : Int32))), (0, .ref (ad 0)), (1, .int v1)]) hx hb dX11_rows_143 hl (k := 4) rfl rfl (by decide) rfl (fun ls hl => ?_)
                  refine lv_goto (tgt := 68) hx hb dX11_rows_146 (by decide) ?_
                  obtain rfl := Option.some.inj hf
                  exact Kl1 _ rfl _ _ _ hW (lv_sub hl [3, 4, 0] rfl)
            exact L68 μ (0 : Int32) _ _ _ hf hW (lv_sub hl [1, 2, 0] rfl)
          · have hf := (if_neg c6).symm.trans hf
            refine lv_aload_n hx hb dX11_rows_53 rfl (lv_at hl 0 rfl) ?_
            refine gf_X11_83 C hW dX11_rows_54 ?_
            refine lv_iload_n hx hb dX11_rows_57 rfl (lv_at hl 2 rfl) ?_
            refine lv_iconst (v := 0) hx hb dX11_rows_58 (by decide) ?_
            obtain ⟨hi50, hf⟩ := ck_of hf
            refine r_iast (k := ((33, 0) : Ky)) (n := 9) C hW rfl (fun _ => rfl) hi50 dX11_rows_59 (fun H locs hW => ?_)
            refine lv_iinc (v := (v3 + (1 : Int32))) (lv' := [(3, .int (v3 + (1 : Int32))), (0, .ref (ad 0)), (1, .int v1)]) hx hb dX11_rows_60 hl (k := 2) rfl rfl (by decide) rfl (fun ls hl => ?_)
            refine lv_goto (tgt := 45) hx hb dX11_rows_63 (by decide) ?_
            obtain rfl := Option.some.inj hf
            exact Kl1 _ rfl _ _ _ hW (lv_sub hl [1, 2, 0] rfl)
        exact L45 x23.2 (0 : Int32) _ _ _ hf hW (lv_sub hl [1, 2, 0] rfl)
      · have hf := (if_neg c4).symm.trans hf
        refine lv_bipush (v := -3) hx hb dX11_rows_40 (by decide) ?_
        obtain rfl := Option.some.inj hf
        rw [hQ]
        exact r_iret C hr hk hW rfl rfl dX11_rows_42
    · have hf := (if_neg c2).symm.trans hf
      refine lv_iconst (v := 0) hx hb dX11_rows_29 (by decide) ?_
      obtain rfl := Option.some.inj hf
      rw [hQ]
      exact r_iret C hr hk hW rfl rfl dX11_rows_30
  refine lv_aload_n hx hb dX11_rows_0 rfl (lv_at hl 0 rfl) ?_
  refine lv_iconst (v := 1) hx hb dX11_rows_1 (by decide) ?_
  refine lv_iconst (v := 0) hx hb dX11_rows_2 (by decide) ?_
  obtain ⟨x3, h3, hf⟩ := bd_of hf
  refine r_callV (k := ((0, 0) : Ky)) C hW hl lk_X11_457 (c_X11_readThrees h3) ⟨rfl, rfl⟩ ⟨Nat.le_of_ble_eq_true rfl, Nat.le_of_ble_eq_true rfl⟩ rfl rfl rfl (As := [.int (1 : Int32), .int (0 : Int32)]) (rest := []) rfl rfl (Nat.le_of_ble_eq_true rfl) dX11_rows_3 ⟨Nat.zero_le _, Nat.zero_le _⟩ (fun H locs hW => ?_)
  show W p l e (rmq 3 67) s m args below meth c H locs 0 0 Q (F0 m 6 ls [.int x3.1])
  refine lv_istore_n (lv' := [(2, .int x3.1), (0, .ref (ad 0)), (1, .int v1)]) hx hb dX11_rows_6 rfl hl (by decide) rfl (fun ls hl => ?_)
  refine lv_aload_n hx hb dX11_rows_7 rfl (lv_at hl 1 rfl) ?_
  refine lv_iload_n hx hb dX11_rows_8 rfl (lv_at hl 0 rfl) ?_
  refine lv_if_eq (tgt := 17) hx hb dX11_rows_9 (by decide) (fun c52 => ?_) (fun c52 => ?_)
  · have hf := (if_pos c52).symm.trans hf
    refine lv_iconst (v := 1) hx hb dX11_rows_17 (by decide) ?_
    refine lv_goto (tgt := 22) hx hb dX11_rows_18 (by decide) ?_
    exact J22 x3.2 (1 : Int32) _ _ _ hf hW (lv_sub hl [1, 2] rfl)
  · have hf := (if_neg c52).symm.trans hf
    refine lv_iload_n hx hb dX11_rows_12 rfl (lv_at hl 2 rfl) ?_
    refine lv_iconst (v := -1) hx hb dX11_rows_13 (by decide) ?_
    refine lv_icmp_ge (tgt := 21) hx hb dX11_rows_14 (by decide) (fun c53 => ?_) (fun c53 => ?_)
    · have hf := (if_pos c53).symm.trans hf
      refine lv_iconst (v := 0) hx hb dX11_rows_21 (by decide) ?_
      exact J22 x3.2 (0 : Int32) _ _ _ hf hW (lv_sub hl [1, 2] rfl)
    · have hf := (if_neg c53).symm.trans hf
      refine lv_iconst (v := 1) hx hb dX11_rows_17 (by decide) ?_
      refine lv_goto (tgt := 22) hx hb dX11_rows_18 (by decide) ?_
      exact J22 x3.2 (1 : Int32) _ _ _ hf hW (lv_sub hl [1, 2] rfl)
set_option maxHeartbeats 4000000 in
set_option maxRecDepth 100000 in
theorem c_X11_liarsIn {l : Launch} {D : va_G} {tc : Nat → ClassId} {ro : Ro} {ad : Nat → Nat} {μ : Mm} {v1 : Int32} {res : Int32} (hf : f_X11_liarsIn μ v1 = some res) : Ct l D tc ro (faM ad) (feM tc ad) yX11_liarsIn cX11_liarsIn 4 (some .int) (rmq 2 44) [.ref (ad 0), .int v1] μ (some (.int res)) μ := by
  refine Ct.of (by decide) (Nat.le_of_ble_eq_true rfl) (fun p e s m args below meth c A C hr hk hW ls hl => ?_)
  have hx := C.1.1
  have hb := C.1.2.1
  obtain ⟨Q, hQ⟩ : ∃ Q, Q = MQ below (Ctq D (faM ad) (feM tc ad) (some (.int res)) μ A) args s 0 0 A := ⟨_, rfl⟩
  rw [← hQ]
  have hl : lv_has ls 4 [(0, .ref (ad 0)), (1, .int v1)] := hl
  unfold f_X11_liarsIn at hf
  refine lv_iconst (v := 0) hx hb dX11_liarsIn_0 (by decide) ?_
  refine lv_istore_n (lv' := [(2, .int (0 : Int32)), (0, .ref (ad 0)), (1, .int v1)]) hx hb dX11_liarsIn_1 rfl hl (by decide) rfl (fun ls hl => ?_)
  refine lv_iconst (v := 0) hx hb dX11_liarsIn_2 (by decide) ?_
  refine lv_istore_n (lv' := [(3, .int (0 : Int32)), (2, .int (0 : Int32)), (0, .ref (ad 0)), (1, .int v1)]) hx hb dX11_liarsIn_3 rfl hl (by decide) rfl (fun ls hl => ?_)
  have L4 : ∀ (v2 v3 : Int32) (H : Heap) (locs : List Loc) (ls : Array Slot), Wh (fun z : Int32 × Int32 => f_X11_liarsIn_L4 v1 μ z.1 z.2) (v2, v3) = some res → Wd D (faM ad) (feM tc ad) A s.heap μ H locs → lv_has ls 4 [(0, .ref (ad 0)), (1, .int v1), (2, .int v2), (3, .int v3)] → W p l e (rmq 2 44) s m args below meth c H locs 0 0 Q (F0 m 4 ls []) := by
    intro v2 v3 H locs ls hf hW hl
    refine Wh_rule hf (fun z : Int32 × Int32 => ∀ (H : Heap) (locs : List Loc) (ls : Array Slot), Wd D (faM ad) (feM tc ad) A s.heap μ H locs → lv_has ls 4 [(0, .ref (ad 0)), (1, .int v1), (2, .int z.1), (3, .int z.2)] → W p l e (rmq 2 44) s m args below meth c H locs 0 0 Q (F0 m 4 ls [])) (fun z o1 hf Kl1 Kr1 => ?_) _ _ _ hW hl
    obtain ⟨v2, v3⟩ := z
    intro H locs ls hW hl
    have hf : f_X11_liarsIn_L4 v1 μ v2 v3 = some o1 := hf
    unfold f_X11_liarsIn_L4 at hf
    have hW : Wd D (faM ad) (feM tc ad) A s.heap μ H locs := hW
    have hl : lv_has ls 4 [(0, .ref (ad 0)), (1, .int v1), (2, .int v2), (3, .int v3)] := hl
    refine lv_iload_n hx hb dX11_liarsIn_4 rfl (lv_at hl 3 rfl) ?_
    refine lv_aload_n hx hb dX11_liarsIn_5 rfl (lv_at hl 0 rfl) ?_
    refine gf_X11_162 C hW dX11_liarsIn_6 ?_
    refine lv_icmp_ge (tgt := 63) hx hb dX11_liarsIn_9 (by decide) (fun c1 => ?_) (fun c1 => ?_)
    · have hf := (if_pos c1).symm.trans hf
      obtain ⟨x9002, hf, hx9002⟩ := map_of hf
      have e9002 := (Kr1 _ hx9002.symm).symm
      subst e9002
      refine lv_iload_n hx hb dX11_liarsIn_63 rfl (lv_at hl 2 rfl) ?_
      obtain rfl := Option.some.inj hf
      rw [hQ]
      exact r_iret C hr hk hW rfl rfl dX11_liarsIn_64
    · have hf := (if_neg c1).symm.trans hf
      refine lv_iload_n hx hb dX11_liarsIn_12 rfl (lv_at hl 2 rfl) ?_
      refine lv_aload_n hx hb dX11_liarsIn_13 rfl (lv_at hl 0 rfl) ?_
      refine lv_aload_n hx hb dX11_liarsIn_14 rfl (lv_at hl 0 rfl) ?_
      refine gf_X11_39 C hW dX11_liarsIn_15 ?_
      refine lv_iload_n hx hb dX11_liarsIn_18 rfl (lv_at hl 3 rfl) ?_
      refine lv_iconst (v := 1) hx hb dX11_liarsIn_19 (by decide) ?_
      refine lv_iadd hx hb dX11_liarsIn_20 ?_
      obtain ⟨hi3, hf⟩ := ck_of hf
      refine r_bald (k := ((11, 0) : Ky)) (n := 400) C hW rfl rfl hi3 dX11_liarsIn_21 ?_
      refine lv_bipush (v := 97) hx hb dX11_liarsIn_22 (by decide) ?_
      refine lv_isub hx hb dX11_liarsIn_24 ?_
      refine lv_iload_n hx hb dX11_liarsIn_25 rfl (lv_at hl 1 rfl) ?_
      obtain ⟨x26, h26, hf⟩ := bd_of hf
      refine r_callV (k := ((0, 0) : Ky)) C hW hl lk_X11_124 (c_X11_noticeIn h26) ⟨rfl, rfl⟩ ⟨Nat.le_of_ble_eq_true rfl, Nat.le_of_ble_eq_true rfl⟩ rfl rfl rfl (As := [.int ((μ (11, 0) (v3 + (1 : Int32)).toNatClampNeg) - (97 : Int32)), .int v1]) (rest := [.int v2]) rfl rfl (Nat.le_of_ble_eq_true rfl) dX11_liarsIn_26 ⟨Nat.zero_le _, Nat.zero_le _⟩ (fun H locs hW => ?_)
      show W p l e (rmq 2 44) s m args below meth c H locs 0 0 Q (F0 m 29 ls [.int x26, .int v2])
      refine lv_aload_n hx hb dX11_liarsIn_29 rfl (lv_at hl 0 rfl) ?_
      refine gf_X11_39 C hW dX11_liarsIn_30 ?_
      refine lv_iload_n hx hb dX11_liarsIn_33 rfl (lv_at hl 3 rfl) ?_
      refine lv_iconst (v := 2) hx hb dX11_liarsIn_34 (by decide) ?_
      refine lv_iadd hx hb dX11_liarsIn_35 ?_
      obtain ⟨hi5, hf⟩ := ck_of hf
      refine r_bald (k := ((11, 0) : Ky)) (n := 400) C hW rfl rfl hi5 dX11_liarsIn_36 ?_
      refine lv_icmp_eq (tgt := 54) hx hb dX11_liarsIn_37 (by decide) (fun c6 => ?_) (fun c6 => ?_)
      · have hf := (if_pos c6).symm.trans hf
        refine lv_iconst (v := 0) hx hb dX11_liarsIn_54 (by decide) ?_
        refine lv_ior hx hb dX11_liarsIn_55 ?_
        refine lv_istore_n (lv' := [(2, .int (v2 ||| (0 : Int32))), (0, .ref (ad 0)), (1, .int v1), (3, .int v3)]) hx hb dX11_liarsIn_56 rfl hl (by decide) rfl (fun ls hl => ?_)
        refine lv_iinc (v := (v3 + (3 : Int32))) (lv' := [(3, .int (v3 + (3 : Int32))), (2, .int (v2 ||| (0 : Int32))), (0, .ref (ad 0)), (1, .int v1)]) hx hb dX11_liarsIn_57 hl (k := 3) rfl rfl (by decide) rfl (fun ls hl => ?_)
        refine lv_goto (tgt := 4) hx hb dX11_liarsIn_60 (by decide) ?_
        obtain rfl := Option.some.inj hf
        exact Kl1 _ rfl _ _ _ hW (lv_sub hl [2, 3, 1, 0] rfl)
      · have hf := (if_neg c6).symm.trans hf
        refine lv_iconst (v := 1) hx hb dX11_liarsIn_40 (by decide) ?_
        refine lv_aload_n hx hb dX11_liarsIn_41 rfl (lv_at hl 0 rfl) ?_
        refine gf_X11_39 C hW dX11_liarsIn_42 ?_
        refine lv_iload_n hx hb dX11_liarsIn_45 rfl (lv_at hl 3 rfl) ?_
        obtain ⟨hi7, hf⟩ := ck_of hf
        refine r_bald (k := ((11, 0) : Ky)) (n := 400) C hW rfl rfl hi7 dX11_liarsIn_46 ?_
        refine lv_bipush (v := 97) hx hb dX11_liarsIn_47 (by decide) ?_
        refine lv_isub hx hb dX11_liarsIn_49 ?_
        refine lv_ishl hx hb dX11_liarsIn_50 ?_
        refine lv_goto (tgt := 55) hx hb dX11_liarsIn_51 (by decide) ?_
        refine lv_ior hx hb dX11_liarsIn_55 ?_
        refine lv_istore_n (lv' := [(2, .int (v2 ||| ((1 : Int32) <<< (((μ (11, 0) v3.toNatClampNeg) - (97 : Int32)) &&& 31)))), (0, .ref (ad 0)), (1, .int v1), (3, .int v3)]) hx hb dX11_liarsIn_56 rfl hl (by decide) rfl (fun ls hl => ?_)
        refine lv_iinc (v := (v3 + (3 : Int32))) (lv' := [(3, .int (v3 + (3 : Int32))), (2, .int (v2 ||| ((1 : Int32) <<< (((μ (11, 0) v3.toNatClampNeg) - (97 : Int32)) &&& 31)))), (0, .ref (ad 0)), (1, .int v1)]) hx hb dX11_liarsIn_57 hl (k := 3) rfl rfl (by decide) rfl (fun ls hl => ?_)
        refine lv_goto (tgt := 4) hx hb dX11_liarsIn_60 (by decide) ?_
        obtain rfl := Option.some.inj hf
        exact Kl1 _ rfl _ _ _ hW (lv_sub hl [2, 3, 1, 0] rfl)
  exact L4 (0 : Int32) (0 : Int32) _ _ _ hf hW (lv_sub hl [2, 3, 1, 0] rfl)
set_option maxHeartbeats 4000000 in
set_option maxRecDepth 100000 in
theorem c_X11_liars {l : Launch} {D : va_G} {tc : Nat → ClassId} {ro : Ro} {ad : Nat → Nat} {μ : Mm} {v1 v2 : Int32} {res : Int32 × Mm} (hf : f_X11_liars μ v1 v2 = some res) : Ct l D tc ro (faM ad) (feM tc ad) yX11_liars cX11_liars 7 (some .int) (rmq 3 67) [.ref (ad 0), .int v1, .int v2] μ (some (.int res.1)) res.2 := by
  refine Ct.of (by decide) (Nat.le_of_ble_eq_true rfl) (fun p e s m args below meth c A C hr hk hW ls hl => ?_)
  have hx := C.1.1
  have hb := C.1.2.1
  obtain ⟨Q, hQ⟩ : ∃ Q, Q = MQ below (Ctq D (faM ad) (feM tc ad) (some (.int res.1)) res.2 A) args s 0 0 A := ⟨_, rfl⟩
  rw [← hQ]
  have hl : lv_has ls 7 [(0, .ref (ad 0)), (1, .int v1), (2, .int v2)] := hl
  unfold f_X11_liars at hf
  have J32 : ∀ (μ : Mm) (s0 : Int32) (H : Heap) (locs : List Loc) (ls : Array Slot), f_X11_liars_J32 μ v1 v2 s0 = some res → Wd D (faM ad) (feM tc ad) A s.heap μ H locs → lv_has ls 7 [(0, .ref (ad 0)), (1, .int v1), (2, .int v2)] → W p l e (rmq 3 67) s m args below meth c H locs 0 0 Q (F0 m 32 ls [.int s0, .ref (ad 0)]) := by
    intro μ s0 H locs ls hf hW hl
    unfold f_X11_liars_J32 at hf
    refine lv_iconst (v := 1) hx hb dX11_liars_32 (by decide) ?_
    obtain ⟨x33, h33, hf⟩ := bd_of hf
    refine r_callV (k := ((0, 0) : Ky)) C hW hl lk_X11_322 (c_X11_throwsIf h33) ⟨rfl, rfl⟩ ⟨Nat.le_of_ble_eq_true rfl, Nat.le_of_ble_eq_true rfl⟩ rfl rfl rfl (As := [.int s0, .int (1 : Int32)]) (rest := []) rfl rfl (Nat.le_of_ble_eq_true rfl) dX11_liars_33 ⟨Nat.zero_le _, Nat.zero_le _⟩ (fun H locs hW => ?_)
    show W p l e (rmq 3 67) s m args below meth c H locs 0 0 Q (F0 m 36 ls [.int x33.1])
    refine lv_if_eq (tgt := 41) hx hb dX11_liars_36 (by decide) (fun c2 => ?_) (fun c2 => ?_)
    · have hf := (if_pos c2).symm.trans hf
      refine lv_iconst (v := 0) hx hb dX11_liars_41 (by decide) ?_
      refine lv_istore (lv' := [(4, .int (0 : Int32)), (0, .ref (ad 0)), (1, .int v1), (2, .int v2)]) hx hb dX11_liars_42 hl (by decide) rfl (fun ls hl => ?_)
      refine lv_iconst (v := 0) hx hb dX11_liars_44 (by decide) ?_
      refine lv_istore (lv' := [(5, .int (0 : Int32)), (4, .int (0 : Int32)), (0, .ref (ad 0)), (1, .int v1), (2, .int v2)]) hx hb dX11_liars_45 hl (by decide) rfl (fun ls hl => ?_)
      refine lv_iconst (v := 0) hx hb dX11_liars_47 (by decide) ?_
      refine lv_istore (lv' := [(6, .int (0 : Int32)), (5, .int (0 : Int32)), (4, .int (0 : Int32)), (0, .ref (ad 0)), (1, .int v1), (2, .int v2)]) hx hb dX11_liars_48 hl (by decide) rfl (fun ls hl => ?_)
      have L50 : ∀ (μ : Mm) (v4 v5 v6 : Int32) (H : Heap) (locs : List Loc) (ls : Array Slot), Wh (fun z : Int32 × Int32 × Int32 => f_X11_liars_L50 v1 v2 μ z.1 z.2.1 z.2.2) (v4, v5, v6) = some res → Wd D (faM ad) (feM tc ad) A s.heap μ H locs → lv_has ls 7 [(0, .ref (ad 0)), (1, .int v1), (2, .int v2), (4, .int v4), (5, .int v5), (6, .int v6)] → W p l e (rmq 3 67) s m args below meth c H locs 0 0 Q (F0 m 50 ls []) := by
        intro μ v4 v5 v6 H locs ls hf hW hl
        refine Wh_rule hf (fun z : Int32 × Int32 × Int32 => ∀ (H : Heap) (locs : List Loc) (ls : Array Slot), Wd D (faM ad) (feM tc ad) A s.heap μ H locs → lv_has ls 7 [(0, .ref (ad 0)), (1, .int v1), (2, .int v2), (4, .int z.1), (5, .int z.2.1), (6, .int z.2.2)] → W p l e (rmq 3 67) s m args below meth c H locs 0 0 Q (F0 m 50 ls [])) (fun z o1 hf Kl1 Kr1 => ?_) _ _ _ hW hl
        obtain ⟨v4, v5, v6⟩ := z
        intro H locs ls hW hl
        have hf : f_X11_liars_L50 v1 v2 μ v4 v5 v6 = some o1 := hf
        unfold f_X11_liars_L50 at hf
        have hW : Wd D (faM ad) (feM tc ad) A s.heap μ H locs := hW
        have hl : lv_has ls 7 [(0, .ref (ad 0)), (1, .int v1), (2, .int v2), (4, .int v4), (5, .int v5), (6, .int v6)] := hl
        refine lv_iload hx hb dX11_liars_50 (lv_at hl 5 rfl) ?_
        refine lv_aload_n hx hb dX11_liars_52 rfl (lv_at hl 0 rfl) ?_
        obtain ⟨x53, h53, hf⟩ := bd_of hf
        refine r_callV (k := ((0, 0) : Ky)) C hW hl lk_X11_115 (c_X11_worlds h53) ⟨rfl, rfl⟩ ⟨Nat.le_of_ble_eq_true rfl, Nat.le_of_ble_eq_true rfl⟩ rfl rfl rfl (As := []) (rest := [.int v6]) rfl rfl (Nat.le_of_ble_eq_true rfl) dX11_liars_53 ⟨Nat.zero_le _, Nat.zero_le _⟩ (fun H locs hW => ?_)
        show W p l e (rmq 3 67) s m args below meth c H locs 0 0 Q (F0 m 56 ls [.int x53, .int v6])
        refine lv_icmp_ge (tgt := 104) hx hb dX11_liars_56 (by decide) (fun c4 => ?_) (fun c4 => ?_)
        · have hf := (if_pos c4).symm.trans hf
          obtain ⟨x9006, hf, hx9006⟩ := map_of hf
          have e9006 := (Kr1 _ hx9006.symm).symm
          subst e9006
          refine lv_iload_n hx hb dX11_liars_104 rfl (lv_at hl 2 rfl) ?_
          refine lv_if_eq (tgt := 113) hx hb dX11_liars_105 (by decide) (fun c5 => ?_) (fun c5 => ?_)
          · have hf := (if_pos c5).symm.trans hf
            refine lv_iload hx hb dX11_liars_113 (lv_at hl 3 rfl) ?_
            obtain rfl := Option.some.inj hf
            rw [hQ]
            exact r_iret C hr hk hW rfl rfl dX11_liars_115
          · have hf := (if_neg c5).symm.trans hf
            refine lv_iload hx hb dX11_liars_108 (lv_at hl 4 rfl) ?_
            refine lv_goto (tgt := 115) hx hb dX11_liars_110 (by decide) ?_
            obtain rfl := Option.some.inj hf
            rw [hQ]
            exact r_iret C hr hk hW rfl rfl dX11_liars_115
        · have hf := (if_neg c4).symm.trans hf
          refine lv_aload_n hx hb dX11_liars_59 rfl (lv_at hl 0 rfl) ?_
          refine lv_iload hx hb dX11_liars_60 (lv_at hl 5 rfl) ?_
          obtain ⟨x62, h62, hf⟩ := bd_of hf
          refine r_callV (k := ((0, 0) : Ky)) C hW hl lk_X11_128 (c_X11_isLeft h62) ⟨rfl, rfl⟩ ⟨Nat.le_of_ble_eq_true rfl, Nat.le_of_ble_eq_true rfl⟩ rfl rfl rfl (As := [.int v6]) (rest := []) rfl rfl (Nat.le_of_ble_eq_true rfl) dX11_liars_62 ⟨Nat.zero_le _, Nat.zero_le _⟩ (fun H locs hW => ?_)
          show W p l e (rmq 3 67) s m args below meth c H locs 0 0 Q (F0 m 65 ls [.int x62])
          refine lv_if_eq (tgt := 98) hx hb dX11_liars_65 (by decide) (fun c8 => ?_) (fun c8 => ?_)
          · have hf := (if_pos c8).symm.trans hf
            refine lv_iinc (v := (v6 + (1 : Int32))) (lv' := [(6, .int (v6 + (1 : Int32))), (0, .ref (ad 0)), (1, .int v1), (2, .int v2), (4, .int v4), (5, .int v5)]) hx hb dX11_liars_98 hl (k := 5) rfl rfl (by decide) rfl (fun ls hl => ?_)
            refine lv_goto (tgt := 50) hx hb dX11_liars_101 (by decide) ?_
            obtain rfl := Option.some.inj hf
            exact Kl1 _ rfl _ _ _ hW (lv_sub hl [1, 2, 3, 4, 5, 0] rfl)
          · have hf := (if_neg c8).symm.trans hf
            refine lv_aload_n hx hb dX11_liars_68 rfl (lv_at hl 0 rfl) ?_
            refine lv_iload hx hb dX11_liars_69 (lv_at hl 5 rfl) ?_
            obtain ⟨x71, h71, hf⟩ := bd_of hf
            refine r_callV (k := ((0, 0) : Ky)) C hW hl lk_X11_464 (c_X11_liarsIn h71) ⟨rfl, rfl⟩ ⟨Nat.le_of_ble_eq_true rfl, Nat.le_of_ble_eq_true rfl⟩ rfl rfl rfl (As := [.int v6]) (rest := []) rfl rfl (Nat.le_of_ble_eq_true rfl) dX11_liars_71 ⟨Nat.zero_le _, Nat.zero_le _⟩ (fun H locs hW => ?_)
            show W p l e (rmq 3 67) s m args below meth c H locs 0 0 Q (F0 m 74 ls [.int x71])
            obtain ⟨x74, h74, hf⟩ := bd_of hf
            refine r_callS C hW hl lk_X11_418 (c_J6_bitCount_0f7a4 h74) ⟨rfl, rfl⟩ ⟨Nat.le_of_ble_eq_true rfl, Nat.le_of_ble_eq_true rfl⟩ (As := [.int x71]) (rest := []) rfl rfl (Nat.le_of_ble_eq_true rfl) dX11_liars_74 ⟨Nat.zero_le _, Nat.zero_le _⟩ (fun H locs hW => ?_)
            show W p l e (rmq 3 67) s m args below meth c H locs 0 0 Q (F0 m 77 ls [.int x74])
            refine lv_iload_n hx hb dX11_liars_77 rfl (lv_at hl 1 rfl) ?_
            refine lv_icmp_le (tgt := 84) hx hb dX11_liars_78 (by decide) (fun c11 => ?_) (fun c11 => ?_)
            · have hf := (if_pos c11).symm.trans hf
              refine lv_iinc (v := (v4 + (1 : Int32))) (lv' := [(4, .int (v4 + (1 : Int32))), (0, .ref (ad 0)), (1, .int v1), (2, .int v2), (5, .int v5), (6, .int v6)]) hx hb dX11_liars_84 hl (k := 3) rfl rfl (by decide) rfl (fun ls hl => ?_)
              refine lv_iload hx hb dX11_liars_87 (lv_at hl 4 rfl) ?_
              refine lv_aload_n hx hb dX11_liars_89 rfl (lv_at hl 1 rfl) ?_
              refine lv_iload hx hb dX11_liars_90 (lv_at hl 5 rfl) ?_
              obtain ⟨x92, h92, hf⟩ := bd_of hf
              refine r_callV (k := ((0, 0) : Ky)) C hW hl lk_X11_464 (c_X11_liarsIn h92) ⟨rfl, rfl⟩ ⟨Nat.le_of_ble_eq_true rfl, Nat.le_of_ble_eq_true rfl⟩ rfl rfl rfl (As := [.int v6]) (rest := [.int v5]) rfl rfl (Nat.le_of_ble_eq_true rfl) dX11_liars_92 ⟨Nat.zero_le _, Nat.zero_le _⟩ (fun H locs hW => ?_)
              show W p l e (rmq 3 67) s m args below meth c H locs 0 0 Q (F0 m 95 ls [.int x92, .int v5])
              refine lv_ior hx hb dX11_liars_95 ?_
              refine lv_istore (lv' := [(5, .int (v5 ||| x92)), (4, .int (v4 + (1 : Int32))), (0, .ref (ad 0)), (1, .int v1), (2, .int v2), (6, .int v6)]) hx hb dX11_liars_96 hl (by decide) rfl (fun ls hl => ?_)
              refine lv_iinc (v := (v6 + (1 : Int32))) (lv' := [(6, .int (v6 + (1 : Int32))), (5, .int (v5 ||| x92)), (4, .int (v4 + (1 : Int32))), (0, .ref (ad 0)), (1, .int v1), (2, .int v2)]) hx hb dX11_liars_98 hl (k := 5) rfl rfl (by decide) rfl (fun ls hl => ?_)
              refine lv_goto (tgt := 50) hx hb dX11_liars_101 (by decide) ?_
              obtain rfl := Option.some.inj hf
              exact Kl1 _ rfl _ _ _ hW (lv_sub hl [3, 4, 5, 2, 1, 0] rfl)
            · have hf := (if_neg c11).symm.trans hf
              refine lv_goto (tgt := 98) hx hb dX11_liars_81 (by decide) ?_
              refine lv_iinc (v := (v6 + (1 : Int32))) (lv' := [(6, .int (v6 + (1 : Int32))), (0, .ref (ad 0)), (1, .int v1), (2, .int v2), (4, .int v4), (5, .int v5)]) hx hb dX11_liars_98 hl (k := 5) rfl rfl (by decide) rfl (fun ls hl => ?_)
              refine lv_goto (tgt := 50) hx hb dX11_liars_101 (by decide) ?_
              obtain rfl := Option.some.inj hf
              exact Kl1 _ rfl _ _ _ hW (lv_sub hl [1, 2, 3, 4, 5, 0] rfl)
      exact L50 x33.2 (0 : Int32) (0 : Int32) (0 : Int32) _ _ _ hf hW (lv_sub hl [3, 4, 5, 2, 1, 0] rfl)
    · have hf := (if_neg c2).symm.trans hf
      refine lv_iconst (v := 0) hx hb dX11_liars_39 (by decide) ?_
      obtain rfl := Option.some.inj hf
      rw [hQ]
      exact r_iret C hr hk hW rfl rfl dX11_liars_40
  refine lv_aload_n hx hb dX11_liars_0 rfl (lv_at hl 0 rfl) ?_
  refine lv_aload_n hx hb dX11_liars_1 rfl (lv_at hl 0 rfl) ?_
  obtain ⟨x2, h2, hf⟩ := bd_of hf
  refine r_callV (k := ((0, 0) : Ky)) C hW hl lk_X11_118 (c_X11_values h2) ⟨rfl, rfl⟩ ⟨Nat.le_of_ble_eq_true rfl, Nat.le_of_ble_eq_true rfl⟩ rfl rfl rfl (As := []) (rest := [.ref (ad 0)]) rfl rfl (Nat.le_of_ble_eq_true rfl) dX11_liars_2 ⟨Nat.zero_le _, Nat.zero_le _⟩ (fun H locs hW => ?_)
  show W p l e (rmq 3 67) s m args below meth c H locs 0 0 Q (F0 m 5 ls [.int x2, .ref (ad 0)])
  refine lv_iconst (v := 1) hx hb dX11_liars_5 (by decide) ?_
  refine lv_isub hx hb dX11_liars_6 ?_
  refine lv_iconst (v := 1) hx hb dX11_liars_7 (by decide) ?_
  obtain ⟨x8, h8, hf⟩ := bd_of hf
  refine r_callV (k := ((0, 0) : Ky)) C hW hl lk_X11_457 (c_X11_readThrees h8) ⟨rfl, rfl⟩ ⟨Nat.le_of_ble_eq_true rfl, Nat.le_of_ble_eq_true rfl⟩ rfl rfl rfl (As := [.int (x2 - (1 : Int32)), .int (1 : Int32)]) (rest := []) rfl rfl (Nat.le_of_ble_eq_true rfl) dX11_liars_8 ⟨Nat.zero_le _, Nat.zero_le _⟩ (fun H locs hW => ?_)
  show W p l e (rmq 3 67) s m args below meth c H locs 0 0 Q (F0 m 11 ls [.int x8.1])
  refine lv_istore_n (lv' := [(3, .int x8.1), (0, .ref (ad 0)), (1, .int v1), (2, .int v2)]) hx hb dX11_liars_11 rfl hl (by decide) rfl (fun ls hl => ?_)
  refine lv_aload_n hx hb dX11_liars_12 rfl (lv_at hl 1 rfl) ?_
  refine lv_iload_n hx hb dX11_liars_13 rfl (lv_at hl 0 rfl) ?_
  refine lv_if_eq (tgt := 27) hx hb dX11_liars_14 (by decide) (fun c15 => ?_) (fun c15 => ?_)
  · have hf := (if_pos c15).symm.trans hf
    refine lv_iconst (v := 1) hx hb dX11_liars_27 (by decide) ?_
    refine lv_goto (tgt := 32) hx hb dX11_liars_28 (by decide) ?_
    exact J32 x8.2 (1 : Int32) _ _ _ hf hW (lv_sub hl [1, 2, 3] rfl)
  · have hf := (if_neg c15).symm.trans hf
    refine lv_iload_n hx hb dX11_liars_17 rfl (lv_at hl 2 rfl) ?_
    refine lv_iconst (v := 0) hx hb dX11_liars_18 (by decide) ?_
    refine lv_bipush (v := 9) hx hb dX11_liars_19 (by decide) ?_
    obtain ⟨x21, h21, hf⟩ := bd_of hf
    refine r_callS C hW hl lk_X11_111 (c_X11_in h21) ⟨rfl, rfl⟩ ⟨Nat.le_of_ble_eq_true rfl, Nat.le_of_ble_eq_true rfl⟩ (As := [.int v1, .int (0 : Int32), .int (9 : Int32)]) (rest := [.ref (ad 0)]) rfl rfl (Nat.le_of_ble_eq_true rfl) dX11_liars_21 ⟨Nat.zero_le _, Nat.zero_le _⟩ (fun H locs hW => ?_)
    show W p l e (rmq 3 67) s m args below meth c H locs 0 0 Q (F0 m 24 ls [.int x21, .ref (ad 0)])
    refine lv_if_ne (tgt := 31) hx hb dX11_liars_24 (by decide) (fun c17 => ?_) (fun c17 => ?_)
    · have hf := (if_neg c17).symm.trans hf
      refine lv_iconst (v := 0) hx hb dX11_liars_31 (by decide) ?_
      exact J32 x8.2 (0 : Int32) _ _ _ hf hW (lv_sub hl [1, 2, 3] rfl)
    · have hf := (if_pos c17).symm.trans hf
      refine lv_iconst (v := 1) hx hb dX11_liars_27 (by decide) ?_
      refine lv_goto (tgt := 32) hx hb dX11_liars_28 (by decide) ?_
      exact J32 x8.2 (1 : Int32) _ _ _ hf hW (lv_sub hl [1, 2, 3] rfl)
set_option maxHeartbeats 4000000 in
set_option maxRecDepth 100000 in
theorem c_X11_pairOf {l : Launch} {D : va_G} {tc : Nat → ClassId} {ro : Ro} {ad : Nat → Nat} {μ : Mm} {v1 v2 v3 : Int32} {res : Int32} (hf : f_X11_pairOf μ v1 v2 v3 = some res) : Ct l D tc ro (faM ad) (feM tc ad) yX11_pairOf cX11_pairOf 4 (some .int) (rmq 0 0) [.ref (ad 0), .int v1, .int v2, .int v3] μ (some (.int res)) μ := by
  refine Ct.of (by decide) (Nat.le_of_ble_eq_true rfl) (fun p e s m args below meth c A C hr hk hW ls hl => ?_)
  have hx := C.1.1
  have hb := C.1.2.1
  obtain ⟨Q, hQ⟩ : ∃ Q, Q = MQ below (Ctq D (faM ad) (feM tc ad) (some (.int res)) μ A) args s 0 0 A := ⟨_, rfl⟩
  rw [← hQ]
  have hl : lv_has ls 4 [(0, .ref (ad 0)), (1, .int v1), (2, .int v2), (3, .int v3)] := hl
  unfold f_X11_pairOf at hf
  refine lv_iconst (v := 1) hx hb dX11_pairOf_0 (by decide) ?_
  refine lv_aload_n hx hb dX11_pairOf_1 rfl (lv_at hl 0 rfl) ?_
  refine gf_X11_92 C hW dX11_pairOf_2 ?_
  refine lv_iload_n hx hb dX11_pairOf_5 rfl (lv_at hl 1 rfl) ?_
  refine lv_iconst (v := 1) hx hb dX11_pairOf_6 (by decide) ?_
  refine lv_iload_n hx hb dX11_pairOf_7 rfl (lv_at hl 2 rfl) ?_
  refine lv_ishl hx hb dX11_pairOf_8 ?_
  refine lv_iconst (v := -1) hx hb dX11_pairOf_9 (by decide) ?_
  refine lv_ixor hx hb dX11_pairOf_10 ?_
  refine lv_iand hx hb dX11_pairOf_11 ?_
  refine lv_iconst (v := 1) hx hb dX11_pairOf_12 (by decide) ?_
  refine lv_iload_n hx hb dX11_pairOf_13 rfl (lv_at hl 3 rfl) ?_
  refine lv_ishl hx hb dX11_pairOf_14 ?_
  refine lv_iconst (v := -1) hx hb dX11_pairOf_15 (by decide) ?_
  refine lv_ixor hx hb dX11_pairOf_16 ?_
  refine lv_iand hx hb dX11_pairOf_17 ?_
  obtain ⟨hi1, hf⟩ := ck_of hf
  refine r_iald (k := ((36, 0) : Ky)) (n := 512) C hW rfl rfl hi1 dX11_pairOf_18 ?_
  refine lv_iadd hx hb dX11_pairOf_19 ?_
  obtain rfl := Option.some.inj hf
  rw [hQ]
  exact r_iret C hr hk hW rfl rfl dX11_pairOf_20
set_option maxHeartbeats 4000000 in
set_option maxRecDepth 100000 in
theorem c_X11_marries {l : Launch} {D : va_G} {tc : Nat → ClassId} {ro : Ro} {ad : Nat → Nat} {μ : Mm} {res : Mm} (hf : f_X11_marries μ = some res) : Ct l D tc ro (faM ad) (feM tc ad) yX11_marries cX11_marries 4 none (rmq 5 113) [.ref (ad 0)] μ none res := by
  refine Ct.of (by decide) (Nat.le_of_ble_eq_true rfl) (fun p e s m args below meth c A C hr hk hW ls hl => ?_)
  have hx := C.1.1
  have hb := C.1.2.1
  obtain ⟨Q, hQ⟩ : ∃ Q, Q = MQ below (Ctq D (faM ad) (feM tc ad) none res A) args s 0 0 A := ⟨_, rfl⟩
  rw [← hQ]
  have hl : lv_has ls 4 [(0, .ref (ad 0))] := hl
  unfold f_X11_marries at hf
  refine lv_iconst (v := 0) hx hb dX11_marries_0 (by decide) ?_
  refine lv_istore_n (lv' := [(1, .int (0 : Int32)), (0, .ref (ad 0))]) hx hb dX11_marries_1 rfl hl (by decide) rfl (fun ls hl => ?_)
  have L2 : ∀ (μ : Mm) (v1 : Int32) (H : Heap) (locs : List Loc) (ls : Array Slot), Wh (fun z : Mm × Int32 => f_X11_marries_L2 z.1 z.2) (μ, v1) = some res → Wd D (faM ad) (feM tc ad) A s.heap μ H locs → lv_has ls 4 [(0, .ref (ad 0)), (1, .int v1)] → W p l e (rmq 5 113) s m args below meth c H locs 0 0 Q (F0 m 2 ls []) := by
    intro μ v1 H locs ls hf hW hl
    refine Wh_rule hf (fun z : Mm × Int32 => ∀ (H : Heap) (locs : List Loc) (ls : Array Slot), Wd D (faM ad) (feM tc ad) A s.heap z.1 H locs → lv_has ls 4 [(0, .ref (ad 0)), (1, .int z.2)] → W p l e (rmq 5 113) s m args below meth c H locs 0 0 Q (F0 m 2 ls [])) (fun z o1 hf Kl1 Kr1 => ?_) _ _ _ hW hl
    obtain ⟨μ, v1⟩ := z
    intro H locs ls hW hl
    have hf : f_X11_marries_L2 μ v1 = some o1 := hf
    unfold f_X11_marries_L2 at hf
    have hW : Wd D (faM ad) (feM tc ad) A s.heap μ H locs := hW
    have hl : lv_has ls 4 [(0, .ref (ad 0)), (1, .int v1)] := hl
    refine lv_iload_n hx hb dX11_marries_2 rfl (lv_at hl 1 rfl) ?_
    refine lv_aload_n hx hb dX11_marries_3 rfl (lv_at hl 0 rfl) ?_
    obtain ⟨x4, h4, hf⟩ := bd_of hf
    refine r_callV (k := ((0, 0) : Ky)) C hW hl lk_X11_107 (c_X11_people h4) ⟨rfl, rfl⟩ ⟨Nat.le_of_ble_eq_true rfl, Nat.le_of_ble_eq_true rfl⟩ rfl rfl rfl (As := []) (rest := [.int v1]) rfl rfl (Nat.le_of_ble_eq_true rfl) dX11_marries_4 ⟨Nat.zero_le _, Nat.zero_le _⟩ (fun H locs hW => ?_)
    show W p l e (rmq 5 113) s m args below meth c H locs 0 0 Q (F0 m 7 ls [.int x4, .int v1])
    refine lv_icmp_ge (tgt := 27) hx hb dX11_marries_7 (by decide) (fun c2 => ?_) (fun c2 => ?_)
    · have hf := (if_pos c2).symm.trans hf
      obtain ⟨x9024, hf, hx9024⟩ := map_of hf
      have e9024 := (Kr1 _ hx9024.symm).symm
      subst e9024
      refine lv_iconst (v := 0) hx hb dX11_marries_27 (by decide) ?_
      refine lv_istore_n (lv' := [(1, .int (0 : Int32)), (0, .ref (ad 0))]) hx hb dX11_marries_28 rfl hl (by decide) rfl (fun ls hl => ?_)
      have L29 : ∀ (μ : Mm) (v1 : Int32) (H : Heap) (locs : List Loc) (ls : Array Slot), Wh (fun z : Mm × Int32 => f_X11_marries_L29 z.1 z.2) (μ, v1) = some res → Wd D (faM ad) (feM tc ad) A s.heap μ H locs → lv_has ls 4 [(0, .ref (ad 0)), (1, .int v1)] → W p l e (rmq 5 113) s m args below meth c H locs 0 0 Q (F0 m 29 ls []) := by
        intro μ v1 H locs ls hf hW hl
        refine Wh_rule hf (fun z : Mm × Int32 => ∀ (H : Heap) (locs : List Loc) (ls : Array Slot), Wd D (faM ad) (feM tc ad) A s.heap z.1 H locs → lv_has ls 4 [(0, .ref (ad 0)), (1, .int z.2)] → W p l e (rmq 5 113) s m args below meth c H locs 0 0 Q (F0 m 29 ls [])) (fun z o1 hf Kl1 Kr1 => ?_) _ _ _ hW hl
        obtain ⟨μ, v1⟩ := z
        intro H locs ls hW hl
        have hf : f_X11_marries_L29 μ v1 = some o1 := hf
        unfold f_X11_marries_L29 at hf
        have hW : Wd D (faM ad) (feM tc ad) A s.heap μ H locs := hW
        have hl : lv_has ls 4 [(0, .ref (ad 0)), (1, .int v1)] := hl
        have J67 : ∀ (μ : Mm) (v1 v2 s0 s1 : Int32) (H : Heap) (locs : List Loc) (ls : Array Slot), f_X11_marries_J67 μ v1 v2 s0 s1 = some o1 → Wd D (faM ad) (feM tc ad) A s.heap μ H locs → lv_has ls 4 [(0, .ref (ad 0)), (1, .int v1), (2, .int v2)] → W p l e (rmq 5 113) s m args below meth c H locs 0 0 Q (F0 m 67 ls [.int s0, .int s1, .ref (ad 36)]) := by
          intro μ v1 v2 s0 s1 H locs ls hf hW hl
          unfold f_X11_marries_J67 at hf
          obtain ⟨hi3, hf⟩ := ck_of hf
          refine r_iast (k := ((36, 0) : Ky)) (n := 512) C hW rfl (fun _ => rfl) hi3 dX11_marries_67 (fun H locs hW => ?_)
          refine lv_iload_n hx hb dX11_marries_68 rfl (lv_at hl 2 rfl) ?_
          refine lv_iconst (v := 1) hx hb dX11_marries_69 (by decide) ?_
          refine lv_iadd hx hb dX11_marries_70 ?_
          refine lv_istore_n (lv' := [(3, .int (v2 + (1 : Int32))), (0, .ref (ad 0)), (1, .int v1), (2, .int v2)]) hx hb dX11_marries_71 rfl hl (by decide) rfl (fun ls hl => ?_)
          have L72 : ∀ (μ : Mm) (v1 v2 v3 : Int32) (H : Heap) (locs : List Loc) (ls : Array Slot), Wh (fun z : Mm × Int32 => f_X11_marries_L72 v1 v2 z.1 z.2) (μ, v3) = some o1 → Wd D (faM ad) (feM tc ad) A s.heap μ H locs → lv_has ls 4 [(0, .ref (ad 0)), (1, .int v1), (2, .int v2), (3, .int v3)] → W p l e (rmq 5 113) s m args below meth c H locs 0 0 Q (F0 m 72 ls []) := by
            intro μ v1 v2 v3 H locs ls hf hW hl
            refine Wh_rule hf (fun z : Mm × Int32 => ∀ (H : Heap) (locs : List Loc) (ls : Array Slot), Wd D (faM ad) (feM tc ad) A s.heap z.1 H locs → lv_has ls 4 [(0, .ref (ad 0)), (1, .int v1), (2, .int v2), (3, .int z.2)] → W p l e (rmq 5 113) s m args below meth c H locs 0 0 Q (F0 m 72 ls [])) (fun z o2 hf Kl2 Kr2 => ?_) _ _ _ hW hl
            obtain ⟨μ, v3⟩ := z
            intro H locs ls hW hl
            have hf : f_X11_marries_L72 v1 v2 μ v3 = some o2 := hf
            unfold f_X11_marries_L72 at hf
            have hW : Wd D (faM ad) (feM tc ad) A s.heap μ H locs := hW
            have hl : lv_has ls 4 [(0, .ref (ad 0)), (1, .int v1), (2, .int v2), (3, .int v3)] := hl
            refine lv_iload_n hx hb dX11_marries_72 rfl (lv_at hl 3 rfl) ?_
            refine lv_aload_n hx hb dX11_marries_73 rfl (lv_at hl 0 rfl) ?_
            obtain ⟨x74, h74, hf⟩ := bd_of hf
            refine r_callV (k := ((0, 0) : Ky)) C hW hl lk_X11_107 (c_X11_people h74) ⟨rfl, rfl⟩ ⟨Nat.le_of_ble_eq_true rfl, Nat.le_of_ble_eq_true rfl⟩ rfl rfl rfl (As := []) (rest := [.int v3]) rfl rfl (Nat.le_of_ble_eq_true rfl) dX11_marries_74 ⟨Nat.zero_le _, Nat.zero_le _⟩ (fun H locs hW => ?_)
            show W p l e (rmq 5 113) s m args below meth c H locs 0 0 Q (F0 m 77 ls [.int x74, .int v3])
            refine lv_icmp_ge (tgt := 142) hx hb dX11_marries_77 (by decide) (fun c5 => ?_) (fun c5 => ?_)
            · have hf := (if_pos c5).symm.trans hf
              obtain ⟨x9006, hf, hx9006⟩ := map_of hf
              have e9006 := (Kr2 _ hx9006.symm).symm
              subst e9006
              refine lv_iinc (v := (v1 + (1 : Int32))) (lv' := [(1, .int (v1 + (1 : Int32))), (0, .ref (ad 0)), (2, .int v2), (3, .int v3)]) hx hb dX11_marries_142 hl (k := 1) rfl rfl (by decide) rfl (fun ls hl => ?_)
              refine lv_goto (tgt := 29) hx hb dX11_marries_145 (by decide) ?_
              obtain rfl := Option.some.inj hf
              exact Kl1 _ rfl _ _ _ hW (lv_sub hl [1, 0] rfl)
            · have hf := (if_neg c5).symm.trans hf
              refine lv_iload_n hx hb dX11_marries_80 rfl (lv_at hl 1 rfl) ?_
              refine lv_iload_n hx hb dX11_marries_81 rfl (lv_at hl 3 rfl) ?_
              obtain ⟨x82, h82, hf⟩ := bd_of hf
              refine r_callS C hW hl lk_X11_103 (c_X11_has h82) ⟨rfl, rfl⟩ ⟨Nat.le_of_ble_eq_true rfl, Nat.le_of_ble_eq_true rfl⟩ (As := [.int v1, .int v3]) (rest := []) rfl rfl (Nat.le_of_ble_eq_true rfl) dX11_marries_82 ⟨Nat.zero_le _, Nat.zero_le _⟩ (fun H locs hW => ?_)
              show W p l e (rmq 5 113) s m args below meth c H locs 0 0 Q (F0 m 85 ls [.int x82])
              refine lv_if_eq (tgt := 136) hx hb dX11_marries_85 (by decide) (fun c8 => ?_) (fun c8 => ?_)
              · have hf := (if_pos c8).symm.trans hf
                refine lv_iinc (v := (v3 + (1 : Int32))) (lv' := [(3, .int (v3 + (1 : Int32))), (0, .ref (ad 0)), (1, .int v1), (2, .int v2)]) hx hb dX11_marries_136 hl (k := 3) rfl rfl (by decide) rfl (fun ls hl => ?_)
                refine lv_goto (tgt := 72) hx hb dX11_marries_139 (by decide) ?_
                obtain rfl := Option.some.inj hf
                exact Kl2 _ rfl _ _ _ hW (lv_sub hl [1, 2, 3, 0] rfl)
              · have hf := (if_neg c8).symm.trans hf
                refine lv_aload_n hx hb dX11_marries_88 rfl (lv_at hl 0 rfl) ?_
                refine gf_X11_89 C hW dX11_marries_89 ?_
                refine lv_iload_n hx hb dX11_marries_92 rfl (lv_at hl 2 rfl) ?_
                obtain ⟨hi9, hf⟩ := ck_of hf
                refine r_iald (k := ((35, 0) : Ky)) (n := 9) C hW rfl rfl hi9 dX11_marries_93 ?_
                refine lv_iload_n hx hb dX11_marries_94 rfl (lv_at hl 3 rfl) ?_
                obtain ⟨x95, h95, hf⟩ := bd_of hf
                refine r_callS C hW hl lk_X11_103 (c_X11_has h95) ⟨rfl, rfl⟩ ⟨Nat.le_of_ble_eq_true rfl, Nat.le_of_ble_eq_true rfl⟩ (As := [.int (μ (35, 0) v2.toNatClampNeg), .int v3]) (rest := []) rfl rfl (Nat.le_of_ble_eq_true rfl) dX11_marries_95 ⟨Nat.zero_le _, Nat.zero_le _⟩ (fun H locs hW => ?_)
                show W p l e (rmq 5 113) s m args below meth c H locs 0 0 Q (F0 m 98 ls [.int x95])
                refine lv_if_eq (tgt := 136) hx hb dX11_marries_98 (by decide) (fun c11 => ?_) (fun c11 => ?_)
                · have hf := (if_pos c11).symm.trans hf
                  refine lv_iinc (v := (v3 + (1 : Int32))) (lv' := [(3, .int (v3 + (1 : Int32))), (0, .ref (ad 0)), (1, .int v1), (2, .int v2)]) hx hb dX11_marries_136 hl (k := 3) rfl rfl (by decide) rfl (fun ls hl => ?_)
                  refine lv_goto (tgt := 72) hx hb dX11_marries_139 (by decide) ?_
                  obtain rfl := Option.some.inj hf
                  exact Kl2 _ rfl _ _ _ hW (lv_sub hl [1, 2, 3, 0] rfl)
                · have hf := (if_neg c11).symm.trans hf
                  refine lv_aload_n hx hb dX11_marries_101 rfl (lv_at hl 0 rfl) ?_
                  refine gf_X11_89 C hW dX11_marries_102 ?_
                  refine lv_iload_n hx hb dX11_marries_105 rfl (lv_at hl 3 rfl) ?_
                  obtain ⟨hi12, hf⟩ := ck_of hf
                  refine r_iald (k := ((35, 0) : Ky)) (n := 9) C hW rfl rfl hi12 dX11_marries_106 ?_
                  refine lv_iload_n hx hb dX11_marries_107 rfl (lv_at hl 2 rfl) ?_
                  obtain ⟨x108, h108, hf⟩ := bd_of hf
                  refine r_callS C hW hl lk_X11_103 (c_X11_has h108) ⟨rfl, rfl⟩ ⟨Nat.le_of_ble_eq_true rfl, Nat.le_of_ble_eq_true rfl⟩ (As := [.int (μ (35, 0) v3.toNatClampNeg), .int v2]) (rest := []) rfl rfl (Nat.le_of_ble_eq_true rfl) dX11_marries_108 ⟨Nat.zero_le _, Nat.zero_le _⟩ (fun H locs hW => ?_)
                  show W p l e (rmq 5 113) s m args below meth c H locs 0 0 Q (F0 m 111 ls [.int x108])
                  refine lv_if_eq (tgt := 136) hx hb dX11_marries_111 (by decide) (fun c14 => ?_) (fun c14 => ?_)
                  · have hf := (if_pos c14).symm.trans hf
                    refine lv_iinc (v := (v3 + (1 : Int32))) (lv' := [(3, .int (v3 + (1 : Int32))), (0, .ref (ad 0)), (1, .int v1), (2, .int v2)]) hx hb dX11_marries_136 hl (k := 3) rfl rfl (by decide) rfl (fun ls hl => ?_)
                    refine lv_goto (tgt := 72) hx hb dX11_marries_139 (by decide) ?_
                    obtain rfl := Option.some.inj hf
                    exact Kl2 _ rfl _ _ _ hW (lv_sub hl [1, 2, 3, 0] rfl)
                  · have hf := (if_neg c14).symm.trans hf
                    refine lv_aload_n hx hb dX11_marries_114 rfl (lv_at hl 0 rfl) ?_
                    refine gf_X11_92 C hW dX11_marries_115 ?_
                    refine lv_iload_n hx hb dX11_marries_118 rfl (lv_at hl 1 rfl) ?_
                    refine lv_aload_n hx hb dX11_marries_119 rfl (lv_at hl 0 rfl) ?_
                    refine gf_X11_92 C hW dX11_marries_120 ?_
                    refine lv_iload_n hx hb dX11_marries_123 rfl (lv_at hl 1 rfl) ?_
                    obtain ⟨hi15, hf⟩ := ck_of hf
                    refine r_iald (k := ((36, 0) : Ky)) (n := 512) C hW rfl rfl hi15 dX11_marries_124 ?_
                    refine lv_aload_n hx hb dX11_marries_125 rfl (lv_at hl 0 rfl) ?_
                    refine lv_iload_n hx hb dX11_marries_126 rfl (lv_at hl 1 rfl) ?_
                    refine lv_iload_n hx hb dX11_marries_127 rfl (lv_at hl 2 rfl) ?_
                    refine lv_iload_n hx hb dX11_marries_128 rfl (lv_at hl 3 rfl) ?_
                    obtain ⟨x129, h129, hf⟩ := bd_of hf
                    refine r_callV (k := ((0, 0) : Ky)) C hW hl lk_X11_467 (c_X11_pairOf h129) ⟨rfl, rfl⟩ ⟨Nat.le_of_ble_eq_true rfl, Nat.le_of_ble_eq_true rfl⟩ rfl rfl rfl (As := [.int v1, .int v2, .int v3]) (rest := [.int (μ (36, 0) v1.toNatClampNeg), .int v1, .ref (ad 36)]) rfl rfl (Nat.le_of_ble_eq_true rfl) dX11_marries_129 ⟨Nat.zero_le _, Nat.zero_le _⟩ (fun H locs hW => ?_)
                    show W p l e (rmq 5 113) s m args below meth c H locs 0 0 Q (F0 m 132 ls [.int x129, .int (μ (36, 0) v1.toNatClampNeg), .int v1, .ref (ad 36)])
                    refine r_mmax C hl kw_2630 kw_191 kw_140 kw_192 (Nat.le_of_ble_eq_true rfl) (Nat.le_of_ble_eq_true rfl) ⟨Nat.zero_le _, Nat.zero_le _⟩ dX11_marries_132 ?_
                    obtain ⟨hi17, hf⟩ := ck_of hf
                    refine r_iast (k := ((36, 0) : Ky)) (n := 512) C hW rfl (fun _ => rfl) hi17 dX11_marries_135 (fun H locs hW => ?_)
                    refine lv_iinc (v := (v3 + (1 : Int32))) (lv' := [(3, .int (v3 + (1 : Int32))), (0, .ref (ad 0)), (1, .int v1), (2, .int v2)]) hx hb dX11_marries_136 hl (k := 3) rfl rfl (by decide) rfl (fun ls hl => ?_)
                    refine lv_goto (tgt := 72) hx hb dX11_marries_139 (by decide) ?_
                    obtain rfl := Option.some.inj hf
                    exact Kl2 _ rfl _ _ _ hW (lv_sub hl [1, 2, 3, 0] rfl)
          exact L72 (mst μ (36, 0) s1.toNatClampNeg s0) v1 v2 (v2 + (1 : Int32)) _ _ _ hf hW (lv_sub hl [1, 2, 3, 0] rfl)
        refine lv_iload_n hx hb dX11_marries_29 rfl (lv_at hl 1 rfl) ?_
        refine lv_iconst (v := 1) hx hb dX11_marries_30 (by decide) ?_
        refine lv_aload_n hx hb dX11_marries_31 rfl (lv_at hl 0 rfl) ?_
        obtain ⟨x32, h32, hf⟩ := bd_of hf
        refine r_callV (k := ((0, 0) : Ky)) C hW hl lk_X11_107 (c_X11_people h32) ⟨rfl, rfl⟩ ⟨Nat.le_of_ble_eq_true rfl, Nat.le_of_ble_eq_true rfl⟩ rfl rfl rfl (As := []) (rest := [.int (1 : Int32), .int v1]) rfl rfl (Nat.le_of_ble_eq_true rfl) dX11_marries_32 ⟨Nat.zero_le _, Nat.zero_le _⟩ (fun H locs hW => ?_)
        show W p l e (rmq 5 113) s m args below meth c H locs 0 0 Q (F0 m 35 ls [.int x32, .int (1 : Int32), .int v1])
        refine lv_ishl hx hb dX11_marries_35 ?_
        refine lv_icmp_ge (tgt := 148) hx hb dX11_marries_36 (by decide) (fun c19 => ?_) (fun c19 => ?_)
        · have hf := (if_pos c19).symm.trans hf
          obtain ⟨x9020, hf, hx9020⟩ := map_of hf
          have e9020 := (Kr1 _ hx9020.symm).symm
          subst e9020
          obtain rfl := Option.some.inj hf
          rw [hQ]
          exact r_vret C hr hk hW rfl rfl dX11_marries_148
        · have hf := (if_neg c19).symm.trans hf
          refine lv_iload_n hx hb dX11_marries_39 rfl (lv_at hl 1 rfl) ?_
          obtain ⟨x40, h40, hf⟩ := bd_of hf
          refine r_callS C hW hl lk_X11_401 (c_J6_numberOfTrailingZeros_0f7a4 h40) ⟨rfl, rfl⟩ ⟨Nat.le_of_ble_eq_true rfl, Nat.le_of_ble_eq_true rfl⟩ (As := [.int v1]) (rest := []) rfl rfl (Nat.le_of_ble_eq_true rfl) dX11_marries_40 ⟨Nat.zero_le _, Nat.zero_le _⟩ (fun H locs hW => ?_)
          show W p l e (rmq 5 113) s m args below meth c H locs 0 0 Q (F0 m 43 ls [.int x40])
          refine lv_istore_n (lv' := [(2, .int x40), (0, .ref (ad 0)), (1, .int v1)]) hx hb dX11_marries_43 rfl hl (by decide) rfl (fun ls hl => ?_)
          refine lv_aload_n hx hb dX11_marries_44 rfl (lv_at hl 1 rfl) ?_
          refine gf_X11_92 C hW dX11_marries_45 ?_
          refine lv_iload_n hx hb dX11_marries_48 rfl (lv_at hl 2 rfl) ?_
          refine lv_iload_n hx hb dX11_marries_49 rfl (lv_at hl 2 rfl) ?_
          refine lv_if_ne (tgt := 57) hx hb dX11_marries_50 (by decide) (fun c22 => ?_) (fun c22 => ?_)
          · have hf := (if_neg c22).symm.trans hf
            refine lv_aload_n hx hb dX11_marries_57 rfl (lv_at hl 1 rfl) ?_
            refine gf_X11_92 C hW dX11_marries_58 ?_
            refine lv_iload_n hx hb dX11_marries_61 rfl (lv_at hl 2 rfl) ?_
            refine lv_iload_n hx hb dX11_marries_62 rfl (lv_at hl 2 rfl) ?_
            refine lv_iconst (v := 1) hx hb dX11_marries_63 (by decide) ?_
            refine lv_isub hx hb dX11_marries_64 ?_
            refine lv_iand hx hb dX11_marries_65 ?_
            obtain ⟨hi23, hf⟩ := ck_of hf
            refine r_iald (k := ((36, 0) : Ky)) (n := 512) C hW rfl rfl hi23 dX11_marries_66 ?_
            exact J67 μ v1 x40 (μ (36, 0) (v1 &&& (v1 - (1 : Int32))).toNatClampNeg) v1 _ _ _ hf hW (lv_sub hl [1, 2, 0] rfl)
          · have hf := (if_pos c22).symm.trans hf
            refine lv_iconst (v := 0) hx hb dX11_marries_53 (by decide) ?_
            refine lv_goto (tgt := 67) hx hb dX11_marries_54 (by decide) ?_
            exact J67 μ v1 x40 (0 : Int32) v1 _ _ _ hf hW (lv_sub hl [1, 2, 0] rfl)
      exact L29 μ (0 : Int32) _ _ _ hf hW (lv_sub hl [1, 0] rfl)
    · have hf := (if_neg c2).symm.trans hf
      refine lv_aload_n hx hb dX11_marries_10 rfl (lv_at hl 0 rfl) ?_
      refine gf_X11_89 C hW dX11_marries_11 ?_
      refine lv_iload_n hx hb dX11_marries_14 rfl (lv_at hl 1 rfl) ?_
      refine lv_aload_n hx hb dX11_marries_15 rfl (lv_at hl 0 rfl) ?_
      refine lv_iload_n hx hb dX11_marries_16 rfl (lv_at hl 1 rfl) ?_
      obtain ⟨x17, h17, hf⟩ := bd_of hf
      refine r_callV (k := ((0, 0) : Ky)) C hW hl lk_X11_395 (c_X11_allKnown h17) ⟨rfl, rfl⟩ ⟨Nat.le_of_ble_eq_true rfl, Nat.le_of_ble_eq_true rfl⟩ rfl rfl rfl (As := [.int v1]) (rest := [.int v1, .ref (ad 35)]) rfl rfl (Nat.le_of_ble_eq_true rfl) dX11_marries_17 ⟨Nat.zero_le _, Nat.zero_le _⟩ (fun H locs hW => ?_)
      show W p l e (rmq 5 113) s m args below meth c H locs 0 0 Q (F0 m 20 ls [.int x17.1, .int v1, .ref (ad 35)])
      obtain ⟨hi26, hf⟩ := ck_of hf
      refine r_iast (k := ((35, 0) : Ky)) (n := 9) C hW rfl (fun _ => rfl) hi26 dX11_marries_20 (fun H locs hW => ?_)
      refine lv_iinc (v := (v1 + (1 : Int32))) (lv' := [(1, .int (v1 + (1 : Int32))), (0, .ref (ad 0))]) hx hb dX11_marries_21 hl (k := 1) rfl rfl (by decide) rfl (fun ls hl => ?_)
      refine lv_goto (tgt := 2) hx hb dX11_marries_24 (by decide) ?_
      obtain rfl := Option.some.inj hf
      exact Kl1 _ rfl _ _ _ hW (lv_sub hl [1, 0] rfl)
  exact L2 μ (0 : Int32) _ _ _ hf hW (lv_sub hl [1, 0] rfl)
set_option maxHeartbeats 4000000 in
set_option maxRecDepth 100000 in
theorem c_X11_married {l : Launch} {D : va_G} {tc : Nat → ClassId} {ro : Ro} {ad : Nat → Nat} {μ : Mm} {v1 : Int32} {res : Int32 × Mm} (hf : f_X11_married μ v1 = some res) : Ct l D tc ro (faM ad) (feM tc ad) yX11_married cX11_married 5 (some .int) (rmq 6 136) [.ref (ad 0), .int v1] μ (some (.int res.1)) res.2 := by
  refine Ct.of (by decide) (Nat.le_of_ble_eq_true rfl) (fun p e s m args below meth c A C hr hk hW ls hl => ?_)
  have hx := C.1.1
  have hb := C.1.2.1
  obtain ⟨Q, hQ⟩ : ∃ Q, Q = MQ below (Ctq D (faM ad) (feM tc ad) (some (.int res.1)) res.2 A) args s 0 0 A := ⟨_, rfl⟩
  rw [← hQ]
  have hl : lv_has ls 5 [(0, .ref (ad 0)), (1, .int v1)] := hl
  unfold f_X11_married at hf
  have J24 : ∀ (μ : Mm) (s0 : Int32) (H : Heap) (locs : List Loc) (ls : Array Slot), f_X11_married_J24 μ v1 s0 = some res → Wd D (faM ad) (feM tc ad) A s.heap μ H locs → lv_has ls 5 [(0, .ref (ad 0)), (1, .int v1)] → W p l e (rmq 6 136) s m args below meth c H locs 0 0 Q (F0 m 24 ls [.int s0, .ref (ad 0)]) := by
    intro μ s0 H locs ls hf hW hl
    unfold f_X11_married_J24 at hf
    refine lv_iconst (v := 1) hx hb dX11_married_24 (by decide) ?_
    obtain ⟨x25, h25, hf⟩ := bd_of hf
    refine r_callV (k := ((0, 0) : Ky)) C hW hl lk_X11_322 (c_X11_throwsIf h25) ⟨rfl, rfl⟩ ⟨Nat.le_of_ble_eq_true rfl, Nat.le_of_ble_eq_true rfl⟩ rfl rfl rfl (As := [.int s0, .int (1 : Int32)]) (rest := []) rfl rfl (Nat.le_of_ble_eq_true rfl) dX11_married_25 ⟨Nat.zero_le _, Nat.zero_le _⟩ (fun H locs hW => ?_)
    show W p l e (rmq 6 136) s m args below meth c H locs 0 0 Q (F0 m 28 ls [.int x25.1])
    refine lv_if_eq (tgt := 33) hx hb dX11_married_28 (by decide) (fun c2 => ?_) (fun c2 => ?_)
    · have hf := (if_pos c2).symm.trans hf
      refine lv_aload_n hx hb dX11_married_33 rfl (lv_at hl 0 rfl) ?_
      obtain ⟨x34, h34, hf⟩ := bd_of hf
      refine r_callV (k := ((0, 0) : Ky)) C hW hl lk_X11_470 (c_X11_marries h34) ⟨rfl, rfl⟩ ⟨Nat.le_of_ble_eq_true rfl, Nat.le_of_ble_eq_true rfl⟩ rfl rfl rfl (As := []) (rest := []) rfl rfl (Nat.le_of_ble_eq_true rfl) dX11_married_34 ⟨Nat.zero_le _, Nat.zero_le _⟩ (fun H locs hW => ?_)
      show W p l e (rmq 6 136) s m args below meth c H locs 0 0 Q (F0 m 37 ls [])
      refine lv_iconst (v := 1) hx hb dX11_married_37 (by decide) ?_
      refine lv_aload_n hx hb dX11_married_38 rfl (lv_at hl 0 rfl) ?_
      obtain ⟨x39, h39, hf⟩ := bd_of hf
      refine r_callV (k := ((0, 0) : Ky)) C hW hl lk_X11_107 (c_X11_people h39) ⟨rfl, rfl⟩ ⟨Nat.le_of_ble_eq_true rfl, Nat.le_of_ble_eq_true rfl⟩ rfl rfl rfl (As := []) (rest := [.int (1 : Int32)]) rfl rfl (Nat.le_of_ble_eq_true rfl) dX11_married_39 ⟨Nat.zero_le _, Nat.zero_le _⟩ (fun H locs hW => ?_)
      show W p l e (rmq 6 136) s m args below meth c H locs 0 0 Q (F0 m 42 ls [.int x39, .int (1 : Int32)])
      refine lv_ishl hx hb dX11_married_42 ?_
      refine lv_iconst (v := 1) hx hb dX11_married_43 (by decide) ?_
      refine lv_isub hx hb dX11_married_44 ?_
      refine lv_istore_n (lv' := [(2, .int (((1 : Int32) <<< (x39 &&& 31)) - (1 : Int32))), (0, .ref (ad 0)), (1, .int v1)]) hx hb dX11_married_45 rfl hl (by decide) rfl (fun ls hl => ?_)
      refine lv_iload_n hx hb dX11_married_46 rfl (lv_at hl 2 rfl) ?_
      refine lv_iconst (v := -1) hx hb dX11_married_47 (by decide) ?_
      refine lv_icmp_ne (tgt := 58) hx hb dX11_married_48 (by decide) (fun c5 => ?_) (fun c5 => ?_)
      · have hf := (if_neg c5).symm.trans hf
        have L58 : ∀ (μ : Mm) (v2 : Int32) (H : Heap) (locs : List Loc) (ls : Array Slot), Wh (fun z : Int32 => f_X11_married_L58 v1 μ z) (v2) = some res → Wd D (faM ad) (feM tc ad) A s.heap μ H locs → lv_has ls 5 [(0, .ref (ad 0)), (1, .int v1), (2, .int v2)] → W p l e (rmq 6 136) s m args below meth c H locs 0 0 Q (F0 m 58 ls []) := by
          intro μ v2 H locs ls hf hW hl
          refine Wh_rule hf (fun z : Int32 => ∀ (H : Heap) (locs : List Loc) (ls : Array Slot), Wd D (faM ad) (feM tc ad) A s.heap μ H locs → lv_has ls 5 [(0, .ref (ad 0)), (1, .int v1), (2, .int z)] → W p l e (rmq 6 136) s m args below meth c H locs 0 0 Q (F0 m 58 ls [])) (fun z o1 hf Kl1 Kr1 => ?_) _ _ _ hW hl
          obtain ⟨v2, ez⟩ : ∃ q, q = z := ⟨_, rfl⟩
          subst ez
          intro H locs ls hW hl
          have hf : f_X11_married_L58 v1 μ v2 = some o1 := hf
          unfold f_X11_married_L58 at hf
          have hW : Wd D (faM ad) (feM tc ad) A s.heap μ H locs := hW
          have hl : lv_has ls 5 [(0, .ref (ad 0)), (1, .int v1), (2, .int v2)] := hl
          have J141 : ∀ (v2 v3 v4 : Int32) (H : Heap) (locs : List Loc) (ls : Array Slot), f_X11_married_J141 μ v1 v2 v3 v4 = some o1 → Wd D (faM ad) (feM tc ad) A s.heap μ H locs → lv_has ls 5 [(0, .ref (ad 0)), (1, .int v1), (2, .int v2), (3, .int v3), (4, .int v4)] → W p l e (rmq 6 136) s m args below meth c H locs 0 0 Q (F0 m 141 ls []) := by
            intro v2 v3 v4 H locs ls hf hW hl
            unfold f_X11_married_J141 at hf
            refine lv_iload_n hx hb dX11_married_141 rfl (lv_at hl 3 rfl) ?_
            refine lv_iload_n hx hb dX11_married_142 rfl (lv_at hl 1 rfl) ?_
            refine lv_icmp_eq (tgt := 152) hx hb dX11_married_143 (by decide) (fun c6 => ?_) (fun c6 => ?_)
            · have hf := (if_pos c6).symm.trans hf
              obtain ⟨x9010, hf, hx9010⟩ := map_of hf
              have e9010 := (Kr1 _ hx9010.symm).symm
              subst e9010
              refine lv_iload hx hb dX11_married_152 (lv_at hl 4 rfl) ?_
              refine lv_aload_n hx hb dX11_married_154 rfl (lv_at hl 0 rfl) ?_
              obtain ⟨x155, h155, hf⟩ := bd_of hf
              refine r_callV (k := ((0, 0) : Ky)) C hW hl lk_X11_107 (c_X11_people h155) ⟨rfl, rfl⟩ ⟨Nat.le_of_ble_eq_true rfl, Nat.le_of_ble_eq_true rfl⟩ rfl rfl rfl (As := []) (rest := [.int v4]) rfl rfl (Nat.le_of_ble_eq_true rfl) dX11_married_155 ⟨Nat.zero_le _, Nat.zero_le _⟩ (fun H locs hW => ?_)
              show W p l e (rmq 6 136) s m args below meth c H locs 0 0 Q (F0 m 158 ls [.int x155, .int v4])
              refine lv_icmp_ne (tgt := 165) hx hb dX11_married_158 (by decide) (fun c8 => ?_) (fun c8 => ?_)
              · have hf := (if_neg c8).symm.trans hf
                refine lv_iload_n hx hb dX11_married_165 rfl (lv_at hl 3 rfl) ?_
                refine lv_iload_n hx hb dX11_married_166 rfl (lv_at hl 1 rfl) ?_
                refine lv_icmp_ne (tgt := 175) hx hb dX11_married_167 (by decide) (fun c9 => ?_) (fun c9 => ?_)
                · have hf := (if_neg c9).symm.trans hf
                  refine lv_iload_n hx hb dX11_married_175 rfl (lv_at hl 3 rfl) ?_
                  obtain rfl := Option.some.inj hf
                  rw [hQ]
                  exact r_iret C hr hk hW rfl rfl dX11_married_176
                · have hf := (if_pos c9).symm.trans hf
                  refine lv_iload hx hb dX11_married_170 (lv_at hl 4 rfl) ?_
                  refine lv_goto (tgt := 176) hx hb dX11_married_172 (by decide) ?_
                  obtain rfl := Option.some.inj hf
                  rw [hQ]
                  exact r_iret C hr hk hW rfl rfl dX11_married_176
              · have hf := (if_pos c8).symm.trans hf
                refine lv_iconst (v := -1) hx hb dX11_married_161 (by decide) ?_
                refine lv_goto (tgt := 176) hx hb dX11_married_162 (by decide) ?_
                obtain rfl := Option.some.inj hf
                rw [hQ]
                exact r_iret C hr hk hW rfl rfl dX11_married_176
            · have hf := (if_neg c6).symm.trans hf
              refine lv_iload hx hb dX11_married_146 (lv_at hl 4 rfl) ?_
              refine lv_iload_n hx hb dX11_married_148 rfl (lv_at hl 1 rfl) ?_
              refine lv_icmp_ne (tgt := 177) hx hb dX11_married_149 (by decide) (fun c11 => ?_) (fun c11 => ?_)
              · have hf := (if_neg c11).symm.trans hf
                refine lv_iload_n hx hb dX11_married_177 rfl (lv_at hl 2 rfl) ?_
                refine lv_iload hx hb dX11_married_178 (lv_at hl 4 rfl) ?_
                refine lv_aload_n hx hb dX11_married_180 rfl (lv_at hl 0 rfl) ?_
                obtain ⟨x181, h181, hf⟩ := bd_of hf
                refine r_callV (k := ((0, 0) : Ky)) C hW hl lk_X11_107 (c_X11_people h181) ⟨rfl, rfl⟩ ⟨Nat.le_of_ble_eq_true rfl, Nat.le_of_ble_eq_true rfl⟩ rfl rfl rfl (As := []) (rest := [.int v4, .int v2]) rfl rfl (Nat.le_of_ble_eq_true rfl) dX11_married_181 ⟨Nat.zero_le _, Nat.zero_le _⟩ (fun H locs hW => ?_)
                show W p l e (rmq 6 136) s m args below meth c H locs 0 0 Q (F0 m 184 ls [.int x181, .int v4, .int v2])
                refine lv_icmp_ne (tgt := 195) hx hb dX11_married_184 (by decide) (fun c13 => ?_) (fun c13 => ?_)
                · have hf := (if_neg c13).symm.trans hf
                  refine lv_iconst (v := 1) hx hb dX11_married_195 (by decide) ?_
                  refine lv_iload_n hx hb dX11_married_196 rfl (lv_at hl 3 rfl) ?_
                  refine lv_ishl hx hb dX11_married_197 ?_
                  refine lv_iconst (v := -1) hx hb dX11_married_198 (by decide) ?_
                  refine lv_ixor hx hb dX11_married_199 ?_
                  refine lv_iconst (v := 1) hx hb dX11_married_200 (by decide) ?_
                  refine lv_iload hx hb dX11_married_201 (lv_at hl 4 rfl) ?_
                  refine lv_ishl hx hb dX11_married_203 ?_
                  refine lv_iconst (v := -1) hx hb dX11_married_204 (by decide) ?_
                  refine lv_ixor hx hb dX11_married_205 ?_
                  refine lv_iand hx hb dX11_married_206 ?_
                  refine lv_iand hx hb dX11_married_207 ?_
                  refine lv_istore_n (lv' := [(2, .int (v2 &&& ((((1 : Int32) <<< (v3 &&& 31)) ^^^ (-1 : Int32)) &&& (((1 : Int32) <<< (v4 &&& 31)) ^^^ (-1 : Int32))))), (0, .ref (ad 0)), (1, .int v1), (3, .int v3), (4, .int v4)]) hx hb dX11_married_208 rfl hl (by decide) rfl (fun ls hl => ?_)
                  refine lv_goto (tgt := 58) hx hb dX11_married_209 (by decide) ?_
                  obtain rfl := Option.some.inj hf
                  exact Kl1 _ rfl _ _ _ hW (lv_sub hl [1, 2, 0] rfl)
                · have hf := (if_pos c13).symm.trans hf
                  refine lv_iconst (v := 1) hx hb dX11_married_187 (by decide) ?_
                  refine lv_iload_n hx hb dX11_married_188 rfl (lv_at hl 3 rfl) ?_
                  refine lv_ishl hx hb dX11_married_189 ?_
                  refine lv_iconst (v := -1) hx hb dX11_married_190 (by decide) ?_
                  refine lv_ixor hx hb dX11_married_191 ?_
                  refine lv_goto (tgt := 207) hx hb dX11_married_192 (by decide) ?_
                  refine lv_iand hx hb dX11_married_207 ?_
                  refine lv_istore_n (lv' := [(2, .int (v2 &&& (((1 : Int32) <<< (v3 &&& 31)) ^^^ (-1 : Int32)))), (0, .ref (ad 0)), (1, .int v1), (3, .int v3), (4, .int v4)]) hx hb dX11_married_208 rfl hl (by decide) rfl (fun ls hl => ?_)
                  refine lv_goto (tgt := 58) hx hb dX11_married_209 (by decide) ?_
                  obtain rfl := Option.some.inj hf
                  exact Kl1 _ rfl _ _ _ hW (lv_sub hl [1, 2, 0] rfl)
              · have hf := (if_pos c11).symm.trans hf
                obtain ⟨x9017, hf, hx9017⟩ := map_of hf
                have e9017 := (Kr1 _ hx9017.symm).symm
                subst e9017
                refine lv_iload hx hb dX11_married_152 (lv_at hl 4 rfl) ?_
                refine lv_aload_n hx hb dX11_married_154 rfl (lv_at hl 0 rfl) ?_
                obtain ⟨x155, h155, hf⟩ := bd_of hf
                refine r_callV (k := ((0, 0) : Ky)) C hW hl lk_X11_107 (c_X11_people h155) ⟨rfl, rfl⟩ ⟨Nat.le_of_ble_eq_true rfl, Nat.le_of_ble_eq_true rfl⟩ rfl rfl rfl (As := []) (rest := [.int v4]) rfl rfl (Nat.le_of_ble_eq_true rfl) dX11_married_155 ⟨Nat.zero_le _, Nat.zero_le _⟩ (fun H locs hW => ?_)
                show W p l e (rmq 6 136) s m args below meth c H locs 0 0 Q (F0 m 158 ls [.int x155, .int v4])
                refine lv_icmp_ne (tgt := 165) hx hb dX11_married_158 (by decide) (fun c15 => ?_) (fun c15 => ?_)
                · have hf := (if_neg c15).symm.trans hf
                  refine lv_iload_n hx hb dX11_married_165 rfl (lv_at hl 3 rfl) ?_
                  refine lv_iload_n hx hb dX11_married_166 rfl (lv_at hl 1 rfl) ?_
                  refine lv_icmp_ne (tgt := 175) hx hb dX11_married_167 (by decide) (fun c16 => ?_) (fun c16 => ?_)
                  · have hf := (if_neg c16).symm.trans hf
                    refine lv_iload_n hx hb dX11_married_175 rfl (lv_at hl 3 rfl) ?_
                    obtain rfl := Option.some.inj hf
                    rw [hQ]
                    exact r_iret C hr hk hW rfl rfl dX11_married_176
                  · have hf := (if_pos c16).symm.trans hf
                    refine lv_iload hx hb dX11_married_170 (lv_at hl 4 rfl) ?_
                    refine lv_goto (tgt := 176) hx hb dX11_married_172 (by decide) ?_
                    obtain rfl := Option.some.inj hf
                    rw [hQ]
                    exact r_iret C hr hk hW rfl rfl dX11_married_176
                · have hf := (if_pos c15).symm.trans hf
                  refine lv_iconst (v := -1) hx hb dX11_married_161 (by decide) ?_
                  refine lv_goto (tgt := 176) hx hb dX11_married_162 (by decide) ?_
                  obtain rfl := Option.some.inj hf
                  rw [hQ]
                  exact r_iret C hr hk hW rfl rfl dX11_married_176
          refine lv_iload_n hx hb dX11_married_58 rfl (lv_at hl 2 rfl) ?_
          refine lv_if_eq (tgt := 212) hx hb dX11_married_59 (by decide) (fun c18 => ?_) (fun c18 => ?_)
          · have hf := (if_pos c18).symm.trans hf
            obtain ⟨x9019, hf, hx9019⟩ := map_of hf
            have e9019 := (Kr1 _ hx9019.symm).symm
            subst e9019
            refine lv_iconst (v := -1) hx hb dX11_married_212 (by decide) ?_
            obtain rfl := Option.some.inj hf
            rw [hQ]
            exact r_iret C hr hk hW rfl rfl dX11_married_213
          · have hf := (if_neg c18).symm.trans hf
            refine lv_iload_n hx hb dX11_married_62 rfl (lv_at hl 2 rfl) ?_
            obtain ⟨x63, h63, hf⟩ := bd_of hf
            refine r_callS C hW hl lk_X11_401 (c_J6_numberOfTrailingZeros_0f7a4 h63) ⟨rfl, rfl⟩ ⟨Nat.le_of_ble_eq_true rfl, Nat.le_of_ble_eq_true rfl⟩ (As := [.int v2]) (rest := []) rfl rfl (Nat.le_of_ble_eq_true rfl) dX11_married_63 ⟨Nat.zero_le _, Nat.zero_le _⟩ (fun H locs hW => ?_)
            show W p l e (rmq 6 136) s m args below meth c H locs 0 0 Q (F0 m 66 ls [.int x63])
            refine lv_istore_n (lv' := [(3, .int x63), (0, .ref (ad 0)), (1, .int v1), (2, .int v2)]) hx hb dX11_married_66 rfl hl (by decide) rfl (fun ls hl => ?_)
            refine lv_iload_n hx hb dX11_married_67 rfl (lv_at hl 0 rfl) ?_
            refine lv_iconst (v := 1) hx hb dX11_married_68 (by decide) ?_
            refine lv_iadd hx hb dX11_married_69 ?_
            refine lv_istore (lv' := [(4, .int (x63 + (1 : Int32))), (3, .int x63), (0, .ref (ad 0)), (1, .int v1), (2, .int v2)]) hx hb dX11_married_70 hl (by decide) rfl (fun ls hl => ?_)
            have L72 : ∀ (v2 v3 v4 : Int32) (H : Heap) (locs : List Loc) (ls : Array Slot), Wh (fun z : Int32 => f_X11_married_L72 v1 v2 v3 μ z) (v4) = some o1 → Wd D (faM ad) (feM tc ad) A s.heap μ H locs → lv_has ls 5 [(0, .ref (ad 0)), (1, .int v1), (2, .int v2), (3, .int v3), (4, .int v4)] → W p l e (rmq 6 136) s m args below meth c H locs 0 0 Q (F0 m 72 ls []) := by
              intro v2 v3 v4 H locs ls hf hW hl
              refine Wh_rule hf (fun z : Int32 => ∀ (H : Heap) (locs : List Loc) (ls : Array Slot), Wd D (faM ad) (feM tc ad) A s.heap μ H locs → lv_has ls 5 [(0, .ref (ad 0)), (1, .int v1), (2, .int v2), (3, .int v3), (4, .int z)] → W p l e (rmq 6 136) s m args below meth c H locs 0 0 Q (F0 m 72 ls [])) (fun z o2 hf Kl2 Kr2 => ?_) _ _ _ hW hl
              obtain ⟨v4, ez⟩ : ∃ q, q = z := ⟨_, rfl⟩
              subst ez
              intro H locs ls hW hl
              have hf : f_X11_married_L72 v1 v2 v3 μ v4 = some o2 := hf
              unfold f_X11_married_L72 at hf
              have hW : Wd D (faM ad) (feM tc ad) A s.heap μ H locs := hW
              have hl : lv_has ls 5 [(0, .ref (ad 0)), (1, .int v1), (2, .int v2), (3, .int v3), (4, .int v4)] := hl
              refine lv_iload hx hb dX11_married_72 (lv_at hl 4 rfl) ?_
              refine lv_aload_n hx hb dX11_married_74 rfl (lv_at hl 0 rfl) ?_
              obtain ⟨x75, h75, hf⟩ := bd_of hf
              refine r_callV (k := ((0, 0) : Ky)) C hW hl lk_X11_107 (c_X11_people h75) ⟨rfl, rfl⟩ ⟨Nat.le_of_ble_eq_true rfl, Nat.le_of_ble_eq_true rfl⟩ rfl rfl rfl (As := []) (rest := [.int v4]) rfl rfl (Nat.le_of_ble_eq_true rfl) dX11_married_75 ⟨Nat.zero_le _, Nat.zero_le _⟩ (fun H locs hW => ?_)
              show W p l e (rmq 6 136) s m args below meth c H locs 0 0 Q (F0 m 78 ls [.int x75, .int v4])
              refine lv_icmp_ge (tgt := 141) hx hb dX11_married_78 (by decide) (fun c22 => ?_) (fun c22 => ?_)
              · have hf := (if_pos c22).symm.trans hf
                obtain ⟨x9023, hf, hx9023⟩ := map_of hf
                have e9023 := (Kr2 _ hx9023.symm).symm
                subst e9023
                exact J141 v2 v3 v4 _ _ _ hf hW (lv_sub hl [0, 1, 2, 3, 4] rfl)
              · have hf := (if_neg c22).symm.trans hf
                refine lv_iload_n hx hb dX11_married_81 rfl (lv_at hl 2 rfl) ?_
                refine lv_iload hx hb dX11_married_82 (lv_at hl 4 rfl) ?_
                obtain ⟨x84, h84, hf⟩ := bd_of hf
                refine r_callS C hW hl lk_X11_103 (c_X11_has h84) ⟨rfl, rfl⟩ ⟨Nat.le_of_ble_eq_true rfl, Nat.le_of_ble_eq_true rfl⟩ (As := [.int v2, .int v4]) (rest := []) rfl rfl (Nat.le_of_ble_eq_true rfl) dX11_married_84 ⟨Nat.zero_le _, Nat.zero_le _⟩ (fun H locs hW => ?_)
                show W p l e (rmq 6 136) s m args below meth c H locs 0 0 Q (F0 m 87 ls [.int x84])
                refine lv_if_eq (tgt := 135) hx hb dX11_married_87 (by decide) (fun c25 => ?_) (fun c25 => ?_)
                · have hf := (if_pos c25).symm.trans hf
                  refine lv_iinc (v := (v4 + (1 : Int32))) (lv' := [(4, .int (v4 + (1 : Int32))), (0, .ref (ad 0)), (1, .int v1), (2, .int v2), (3, .int v3)]) hx hb dX11_married_135 hl (k := 4) rfl rfl (by decide) rfl (fun ls hl => ?_)
                  refine lv_goto (tgt := 72) hx hb dX11_married_138 (by decide) ?_
                  obtain rfl := Option.some.inj hf
                  exact Kl2 _ rfl _ _ _ hW (lv_sub hl [1, 2, 3, 4, 0] rfl)
                · have hf := (if_neg c25).symm.trans hf
                  refine lv_aload_n hx hb dX11_married_90 rfl (lv_at hl 0 rfl) ?_
                  refine gf_X11_89 C hW dX11_married_91 ?_
                  refine lv_iload_n hx hb dX11_married_94 rfl (lv_at hl 3 rfl) ?_
                  obtain ⟨hi26, hf⟩ := ck_of hf
                  refine r_iald (k := ((35, 0) : Ky)) (n := 9) C hW rfl rfl hi26 dX11_married_95 ?_
                  refine lv_iload hx hb dX11_married_96 (lv_at hl 4 rfl) ?_
                  obtain ⟨x98, h98, hf⟩ := bd_of hf
                  refine r_callS C hW hl lk_X11_103 (c_X11_has h98) ⟨rfl, rfl⟩ ⟨Nat.le_of_ble_eq_true rfl, Nat.le_of_ble_eq_true rfl⟩ (As := [.int (μ (35, 0) v3.toNatClampNeg), .int v4]) (rest := []) rfl rfl (Nat.le_of_ble_eq_true rfl) dX11_married_98 ⟨Nat.zero_le _, Nat.zero_le _⟩ (fun H locs hW => ?_)
                  show W p l e (rmq 6 136) s m args below meth c H locs 0 0 Q (F0 m 101 ls [.int x98])
                  refine lv_if_eq (tgt := 135) hx hb dX11_married_101 (by decide) (fun c28 => ?_) (fun c28 => ?_)
                  · have hf := (if_pos c28).symm.trans hf
                    refine lv_iinc (v := (v4 + (1 : Int32))) (lv' := [(4, .int (v4 + (1 : Int32))), (0, .ref (ad 0)), (1, .int v1), (2, .int v2), (3, .int v3)]) hx hb dX11_married_135 hl (k := 4) rfl rfl (by decide) rfl (fun ls hl => ?_)
                    refine lv_goto (tgt := 72) hx hb dX11_married_138 (by decide) ?_
                    obtain rfl := Option.some.inj hf
                    exact Kl2 _ rfl _ _ _ hW (lv_sub hl [1, 2, 3, 4, 0] rfl)
                  · have hf := (if_neg c28).symm.trans hf
                    refine lv_aload_n hx hb dX11_married_104 rfl (lv_at hl 0 rfl) ?_
                    refine gf_X11_89 C hW dX11_married_105 ?_
                    refine lv_iload hx hb dX11_married_108 (lv_at hl 4 rfl) ?_
                    obtain ⟨hi29, hf⟩ := ck_of hf
                    refine r_iald (k := ((35, 0) : Ky)) (n := 9) C hW rfl rfl hi29 dX11_married_110 ?_
                    refine lv_iload_n hx hb dX11_married_111 rfl (lv_at hl 3 rfl) ?_
                    obtain ⟨x112, h112, hf⟩ := bd_of hf
                    refine r_callS C hW hl lk_X11_103 (c_X11_has h112) ⟨rfl, rfl⟩ ⟨Nat.le_of_ble_eq_true rfl, Nat.le_of_ble_eq_true rfl⟩ (As := [.int (μ (35, 0) v4.toNatClampNeg), .int v3]) (rest := []) rfl rfl (Nat.le_of_ble_eq_true rfl) dX11_married_112 ⟨Nat.zero_le _, Nat.zero_le _⟩ (fun H locs hW => ?_)
                    show W p l e (rmq 6 136) s m args below meth c H locs 0 0 Q (F0 m 115 ls [.int x112])
                    refine lv_if_eq (tgt := 135) hx hb dX11_married_115 (by decide) (fun c31 => ?_) (fun c31 => ?_)
                    · have hf := (if_pos c31).symm.trans hf
                      refine lv_iinc (v := (v4 + (1 : Int32))) (lv' := [(4, .int (v4 + (1 : Int32))), (0, .ref (ad 0)), (1, .int v1), (2, .int v2), (3, .int v3)]) hx hb dX11_married_135 hl (k := 4) rfl rfl (by decide) rfl (fun ls hl => ?_)
                      refine lv_goto (tgt := 72) hx hb dX11_married_138 (by decide) ?_
                      obtain rfl := Option.some.inj hf
                      exact Kl2 _ rfl _ _ _ hW (lv_sub hl [1, 2, 3, 4, 0] rfl)
                    · have hf := (if_neg c31).symm.trans hf
                      refine lv_aload_n hx hb dX11_married_118 rfl (lv_at hl 0 rfl) ?_
                      refine lv_iload_n hx hb dX11_married_119 rfl (lv_at hl 2 rfl) ?_
                      refine lv_iload_n hx hb dX11_married_120 rfl (lv_at hl 3 rfl) ?_
                      refine lv_iload hx hb dX11_married_121 (lv_at hl 4 rfl) ?_
                      obtain ⟨x123, h123, hf⟩ := bd_of hf
                      refine r_callV (k := ((0, 0) : Ky)) C hW hl lk_X11_467 (c_X11_pairOf h123) ⟨rfl, rfl⟩ ⟨Nat.le_of_ble_eq_true rfl, Nat.le_of_ble_eq_true rfl⟩ rfl rfl rfl (As := [.int v2, .int v3, .int v4]) (rest := []) rfl rfl (Nat.le_of_ble_eq_true rfl) dX11_married_123 ⟨Nat.zero_le _, Nat.zero_le _⟩ (fun H locs hW => ?_)
                      show W p l e (rmq 6 136) s m args below meth c H locs 0 0 Q (F0 m 126 ls [.int x123])
                      refine lv_aload_n hx hb dX11_married_126 rfl (lv_at hl 0 rfl) ?_
                      refine gf_X11_92 C hW dX11_married_127 ?_
                      refine lv_iload_n hx hb dX11_married_130 rfl (lv_at hl 2 rfl) ?_
                      obtain ⟨hi33, hf⟩ := ck_of hf
                      refine r_iald (k := ((36, 0) : Ky)) (n := 512) C hW rfl rfl hi33 dX11_married_131 ?_
                      refine lv_icmp_eq (tgt := 141) hx hb dX11_married_132 (by decide) (fun c34 => ?_) (fun c34 => ?_)
                      · have hf := (if_pos c34).symm.trans hf
                        obtain ⟨x9035, hf, hx9035⟩ := map_of hf
                        have e9035 := (Kr2 _ hx9035.symm).symm
                        subst e9035
                        exact J141 v2 v3 v4 _ _ _ hf hW (lv_sub hl [0, 1, 2, 3, 4] rfl)
                      · have hf := (if_neg c34).symm.trans hf
                        refine lv_iinc (v := (v4 + (1 : Int32))) (lv' := [(4, .int (v4 + (1 : Int32))), (0, .ref (ad 0)), (1, .int v1), (2, .int v2), (3, .int v3)]) hx hb dX11_married_135 hl (k := 4) rfl rfl (by decide) rfl (fun ls hl => ?_)
                        refine lv_goto (tgt := 72) hx hb dX11_married_138 (by decide) ?_
                        obtain rfl := Option.some.inj hf
                        exact Kl2 _ rfl _ _ _ hW (lv_sub hl [1, 2, 3, 4, 0] rfl)
            exact L72 v2 x63 (x63 + (1 : Int32)) _ _ _ hf hW (lv_sub hl [2, 3, 4, 1, 0] rfl)
        exact L58 x34 (((1 : Int32) <<< (x39 &&& 31)) - (1 : Int32)) _ _ _ hf hW (lv_sub hl [1, 2, 0] rfl)
      · have hf := (if_pos c5).symm.trans hf
        refine lv_aload_n hx hb dX11_married_51 rfl (lv_at hl 1 rfl) ?_
        refine gf_X11_92 C hW dX11_married_52 ?_
        refine lv_iload_n hx hb dX11_married_55 rfl (lv_at hl 0 rfl) ?_
        obtain ⟨hi36, hf⟩ := ck_of hf
        refine r_iald (k := ((36, 0) : Ky)) (n := 512) C hW rfl rfl hi36 dX11_married_56 ?_
        obtain rfl := Option.some.inj hf
        rw [hQ]
        exact r_iret C hr hk hW rfl rfl dX11_married_57
    · have hf := (if_neg c2).symm.trans hf
      refine lv_iconst (v := 0) hx hb dX11_married_31 (by decide) ?_
      obtain rfl := Option.some.inj hf
      rw [hQ]
      exact r_iret C hr hk hW rfl rfl dX11_married_32
  refine lv_aload_n hx hb dX11_married_0 rfl (lv_at hl 0 rfl) ?_
  refine lv_iconst (v := 0) hx hb dX11_married_1 (by decide) ?_
  refine pf_X11_3 C hW dX11_married_2 (fun H locs hW => ?_)
  refine lv_aload_n hx hb dX11_married_5 rfl (lv_at hl 0 rfl) ?_
  refine lv_iload_n hx hb dX11_married_6 rfl (lv_at hl 1 rfl) ?_
  refine lv_iconst (v := -1) hx hb dX11_married_7 (by decide) ?_
  refine lv_icmp_eq (tgt := 23) hx hb dX11_married_8 (by decide) (fun c37 => ?_) (fun c37 => ?_)
  · have hf := (if_pos c37).symm.trans hf
    refine lv_iconst (v := 0) hx hb dX11_married_23 (by decide) ?_
    exact J24 (mst μ (0, 0) 0 (0 : Int32)) (0 : Int32) _ _ _ hf hW (lv_sub hl [0, 1] rfl)
  · have hf := (if_neg c37).symm.trans hf
    refine lv_aload_n hx hb dX11_married_11 rfl (lv_at hl 0 rfl) ?_
    refine lv_iload_n hx hb dX11_married_12 rfl (lv_at hl 1 rfl) ?_
    obtain ⟨x13, h13, hf⟩ := bd_of hf
    refine r_callV (k := ((0, 0) : Ky)) C hW hl lk_X11_359 (c_X11_noPerson h13) ⟨rfl, rfl⟩ ⟨Nat.le_of_ble_eq_true rfl, Nat.le_of_ble_eq_true rfl⟩ rfl rfl rfl (As := [.int v1]) (rest := [.ref (ad 0)]) rfl rfl (Nat.le_of_ble_eq_true rfl) dX11_married_13 ⟨Nat.zero_le _, Nat.zero_le _⟩ (fun H locs hW => ?_)
    show W p l e (rmq 6 136) s m args below meth c H locs 0 0 Q (F0 m 16 ls [.int x13, .ref (ad 0)])
    refine lv_if_eq (tgt := 23) hx hb dX11_married_16 (by decide) (fun c39 => ?_) (fun c39 => ?_)
    · have hf := (if_pos c39).symm.trans hf
      refine lv_iconst (v := 0) hx hb dX11_married_23 (by decide) ?_
      exact J24 (mst μ (0, 0) 0 (0 : Int32)) (0 : Int32) _ _ _ hf hW (lv_sub hl [0, 1] rfl)
    · have hf := (if_neg c39).symm.trans hf
      refine lv_iconst (v := 1) hx hb dX11_married_19 (by decide) ?_
      refine lv_goto (tgt := 24) hx hb dX11_married_20 (by decide) ?_
      exact J24 (mst μ (0, 0) 0 (0 : Int32)) (1 : Int32) _ _ _ hf hW (lv_sub hl [0, 1] rfl)
