set_option maxHeartbeats 4000000 in
set_option maxRecDepth 100000 in
theorem c_X11_readAtom {l : Launch} {D : va_G} {tc : Nat → ClassId} {ro : Ro} {ad : Nat → Nat} {XF XN : Nat} (hAN : 10 ≤ XF ∧ 400 ≤ XN) {fC fA : Mm → Option (Int32 × Mm)} (hfC : ∀ {μ : Mm} {res : Int32 × Mm}, fC μ = some res → Ct l D tc ro (faM ad) (feM tc ad) yX11_readCond cX11_readCond 1 (some .boolean) (rmq (XF + 2) (XN + 42)) [.ref (ad 0)] μ (some (.int res.1)) res.2) (hfA : ∀ {μ : Mm} {res : Int32 × Mm}, fA μ = some res → Ct l D tc ro (faM ad) (feM tc ad) yX11_readAtom cX11_readAtom 3 (some .boolean) (rmq XF XN) [.ref (ad 0)] μ (some (.int res.1)) res.2) {μ : Mm} {res : Int32 × Mm} (hf : f_X11_readAtom fC fA μ = some res) : Ct l D tc ro (faM ad) (feM tc ad) yX11_readAtom cX11_readAtom 3 (some .boolean) (rmq (XF + 3) (XN + 62)) [.ref (ad 0)] μ (some (.int res.1)) res.2 := by
  refine Ct.of (by decide) (Nat.le_of_ble_eq_true rfl) (fun p e s m args below meth c A C hr hk hW ls hl => ?_)
  have hx := C.1.1
  have hb := C.1.2.1
  obtain ⟨Q, hQ⟩ : ∃ Q, Q = MQ below (Ctq D (faM ad) (feM tc ad) (some (.int res.1)) res.2 A) args s 0 0 A := ⟨_, rfl⟩
  rw [← hQ]
  have hl : lv_has ls 3 [(0, .ref (ad 0))] := hl
  unfold f_X11_readAtom at hf
  have J182 : ∀ (μ : Mm) (v2 : Int32) (H : Heap) (locs : List Loc) (ls : Array Slot), f_X11_readAtom_J182 fC fA μ v2 = some res → Wd D (faM ad) (feM tc ad) A s.heap μ H locs → lv_has ls 3 [(0, .ref (ad 0)), (2, .int v2)] → W p l e (rmq (XF + 3) (XN + 62)) s m args below meth c H locs 0 0 Q (F0 m 182 ls []) := by
    intro μ v2 H locs ls hf hW hl
    unfold f_X11_readAtom_J182 at hf
    refine lv_aload_n hx hb dX11_readAtom_182 rfl (lv_at hl 0 rfl) ?_
    obtain ⟨x183, h183, hf⟩ := bd_of hf
    refine r_callV (k := ((0, 0) : Ky)) C hW hl lk_X11_291 (c_X11_readSum h183) ⟨rfl, rfl⟩ ⟨by simp only [rmq]; omega, by simp only [rmq]; omega⟩ rfl rfl rfl (As := []) (rest := []) rfl rfl (Nat.le_of_ble_eq_true rfl) dX11_readAtom_183 ⟨Nat.zero_le _, Nat.zero_le _⟩ (fun H locs hW => ?_)
    show W p l e (rmq (XF + 3) (XN + 62)) s m args below meth c H locs 0 0 Q (F0 m 186 ls [.int x183.1])
    refine lv_if_ne (tgt := 191) hx hb dX11_readAtom_186 (by decide) (fun c2 => ?_) (fun c2 => ?_)
    · have hf := (if_neg c2).symm.trans hf
      refine lv_aload_n hx hb dX11_readAtom_191 rfl (lv_at hl 0 rfl) ?_
      refine lv_iload_n hx hb dX11_readAtom_192 rfl (lv_at hl 1 rfl) ?_
      refine lv_if_eq (tgt := 201) hx hb dX11_readAtom_193 (by decide) (fun c3 => ?_) (fun c3 => ?_)
      · have hf := (if_pos c3).symm.trans hf
        refine lv_bipush (v := 9) hx hb dX11_readAtom_201 (by decide) ?_
        refine lv_iconst (v := 0) hx hb dX11_readAtom_203 (by decide) ?_
        obtain ⟨x204, h204, hf⟩ := bd_of hf
        refine r_callV (k := ((0, 0) : Ky)) C hW hl lk_X11_256 (c_X11_emits h204) ⟨rfl, rfl⟩ ⟨by simp only [rmq]; omega, by simp only [rmq]; omega⟩ rfl rfl rfl (As := [.int (9 : Int32), .int (0 : Int32)]) (rest := []) rfl rfl (Nat.le_of_ble_eq_true rfl) dX11_readAtom_204 ⟨Nat.zero_le _, Nat.zero_le _⟩ (fun H locs hW => ?_)
        show W p l e (rmq (XF + 3) (XN + 62)) s m args below meth c H locs 0 0 Q (F0 m 207 ls [])
        refine lv_iconst (v := 1) hx hb dX11_readAtom_207 (by decide) ?_
        obtain rfl := Option.some.inj hf
        rw [hQ]
        exact r_zret C hr hk hW (Or.inr rfl) rfl rfl dX11_readAtom_208
      · have hf := (if_neg c3).symm.trans hf
        refine lv_bipush (v := 8) hx hb dX11_readAtom_196 (by decide) ?_
        refine lv_goto (tgt := 203) hx hb dX11_readAtom_198 (by decide) ?_
        refine lv_iconst (v := 0) hx hb dX11_readAtom_203 (by decide) ?_
        obtain ⟨x204, h204, hf⟩ := bd_of hf
        refine r_callV (k := ((0, 0) : Ky)) C hW hl lk_X11_256 (c_X11_emits h204) ⟨rfl, rfl⟩ ⟨by simp only [rmq]; omega, by simp only [rmq]; omega⟩ rfl rfl rfl (As := [.int (8 : Int32), .int (0 : Int32)]) (rest := []) rfl rfl (Nat.le_of_ble_eq_true rfl) dX11_readAtom_204 ⟨Nat.zero_le _, Nat.zero_le _⟩ (fun H locs hW => ?_)
        show W p l e (rmq (XF + 3) (XN + 62)) s m args below meth c H locs 0 0 Q (F0 m 207 ls [])
        refine lv_iconst (v := 1) hx hb dX11_readAtom_207 (by decide) ?_
        obtain rfl := Option.some.inj hf
        rw [hQ]
        exact r_zret C hr hk hW (Or.inr rfl) rfl rfl dX11_readAtom_208
    · have hf := (if_pos c2).symm.trans hf
      refine lv_iconst (v := 0) hx hb dX11_readAtom_189 (by decide) ?_
      obtain rfl := Option.some.inj hf
      rw [hQ]
      exact r_zret C hr hk hW (Or.inl rfl) rfl rfl dX11_readAtom_190
  refine lv_aload_n hx hb dX11_readAtom_0 rfl (lv_at hl 0 rfl) ?_
  refine lv_bipush (v := 40) hx hb dX11_readAtom_1 (by decide) ?_
  obtain ⟨x3, h3, hf⟩ := bd_of hf
  refine r_callV (k := ((0, 0) : Ky)) C hW hl lk_X11_270 (c_X11_sign h3) ⟨rfl, rfl⟩ ⟨by simp only [rmq]; omega, by simp only [rmq]; omega⟩ rfl rfl rfl (As := [.int (40 : Int32)]) (rest := []) rfl rfl (Nat.le_of_ble_eq_true rfl) dX11_readAtom_3 ⟨Nat.zero_le _, Nat.zero_le _⟩ (fun H locs hW => ?_)
  show W p l e (rmq (XF + 3) (XN + 62)) s m args below meth c H locs 0 0 Q (F0 m 6 ls [.int x3.1])
  refine lv_if_eq (tgt := 56) hx hb dX11_readAtom_6 (by decide) (fun c7 => ?_) (fun c7 => ?_)
  · have hf := (if_pos c7).symm.trans hf
    refine lv_aload_n hx hb dX11_readAtom_56 rfl (lv_at hl 0 rfl) ?_
    refine va_ldcSw (q := ro.1 17) (tx := "not") hx hb C.1.2.2.2.1 (C.2.2.2.1 ("BackVillageModel", 279, "not", 17) (by decide)) dX11_readAtom_57 ?_
    obtain ⟨x60, h60, hf⟩ := bd_of hf
    refine r_callV (k := ((0, 0) : Ky)) C hW hl lk_X11_281 (c_X11_passes (by decide) h60) ⟨rfl, rfl⟩ ⟨by simp only [rmq]; omega, by simp only [rmq]; omega⟩ rfl rfl rfl (As := [.ref (ro.1 17)]) (rest := []) rfl rfl (Nat.le_of_ble_eq_true rfl) dX11_readAtom_60 ⟨Nat.zero_le _, Nat.zero_le _⟩ (fun H locs hW => ?_)
    show W p l e (rmq (XF + 3) (XN + 62)) s m args below meth c H locs 0 0 Q (F0 m 63 ls [.int x60.1])
    refine lv_if_eq (tgt := 115) hx hb dX11_readAtom_63 (by decide) (fun c9 => ?_) (fun c9 => ?_)
    · have hf := (if_pos c9).symm.trans hf
      refine lv_aload_n hx hb dX11_readAtom_115 rfl (lv_at hl 0 rfl) ?_
      refine va_ldcSw (q := ro.1 18) (tx := "sure") hx hb C.1.2.2.2.1 (C.2.2.2.1 ("BackVillageModel", 287, "sure", 18) (by decide)) dX11_readAtom_116 ?_
      obtain ⟨x119, h119, hf⟩ := bd_of hf
      refine r_callV (k := ((0, 0) : Ky)) C hW hl lk_X11_281 (c_X11_passes (by decide) h119) ⟨rfl, rfl⟩ ⟨by simp only [rmq]; omega, by simp only [rmq]; omega⟩ rfl rfl rfl (As := [.ref (ro.1 18)]) (rest := []) rfl rfl (Nat.le_of_ble_eq_true rfl) dX11_readAtom_119 ⟨Nat.zero_le _, Nat.zero_le _⟩ (fun H locs hW => ?_)
      show W p l e (rmq (XF + 3) (XN + 62)) s m args below meth c H locs 0 0 Q (F0 m 122 ls [.int x119.1])
      refine lv_istore_n (lv' := [(1, .int x119.1), (0, .ref (ad 0))]) hx hb dX11_readAtom_122 rfl hl (by decide) rfl (fun ls hl => ?_)
      refine lv_iload_n hx hb dX11_readAtom_123 rfl (lv_at hl 0 rfl) ?_
      refine lv_if_ne (tgt := 137) hx hb dX11_readAtom_124 (by decide) (fun c11 => ?_) (fun c11 => ?_)
      · have hf := (if_neg c11).symm.trans hf
        refine lv_aload_n hx hb dX11_readAtom_137 rfl (lv_at hl 1 rfl) ?_
        refine lv_iload_n hx hb dX11_readAtom_138 rfl (lv_at hl 0 rfl) ?_
        refine lv_if_eq (tgt := 146) hx hb dX11_readAtom_139 (by decide) (fun c12 => ?_) (fun c12 => ?_)
        · have hf := (if_pos c12).symm.trans hf
          refine lv_iconst (v := 5) hx hb dX11_readAtom_146 (by decide) ?_
          refine lv_iconst (v := 0) hx hb dX11_readAtom_147 (by decide) ?_
          obtain ⟨x148, h148, hf⟩ := bd_of hf
          refine r_callV (k := ((0, 0) : Ky)) C hW hl lk_X11_256 (c_X11_emits h148) ⟨rfl, rfl⟩ ⟨by simp only [rmq]; omega, by simp only [rmq]; omega⟩ rfl rfl rfl (As := [.int (5 : Int32), .int (0 : Int32)]) (rest := []) rfl rfl (Nat.le_of_ble_eq_true rfl) dX11_readAtom_148 ⟨Nat.zero_le _, Nat.zero_le _⟩ (fun H locs hW => ?_)
          show W p l e (rmq (XF + 3) (XN + 62)) s m args below meth c H locs 0 0 Q (F0 m 151 ls [])
          refine lv_iconst (v := 1) hx hb dX11_readAtom_151 (by decide) ?_
          obtain rfl := Option.some.inj hf
          rw [hQ]
          exact r_zret C hr hk hW (Or.inr rfl) rfl rfl dX11_readAtom_152
        · have hf := (if_neg c12).symm.trans hf
          refine lv_iconst (v := 4) hx hb dX11_readAtom_142 (by decide) ?_
          refine lv_goto (tgt := 147) hx hb dX11_readAtom_143 (by decide) ?_
          refine lv_iconst (v := 0) hx hb dX11_readAtom_147 (by decide) ?_
          obtain ⟨x148, h148, hf⟩ := bd_of hf
          refine r_callV (k := ((0, 0) : Ky)) C hW hl lk_X11_256 (c_X11_emits h148) ⟨rfl, rfl⟩ ⟨by simp only [rmq]; omega, by simp only [rmq]; omega⟩ rfl rfl rfl (As := [.int (4 : Int32), .int (0 : Int32)]) (rest := []) rfl rfl (Nat.le_of_ble_eq_true rfl) dX11_readAtom_148 ⟨Nat.zero_le _, Nat.zero_le _⟩ (fun H locs hW => ?_)
          show W p l e (rmq (XF + 3) (XN + 62)) s m args below meth c H locs 0 0 Q (F0 m 151 ls [])
          refine lv_iconst (v := 1) hx hb dX11_readAtom_151 (by decide) ?_
          obtain rfl := Option.some.inj hf
          rw [hQ]
          exact r_zret C hr hk hW (Or.inr rfl) rfl rfl dX11_readAtom_152
      · have hf := (if_pos c11).symm.trans hf
        refine lv_aload_n hx hb dX11_readAtom_127 rfl (lv_at hl 1 rfl) ?_
        refine va_ldcSw (q := ro.1 19) (tx := "seen") hx hb C.1.2.2.2.1 (C.2.2.2.1 ("BackVillageModel", 289, "seen", 19) (by decide)) dX11_readAtom_128 ?_
        obtain ⟨x131, h131, hf⟩ := bd_of hf
        refine r_callV (k := ((0, 0) : Ky)) C hW hl lk_X11_281 (c_X11_passes (by decide) h131) ⟨rfl, rfl⟩ ⟨by simp only [rmq]; omega, by simp only [rmq]; omega⟩ rfl rfl rfl (As := [.ref (ro.1 19)]) (rest := []) rfl rfl (Nat.le_of_ble_eq_true rfl) dX11_readAtom_131 ⟨Nat.zero_le _, Nat.zero_le _⟩ (fun H locs hW => ?_)
        show W p l e (rmq (XF + 3) (XN + 62)) s m args below meth c H locs 0 0 Q (F0 m 134 ls [.int x131.1])
        refine lv_if_eq (tgt := 153) hx hb dX11_readAtom_134 (by decide) (fun c16 => ?_) (fun c16 => ?_)
        · have hf := (if_pos c16).symm.trans hf
          refine lv_aload_n hx hb dX11_readAtom_153 rfl (lv_at hl 1 rfl) ?_
          obtain ⟨x154, h154, hf⟩ := bd_of hf
          refine r_callV (k := ((0, 0) : Ky)) C hW hl lk_X11_291 (c_X11_readSum h154) ⟨rfl, rfl⟩ ⟨by simp only [rmq]; omega, by simp only [rmq]; omega⟩ rfl rfl rfl (As := []) (rest := []) rfl rfl (Nat.le_of_ble_eq_true rfl) dX11_readAtom_154 ⟨Nat.zero_le _, Nat.zero_le _⟩ (fun H locs hW => ?_)
          show W p l e (rmq (XF + 3) (XN + 62)) s m args below meth c H locs 0 0 Q (F0 m 157 ls [.int x154.1])
          refine lv_if_ne (tgt := 162) hx hb dX11_readAtom_157 (by decide) (fun c18 => ?_) (fun c18 => ?_)
          · have hf := (if_neg c18).symm.trans hf
            refine lv_aload_n hx hb dX11_readAtom_162 rfl (lv_at hl 1 rfl) ?_
            refine lv_bipush (v := 60) hx hb dX11_readAtom_163 (by decide) ?_
            obtain ⟨x165, h165, hf⟩ := bd_of hf
            refine r_callV (k := ((0, 0) : Ky)) C hW hl lk_X11_270 (c_X11_sign h165) ⟨rfl, rfl⟩ ⟨by simp only [rmq]; omega, by simp only [rmq]; omega⟩ rfl rfl rfl (As := [.int (60 : Int32)]) (rest := []) rfl rfl (Nat.le_of_ble_eq_true rfl) dX11_readAtom_165 ⟨Nat.zero_le _, Nat.zero_le _⟩ (fun H locs hW => ?_)
            show W p l e (rmq (XF + 3) (XN + 62)) s m args below meth c H locs 0 0 Q (F0 m 168 ls [.int x165.1])
            refine lv_istore_n (lv' := [(2, .int x165.1), (1, .int x119.1), (0, .ref (ad 0))]) hx hb dX11_readAtom_168 rfl hl (by decide) rfl (fun ls hl => ?_)
            refine lv_iload_n hx hb dX11_readAtom_169 rfl (lv_at hl 0 rfl) ?_
            refine lv_if_ne (tgt := 182) hx hb dX11_readAtom_170 (by decide) (fun c20 => ?_) (fun c20 => ?_)
            · have hf := (if_neg c20).symm.trans hf
              exact J182 x165.2 x165.1 _ _ _ hf hW (lv_sub hl [2, 0] rfl)
            · have hf := (if_pos c20).symm.trans hf
              refine lv_aload_n hx hb dX11_readAtom_173 rfl (lv_at hl 2 rfl) ?_
              refine lv_bipush (v := 62) hx hb dX11_readAtom_174 (by decide) ?_
              obtain ⟨x176, h176, hf⟩ := bd_of hf
              refine r_callV (k := ((0, 0) : Ky)) C hW hl lk_X11_270 (c_X11_sign h176) ⟨rfl, rfl⟩ ⟨by simp only [rmq]; omega, by simp only [rmq]; omega⟩ rfl rfl rfl (As := [.int (62 : Int32)]) (rest := []) rfl rfl (Nat.le_of_ble_eq_true rfl) dX11_readAtom_176 ⟨Nat.zero_le _, Nat.zero_le _⟩ (fun H locs hW => ?_)
              show W p l e (rmq (XF + 3) (XN + 62)) s m args below meth c H locs 0 0 Q (F0 m 179 ls [.int x176.1])
              refine lv_if_eq (tgt := 189) hx hb dX11_readAtom_179 (by decide) (fun c22 => ?_) (fun c22 => ?_)
              · have hf := (if_pos c22).symm.trans hf
                refine lv_iconst (v := 0) hx hb dX11_readAtom_189 (by decide) ?_
                obtain rfl := Option.some.inj hf
                rw [hQ]
                exact r_zret C hr hk hW (Or.inl rfl) rfl rfl dX11_readAtom_190
              · have hf := (if_neg c22).symm.trans hf
                exact J182 x176.2 x165.1 _ _ _ hf hW (lv_sub hl [2, 0] rfl)
          · have hf := (if_pos c18).symm.trans hf
            refine lv_iconst (v := 0) hx hb dX11_readAtom_160 (by decide) ?_
            obtain rfl := Option.some.inj hf
            rw [hQ]
            exact r_zret C hr hk hW (Or.inl rfl) rfl rfl dX11_readAtom_161
        · have hf := (if_neg c16).symm.trans hf
          refine lv_aload_n hx hb dX11_readAtom_137 rfl (lv_at hl 1 rfl) ?_
          refine lv_iload_n hx hb dX11_readAtom_138 rfl (lv_at hl 0 rfl) ?_
          refine lv_if_eq (tgt := 146) hx hb dX11_readAtom_139 (by decide) (fun c23 => ?_) (fun c23 => ?_)
          · have hf := (if_pos c23).symm.trans hf
            refine lv_iconst (v := 5) hx hb dX11_readAtom_146 (by decide) ?_
            refine lv_iconst (v := 0) hx hb dX11_readAtom_147 (by decide) ?_
            obtain ⟨x148, h148, hf⟩ := bd_of hf
            refine r_callV (k := ((0, 0) : Ky)) C hW hl lk_X11_256 (c_X11_emits h148) ⟨rfl, rfl⟩ ⟨by simp only [rmq]; omega, by simp only [rmq]; omega⟩ rfl rfl rfl (As := [.int (5 : Int32), .int (0 : Int32)]) (rest := []) rfl rfl (Nat.le_of_ble_eq_true rfl) dX11_readAtom_148 ⟨Nat.zero_le _, Nat.zero_le _⟩ (fun H locs hW => ?_)
            show W p l e (rmq (XF + 3) (XN + 62)) s m args below meth c H locs 0 0 Q (F0 m 151 ls [])
            refine lv_iconst (v := 1) hx hb dX11_readAtom_151 (by decide) ?_
            obtain rfl := Option.some.inj hf
            rw [hQ]
            exact r_zret C hr hk hW (Or.inr rfl) rfl rfl dX11_readAtom_152
          · have hf := (if_neg c23).symm.trans hf
            refine lv_iconst (v := 4) hx hb dX11_readAtom_142 (by decide) ?_
            refine lv_goto (tgt := 147) hx hb dX11_readAtom_143 (by decide) ?_
            refine lv_iconst (v := 0) hx hb dX11_readAtom_147 (by decide) ?_
            obtain ⟨x148, h148, hf⟩ := bd_of hf
            refine r_callV (k := ((0, 0) : Ky)) C hW hl lk_X11_256 (c_X11_emits h148) ⟨rfl, rfl⟩ ⟨by simp only [rmq]; omega, by simp only [rmq]; omega⟩ rfl rfl rfl (As := [.int (4 : Int32), .int (0 : Int32)]) (rest := []) rfl rfl (Nat.le_of_ble_eq_true rfl) dX11_readAtom_148 ⟨Nat.zero_le _, Nat.zero_le _⟩ (fun H locs hW => ?_)
            show W p l e (rmq (XF + 3) (XN + 62)) s m args below meth c H locs 0 0 Q (F0 m 151 ls [])
            refine lv_iconst (v := 1) hx hb dX11_readAtom_151 (by decide) ?_
            obtain rfl := Option.some.inj hf
            rw [hQ]
            exact r_zret C hr hk hW (Or.inr rfl) rfl rfl dX11_readAtom_152
    · have hf := (if_neg c9).symm.trans hf
      refine lv_aload_n hx hb dX11_readAtom_66 rfl (lv_at hl 0 rfl) ?_
      refine gf_X11_273 C hW dX11_readAtom_67 ?_
      refine lv_bipush (v := 6) hx hb dX11_readAtom_70 (by decide) ?_
      refine lv_icmp_ne (tgt := 77) hx hb dX11_readAtom_72 (by decide) (fun c26 => ?_) (fun c26 => ?_)
      · have hf := (if_neg c26).symm.trans hf
        refine lv_aload_n hx hb dX11_readAtom_77 rfl (lv_at hl 0 rfl) ?_
        refine lv_dup hx hb dX11_readAtom_78 rfl ?_
        refine gf_X11_273 C hW dX11_readAtom_79 ?_
        refine lv_iconst (v := 1) hx hb dX11_readAtom_82 (by decide) ?_
        refine lv_iadd hx hb dX11_readAtom_83 ?_
        refine pf_X11_273 C hW dX11_readAtom_84 (fun H locs hW => ?_)
        refine lv_aload_n hx hb dX11_readAtom_87 rfl (lv_at hl 0 rfl) ?_
        obtain ⟨x88, h88, hf⟩ := bd_of hf
        refine r_callV (k := ((0, 0) : Ky)) C hW hl lk_X11_284 (hfA h88) ⟨rfl, rfl⟩ ⟨by simp only [rmq]; omega, by simp only [rmq]; omega⟩ rfl rfl rfl (As := []) (rest := []) rfl rfl (Nat.le_of_ble_eq_true rfl) dX11_readAtom_88 ⟨Nat.zero_le _, Nat.zero_le _⟩ (fun H locs hW => ?_)
        show W p l e (rmq (XF + 3) (XN + 62)) s m args below meth c H locs 0 0 Q (F0 m 91 ls [.int x88.1])
        refine lv_if_ne (tgt := 96) hx hb dX11_readAtom_91 (by decide) (fun c28 => ?_) (fun c28 => ?_)
        · have hf := (if_neg c28).symm.trans hf
          refine lv_aload_n hx hb dX11_readAtom_96 rfl (lv_at hl 0 rfl) ?_
          refine lv_dup hx hb dX11_readAtom_97 rfl ?_
          refine gf_X11_273 C hW dX11_readAtom_98 ?_
          refine lv_iconst (v := 1) hx hb dX11_readAtom_101 (by decide) ?_
          refine lv_isub hx hb dX11_readAtom_102 ?_
          refine pf_X11_273 C hW dX11_readAtom_103 (fun H locs hW => ?_)
          refine lv_aload_n hx hb dX11_readAtom_106 rfl (lv_at hl 0 rfl) ?_
          refine lv_bipush (v := 10) hx hb dX11_readAtom_107 (by decide) ?_
          refine lv_iconst (v := 0) hx hb dX11_readAtom_109 (by decide) ?_
          obtain ⟨x110, h110, hf⟩ := bd_of hf
          refine r_callV (k := ((0, 0) : Ky)) C hW hl lk_X11_256 (c_X11_emits h110) ⟨rfl, rfl⟩ ⟨by simp only [rmq]; omega, by simp only [rmq]; omega⟩ rfl rfl rfl (As := [.int (10 : Int32), .int (0 : Int32)]) (rest := []) rfl rfl (Nat.le_of_ble_eq_true rfl) dX11_readAtom_110 ⟨Nat.zero_le _, Nat.zero_le _⟩ (fun H locs hW => ?_)
          show W p l e (rmq (XF + 3) (XN + 62)) s m args below meth c H locs 0 0 Q (F0 m 113 ls [])
          refine lv_iconst (v := 1) hx hb dX11_readAtom_113 (by decide) ?_
          obtain rfl := Option.some.inj hf
          rw [hQ]
          exact r_zret C hr hk hW (Or.inr rfl) rfl rfl dX11_readAtom_114
        · have hf := (if_pos c28).symm.trans hf
          refine lv_iconst (v := 0) hx hb dX11_readAtom_94 (by decide) ?_
          obtain rfl := Option.some.inj hf
          rw [hQ]
          exact r_zret C hr hk hW (Or.inl rfl) rfl rfl dX11_readAtom_95
      · have hf := (if_pos c26).symm.trans hf
        refine lv_iconst (v := 0) hx hb dX11_readAtom_75 (by decide) ?_
        obtain rfl := Option.some.inj hf
        rw [hQ]
        exact r_zret C hr hk hW (Or.inl rfl) rfl rfl dX11_readAtom_76
  · have hf := (if_neg c7).symm.trans hf
    refine lv_aload_n hx hb dX11_readAtom_9 rfl (lv_at hl 0 rfl) ?_
    refine gf_X11_273 C hW dX11_readAtom_10 ?_
    refine lv_bipush (v := 6) hx hb dX11_readAtom_13 (by decide) ?_
    refine lv_icmp_ne (tgt := 20) hx hb dX11_readAtom_15 (by decide) (fun c30 => ?_) (fun c30 => ?_)
    · have hf := (if_neg c30).symm.trans hf
      refine lv_aload_n hx hb dX11_readAtom_20 rfl (lv_at hl 0 rfl) ?_
      refine lv_dup hx hb dX11_readAtom_21 rfl ?_
      refine gf_X11_273 C hW dX11_readAtom_22 ?_
      refine lv_iconst (v := 1) hx hb dX11_readAtom_25 (by decide) ?_
      refine lv_iadd hx hb dX11_readAtom_26 ?_
      refine pf_X11_273 C hW dX11_readAtom_27 (fun H locs hW => ?_)
      refine lv_aload_n hx hb dX11_readAtom_30 rfl (lv_at hl 0 rfl) ?_
      obtain ⟨x31, h31, hf⟩ := bd_of hf
      refine r_callV (k := ((0, 0) : Ky)) C hW hl lk_X11_276 (hfC h31) ⟨rfl, rfl⟩ ⟨by simp only [rmq]; omega, by simp only [rmq]; omega⟩ rfl rfl rfl (As := []) (rest := []) rfl rfl (Nat.le_of_ble_eq_true rfl) dX11_readAtom_31 ⟨Nat.zero_le _, Nat.zero_le _⟩ (fun H locs hW => ?_)
      show W p l e (rmq (XF + 3) (XN + 62)) s m args below meth c H locs 0 0 Q (F0 m 34 ls [.int x31.1])
      refine lv_if_ne (tgt := 39) hx hb dX11_readAtom_34 (by decide) (fun c32 => ?_) (fun c32 => ?_)
      · have hf := (if_neg c32).symm.trans hf
        refine lv_aload_n hx hb dX11_readAtom_39 rfl (lv_at hl 0 rfl) ?_
        refine lv_dup hx hb dX11_readAtom_40 rfl ?_
        refine gf_X11_273 C hW dX11_readAtom_41 ?_
        refine lv_iconst (v := 1) hx hb dX11_readAtom_44 (by decide) ?_
        refine lv_isub hx hb dX11_readAtom_45 ?_
        refine pf_X11_273 C hW dX11_readAtom_46 (fun H locs hW => ?_)
        refine lv_aload_n hx hb dX11_readAtom_49 rfl (lv_at hl 0 rfl) ?_
        refine lv_bipush (v := 41) hx hb dX11_readAtom_50 (by decide) ?_
        obtain ⟨x52, h52, hf⟩ := bd_of hf
        refine r_callV (k := ((0, 0) : Ky)) C hW hl lk_X11_270 (c_X11_sign h52) ⟨rfl, rfl⟩ ⟨by simp only [rmq]; omega, by simp only [rmq]; omega⟩ rfl rfl rfl (As := [.int (41 : Int32)]) (rest := []) rfl rfl (Nat.le_of_ble_eq_true rfl) dX11_readAtom_52 ⟨Nat.zero_le _, Nat.zero_le _⟩ (fun H locs hW => ?_)
        show W p l e (rmq (XF + 3) (XN + 62)) s m args below meth c H locs 0 0 Q (F0 m 55 ls [.int x52.1])
        obtain ⟨hz34, hf⟩ := cb_of hf
        obtain rfl := Option.some.inj hf
        rw [hQ]
        exact r_zret C hr hk hW hz34 rfl rfl dX11_readAtom_55
      · have hf := (if_pos c32).symm.trans hf
        refine lv_iconst (v := 0) hx hb dX11_readAtom_37 (by decide) ?_
        obtain rfl := Option.some.inj hf
        rw [hQ]
        exact r_zret C hr hk hW (Or.inl rfl) rfl rfl dX11_readAtom_38
    · have hf := (if_pos c30).symm.trans hf
      refine lv_iconst (v := 0) hx hb dX11_readAtom_18 (by decide) ?_
      obtain rfl := Option.some.inj hf
      rw [hQ]
      exact r_zret C hr hk hW (Or.inl rfl) rfl rfl dX11_readAtom_19
set_option maxHeartbeats 4000000 in
set_option maxRecDepth 100000 in
theorem c_X11_readAllOf {l : Launch} {D : va_G} {tc : Nat → ClassId} {ro : Ro} {ad : Nat → Nat} {XF XN : Nat} (hAN : 10 ≤ XF ∧ 400 ≤ XN) {fA : Mm → Option (Int32 × Mm)} (hfA : ∀ {μ : Mm} {res : Int32 × Mm}, fA μ = some res → Ct l D tc ro (faM ad) (feM tc ad) yX11_readAtom cX11_readAtom 3 (some .boolean) (rmq XF XN) [.ref (ad 0)] μ (some (.int res.1)) res.2) {μ : Mm} {res : Int32 × Mm} (hf : f_X11_readAllOf fA μ = some res) : Ct l D tc ro (faM ad) (feM tc ad) yX11_readAllOf cX11_readAllOf 1 (some .boolean) (rmq (XF + 1) (XN + 22)) [.ref (ad 0)] μ (some (.int res.1)) res.2 := by
  refine Ct.of (by decide) (Nat.le_of_ble_eq_true rfl) (fun p e s m args below meth c A C hr hk hW ls hl => ?_)
  have hx := C.1.1
  have hb := C.1.2.1
  obtain ⟨Q, hQ⟩ : ∃ Q, Q = MQ below (Ctq D (faM ad) (feM tc ad) (some (.int res.1)) res.2 A) args s 0 0 A := ⟨_, rfl⟩
  rw [← hQ]
  have hl : lv_has ls 1 [(0, .ref (ad 0))] := hl
  unfold f_X11_readAllOf at hf
  refine lv_aload_n hx hb dX11_readAllOf_0 rfl (lv_at hl 0 rfl) ?_
  obtain ⟨x1, h1, hf⟩ := bd_of hf
  refine r_callV (k := ((0, 0) : Ky)) C hW hl lk_X11_284 (hfA h1) ⟨rfl, rfl⟩ ⟨by simp only [rmq]; omega, by simp only [rmq]; omega⟩ rfl rfl rfl (As := []) (rest := []) rfl rfl (Nat.le_of_ble_eq_true rfl) dX11_readAllOf_1 ⟨Nat.zero_le _, Nat.zero_le _⟩ (fun H locs hW => ?_)
  show W p l e (rmq (XF + 1) (XN + 22)) s m args below meth c H locs 0 0 Q (F0 m 4 ls [.int x1.1])
  refine lv_if_ne (tgt := 9) hx hb dX11_readAllOf_4 (by decide) (fun c2 => ?_) (fun c2 => ?_)
  · have hf := (if_neg c2).symm.trans hf
    have L9 : ∀ (μ : Mm) (H : Heap) (locs : List Loc) (ls : Array Slot), Wh (fun z : Mm => f_X11_readAllOf_L9 fA z) (μ) = some res → Wd D (faM ad) (feM tc ad) A s.heap μ H locs → lv_has ls 1 [(0, .ref (ad 0))] → W p l e (rmq (XF + 1) (XN + 22)) s m args below meth c H locs 0 0 Q (F0 m 9 ls []) := by
      intro μ  H locs ls hf hW hl
      refine Wh_rule hf (fun z : Mm => ∀ (H : Heap) (locs : List Loc) (ls : Array Slot), Wd D (faM ad) (feM tc ad) A s.heap z H locs → lv_has ls 1 [(0, .ref (ad 0))] → W p l e (rmq (XF + 1) (XN + 22)) s m args below meth c H locs 0 0 Q (F0 m 9 ls [])) (fun z o1 hf Kl1 Kr1 => ?_) _ _ _ hW hl
      obtain ⟨μ, ez⟩ : ∃ q, q = z := ⟨_, rfl⟩
      subst ez
      intro H locs ls hW hl
      have hf : f_X11_readAllOf_L9 fA μ = some o1 := hf
      unfold f_X11_readAllOf_L9 at hf
      have hW : Wd D (faM ad) (feM tc ad) A s.heap μ H locs := hW
      have hl : lv_has ls 1 [(0, .ref (ad 0))] := hl
      refine lv_aload_n hx hb dX11_readAllOf_9 rfl (lv_at hl 0 rfl) ?_
      refine va_ldcSw (q := ro.1 16) (tx := "and") hx hb C.1.2.2.2.1 (C.2.2.2.1 ("BackVillageModel", 294, "and", 16) (by decide)) dX11_readAllOf_10 ?_
      obtain ⟨x13, h13, hf⟩ := bd_of hf
      refine r_callV (k := ((0, 0) : Ky)) C hW hl lk_X11_281 (c_X11_passes (by decide) h13) ⟨rfl, rfl⟩ ⟨by simp only [rmq]; omega, by simp only [rmq]; omega⟩ rfl rfl rfl (As := [.ref (ro.1 16)]) (rest := []) rfl rfl (Nat.le_of_ble_eq_true rfl) dX11_readAllOf_13 ⟨Nat.zero_le _, Nat.zero_le _⟩ (fun H locs hW => ?_)
      show W p l e (rmq (XF + 1) (XN + 22)) s m args below meth c H locs 0 0 Q (F0 m 16 ls [.int x13.1])
      refine lv_if_eq (tgt := 38) hx hb dX11_readAllOf_16 (by decide) (fun c4 => ?_) (fun c4 => ?_)
      · have hf := (if_pos c4).symm.trans hf
        obtain ⟨x9005, hf, hx9005⟩ := map_of hf
        have e9005 := (Kr1 _ hx9005.symm).symm
        subst e9005
        refine lv_iconst (v := 1) hx hb dX11_readAllOf_38 (by decide) ?_
        obtain rfl := Option.some.inj hf
        rw [hQ]
        exact r_zret C hr hk hW (Or.inr rfl) rfl rfl dX11_readAllOf_39
      · have hf := (if_neg c4).symm.trans hf
        refine lv_aload_n hx hb dX11_readAllOf_19 rfl (lv_at hl 0 rfl) ?_
        obtain ⟨x20, h20, hf⟩ := bd_of hf
        refine r_callV (k := ((0, 0) : Ky)) C hW hl lk_X11_284 (hfA h20) ⟨rfl, rfl⟩ ⟨by simp only [rmq]; omega, by simp only [rmq]; omega⟩ rfl rfl rfl (As := []) (rest := []) rfl rfl (Nat.le_of_ble_eq_true rfl) dX11_readAllOf_20 ⟨Nat.zero_le _, Nat.zero_le _⟩ (fun H locs hW => ?_)
        show W p l e (rmq (XF + 1) (XN + 22)) s m args below meth c H locs 0 0 Q (F0 m 23 ls [.int x20.1])
        refine lv_if_ne (tgt := 28) hx hb dX11_readAllOf_23 (by decide) (fun c7 => ?_) (fun c7 => ?_)
        · have hf := (if_neg c7).symm.trans hf
          refine lv_aload_n hx hb dX11_readAllOf_28 rfl (lv_at hl 0 rfl) ?_
          refine lv_bipush (v := 11) hx hb dX11_readAllOf_29 (by decide) ?_
          refine lv_iconst (v := 0) hx hb dX11_readAllOf_31 (by decide) ?_
          obtain ⟨x32, h32, hf⟩ := bd_of hf
          refine r_callV (k := ((0, 0) : Ky)) C hW hl lk_X11_256 (c_X11_emits h32) ⟨rfl, rfl⟩ ⟨by simp only [rmq]; omega, by simp only [rmq]; omega⟩ rfl rfl rfl (As := [.int (11 : Int32), .int (0 : Int32)]) (rest := []) rfl rfl (Nat.le_of_ble_eq_true rfl) dX11_readAllOf_32 ⟨Nat.zero_le _, Nat.zero_le _⟩ (fun H locs hW => ?_)
          show W p l e (rmq (XF + 1) (XN + 22)) s m args below meth c H locs 0 0 Q (F0 m 35 ls [])
          refine lv_goto (tgt := 9) hx hb dX11_readAllOf_35 (by decide) ?_
          obtain rfl := Option.some.inj hf
          exact Kl1 _ rfl _ _ _ hW (lv_sub hl [0] rfl)
        · have hf := (if_pos c7).symm.trans hf
          obtain ⟨x9009, hf, hx9009⟩ := map_of hf
          have e9009 := (Kr1 _ hx9009.symm).symm
          subst e9009
          refine lv_iconst (v := 0) hx hb dX11_readAllOf_26 (by decide) ?_
          obtain rfl := Option.some.inj hf
          rw [hQ]
          exact r_zret C hr hk hW (Or.inl rfl) rfl rfl dX11_readAllOf_27
    exact L9 x1.2 _ _ _ hf hW (lv_sub hl [0] rfl)
  · have hf := (if_pos c2).symm.trans hf
    refine lv_iconst (v := 0) hx hb dX11_readAllOf_7 (by decide) ?_
    obtain rfl := Option.some.inj hf
    rw [hQ]
    exact r_zret C hr hk hW (Or.inl rfl) rfl rfl dX11_readAllOf_8
set_option maxHeartbeats 4000000 in
set_option maxRecDepth 100000 in
theorem c_X11_readCond {l : Launch} {D : va_G} {tc : Nat → ClassId} {ro : Ro} {ad : Nat → Nat} {XF XN : Nat} (hAN : 10 ≤ XF ∧ 400 ≤ XN) {fB : Mm → Option (Int32 × Mm)} (hfB : ∀ {μ : Mm} {res : Int32 × Mm}, fB μ = some res → Ct l D tc ro (faM ad) (feM tc ad) yX11_readAllOf cX11_readAllOf 1 (some .boolean) (rmq (XF + 1) (XN + 22)) [.ref (ad 0)] μ (some (.int res.1)) res.2) {μ : Mm} {res : Int32 × Mm} (hf : f_X11_readCond fB μ = some res) : Ct l D tc ro (faM ad) (feM tc ad) yX11_readCond cX11_readCond 1 (some .boolean) (rmq (XF + 2) (XN + 42)) [.ref (ad 0)] μ (some (.int res.1)) res.2 := by
  refine Ct.of (by decide) (Nat.le_of_ble_eq_true rfl) (fun p e s m args below meth c A C hr hk hW ls hl => ?_)
  have hx := C.1.1
  have hb := C.1.2.1
  obtain ⟨Q, hQ⟩ : ∃ Q, Q = MQ below (Ctq D (faM ad) (feM tc ad) (some (.int res.1)) res.2 A) args s 0 0 A := ⟨_, rfl⟩
  rw [← hQ]
  have hl : lv_has ls 1 [(0, .ref (ad 0))] := hl
  unfold f_X11_readCond at hf
  refine lv_aload_n hx hb dX11_readCond_0 rfl (lv_at hl 0 rfl) ?_
  obtain ⟨x1, h1, hf⟩ := bd_of hf
  refine r_callV (k := ((0, 0) : Ky)) C hW hl lk_X11_296 (hfB h1) ⟨rfl, rfl⟩ ⟨by simp only [rmq]; omega, by simp only [rmq]; omega⟩ rfl rfl rfl (As := []) (rest := []) rfl rfl (Nat.le_of_ble_eq_true rfl) dX11_readCond_1 ⟨Nat.zero_le _, Nat.zero_le _⟩ (fun H locs hW => ?_)
  show W p l e (rmq (XF + 2) (XN + 42)) s m args below meth c H locs 0 0 Q (F0 m 4 ls [.int x1.1])
  refine lv_if_ne (tgt := 9) hx hb dX11_readCond_4 (by decide) (fun c2 => ?_) (fun c2 => ?_)
  · have hf := (if_neg c2).symm.trans hf
    have L9 : ∀ (μ : Mm) (H : Heap) (locs : List Loc) (ls : Array Slot), Wh (fun z : Mm => f_X11_readCond_L9 fB z) (μ) = some res → Wd D (faM ad) (feM tc ad) A s.heap μ H locs → lv_has ls 1 [(0, .ref (ad 0))] → W p l e (rmq (XF + 2) (XN + 42)) s m args below meth c H locs 0 0 Q (F0 m 9 ls []) := by
      intro μ  H locs ls hf hW hl
      refine Wh_rule hf (fun z : Mm => ∀ (H : Heap) (locs : List Loc) (ls : Array Slot), Wd D (faM ad) (feM tc ad) A s.heap z H locs → lv_has ls 1 [(0, .ref (ad 0))] → W p l e (rmq (XF + 2) (XN + 42)) s m args below meth c H locs 0 0 Q (F0 m 9 ls [])) (fun z o1 hf Kl1 Kr1 => ?_) _ _ _ hW hl
      obtain ⟨μ, ez⟩ : ∃ q, q = z := ⟨_, rfl⟩
      subst ez
      intro H locs ls hW hl
      have hf : f_X11_readCond_L9 fB μ = some o1 := hf
      unfold f_X11_readCond_L9 at hf
      have hW : Wd D (faM ad) (feM tc ad) A s.heap μ H locs := hW
      have hl : lv_has ls 1 [(0, .ref (ad 0))] := hl
      refine lv_aload_n hx hb dX11_readCond_9 rfl (lv_at hl 0 rfl) ?_
      refine va_ldcSw (q := ro.1 15) (tx := "or") hx hb C.1.2.2.2.1 (C.2.2.2.1 ("BackVillageModel", 299, "or", 15) (by decide)) dX11_readCond_10 ?_
      obtain ⟨x13, h13, hf⟩ := bd_of hf
      refine r_callV (k := ((0, 0) : Ky)) C hW hl lk_X11_281 (c_X11_passes (by decide) h13) ⟨rfl, rfl⟩ ⟨by simp only [rmq]; omega, by simp only [rmq]; omega⟩ rfl rfl rfl (As := [.ref (ro.1 15)]) (rest := []) rfl rfl (Nat.le_of_ble_eq_true rfl) dX11_readCond_13 ⟨Nat.zero_le _, Nat.zero_le _⟩ (fun H locs hW => ?_)
      show W p l e (rmq (XF + 2) (XN + 42)) s m args below meth c H locs 0 0 Q (F0 m 16 ls [.int x13.1])
      refine lv_if_eq (tgt := 38) hx hb dX11_readCond_16 (by decide) (fun c4 => ?_) (fun c4 => ?_)
      · have hf := (if_pos c4).symm.trans hf
        obtain ⟨x9005, hf, hx9005⟩ := map_of hf
        have e9005 := (Kr1 _ hx9005.symm).symm
        subst e9005
        refine lv_iconst (v := 1) hx hb dX11_readCond_38 (by decide) ?_
        obtain rfl := Option.some.inj hf
        rw [hQ]
        exact r_zret C hr hk hW (Or.inr rfl) rfl rfl dX11_readCond_39
      · have hf := (if_neg c4).symm.trans hf
        refine lv_aload_n hx hb dX11_readCond_19 rfl (lv_at hl 0 rfl) ?_
        obtain ⟨x20, h20, hf⟩ := bd_of hf
        refine r_callV (k := ((0, 0) : Ky)) C hW hl lk_X11_296 (hfB h20) ⟨rfl, rfl⟩ ⟨by simp only [rmq]; omega, by simp only [rmq]; omega⟩ rfl rfl rfl (As := []) (rest := []) rfl rfl (Nat.le_of_ble_eq_true rfl) dX11_readCond_20 ⟨Nat.zero_le _, Nat.zero_le _⟩ (fun H locs hW => ?_)
        show W p l e (rmq (XF + 2) (XN + 42)) s m args below meth c H locs 0 0 Q (F0 m 23 ls [.int x20.1])
        refine lv_if_ne (tgt := 28) hx hb dX11_readCond_23 (by decide) (fun c7 => ?_) (fun c7 => ?_)
        · have hf := (if_neg c7).symm.trans hf
          refine lv_aload_n hx hb dX11_readCond_28 rfl (lv_at hl 0 rfl) ?_
          refine lv_bipush (v := 12) hx hb dX11_readCond_29 (by decide) ?_
          refine lv_iconst (v := 0) hx hb dX11_readCond_31 (by decide) ?_
          obtain ⟨x32, h32, hf⟩ := bd_of hf
          refine r_callV (k := ((0, 0) : Ky)) C hW hl lk_X11_256 (c_X11_emits h32) ⟨rfl, rfl⟩ ⟨by simp only [rmq]; omega, by simp only [rmq]; omega⟩ rfl rfl rfl (As := [.int (12 : Int32), .int (0 : Int32)]) (rest := []) rfl rfl (Nat.le_of_ble_eq_true rfl) dX11_readCond_32 ⟨Nat.zero_le _, Nat.zero_le _⟩ (fun H locs hW => ?_)
          show W p l e (rmq (XF + 2) (XN + 42)) s m args below meth c H locs 0 0 Q (F0 m 35 ls [])
          refine lv_goto (tgt := 9) hx hb dX11_readCond_35 (by decide) ?_
          obtain rfl := Option.some.inj hf
          exact Kl1 _ rfl _ _ _ hW (lv_sub hl [0] rfl)
        · have hf := (if_pos c7).symm.trans hf
          obtain ⟨x9009, hf, hx9009⟩ := map_of hf
          have e9009 := (Kr1 _ hx9009.symm).symm
          subst e9009
          refine lv_iconst (v := 0) hx hb dX11_readCond_26 (by decide) ?_
          obtain rfl := Option.some.inj hf
          rw [hQ]
          exact r_zret C hr hk hW (Or.inl rfl) rfl rfl dX11_readCond_27
    exact L9 x1.2 _ _ _ hf hW (lv_sub hl [0] rfl)
  · have hf := (if_pos c2).symm.trans hf
    refine lv_iconst (v := 0) hx hb dX11_readCond_7 (by decide) ?_
    obtain rfl := Option.some.inj hf
    rw [hQ]
    exact r_zret C hr hk hW (Or.inl rfl) rfl rfl dX11_readCond_8
theorem c_X11_readAtomD {l : Launch} {D : va_G} {tc : Nat → ClassId} {ro : Ro} {ad : Nat → Nat} : ∀ (d : Nat) {μ : Mm} {res : Int32 × Mm}, f_X11_readAtomD d μ = some res → Ct l D tc ro (faM ad) (feM tc ad) yX11_readAtom cX11_readAtom 3 (some .boolean) (rmq (10 + 3 * d) (400 + 62 * d)) [.ref (ad 0)] μ (some (.int res.1)) res.2
  | 0, _, _, h => by cases h
  | d + 1, _, _, h => c_X11_readAtom (XF := 10 + 3 * d) (XN := 400 + 62 * d) (by omega) (c_X11_readCond (XF := 10 + 3 * d) (XN := 400 + 62 * d) (by omega) (c_X11_readAllOf (XF := 10 + 3 * d) (XN := 400 + 62 * d) (by omega) (c_X11_readAtomD d))) (c_X11_readAtomD d) h
theorem c_X11_readCondD {l : Launch} {D : va_G} {tc : Nat → ClassId} {ro : Ro} {ad : Nat → Nat} {μ : Mm} {res : Int32 × Mm} (h : f_X11_readCondD 8 μ = some res) : Ct l D tc ro (faM ad) (feM tc ad) yX11_readCond cX11_readCond 1 (some .boolean) (rmq 36 938) [.ref (ad 0)] μ (some (.int res.1)) res.2 :=
  c_X11_readCond (XF := 10 + 3 * 8) (XN := 400 + 62 * 8) (by omega) (c_X11_readAllOf (by omega) (c_X11_readAtomD 8)) h
set_option maxHeartbeats 4000000 in
set_option maxRecDepth 100000 in
theorem c_X11_readLawLine {l : Launch} {D : va_G} {tc : Nat → ClassId} {ro : Ro} {ad : Nat → Nat} {μ : Mm} {v1 : Int32} {res : Int32 × Mm} (hf : f_X11_readLawLine μ v1 = some res) : Ct l D tc ro (faM ad) (feM tc ad) yX11_readLawLine cX11_readLawLine 3 (some .boolean) (rmq 37 958) [.ref (ad 0), .int v1] μ (some (.int res.1)) res.2 := by
  refine Ct.of (by decide) (Nat.le_of_ble_eq_true rfl) (fun p e s m args below meth c A C hr hk hW ls hl => ?_)
  have hx := C.1.1
  have hb := C.1.2.1
  obtain ⟨Q, hQ⟩ : ∃ Q, Q = MQ below (Ctq D (faM ad) (feM tc ad) (some (.int res.1)) res.2 A) args s 0 0 A := ⟨_, rfl⟩
  rw [← hQ]
  have hl : lv_has ls 3 [(0, .ref (ad 0)), (1, .int v1)] := hl
  unfold f_X11_readLawLine at hf
  refine lv_sipush (v := 6278) hx hb dX11_readLawLine_0 (by decide) ?_
  refine lv_iconst (v := 3) hx hb dX11_readLawLine_3 (by decide) ?_
  refine lv_iload_n hx hb dX11_readLawLine_4 rfl (lv_at hl 1 rfl) ?_
  refine lv_imul hx hb dX11_readLawLine_5 ?_
  refine lv_iadd hx hb dX11_readLawLine_6 ?_
  refine lv_istore_n (lv' := [(2, .int ((6278 : Int32) + ((3 : Int32) * v1))), (0, .ref (ad 0)), (1, .int v1)]) hx hb dX11_readLawLine_7 rfl hl (by decide) rfl (fun ls hl => ?_)
  refine lv_aload_n hx hb dX11_readLawLine_8 rfl (lv_at hl 1 rfl) ?_
  refine va_ldcSw (q := ro.1 13) (tx := "act") hx hb C.1.2.2.2.1 (C.2.2.2.1 ("BackVillageModel", 301, "act", 13) (by decide)) dX11_readLawLine_9 ?_
  obtain ⟨x12, h12, hf⟩ := bd_of hf
  refine r_callV (k := ((0, 0) : Ky)) C hW hl lk_X11_186 (c_X11_isWord (by decide) h12) ⟨rfl, rfl⟩ ⟨Nat.le_of_ble_eq_true rfl, Nat.le_of_ble_eq_true rfl⟩ rfl rfl rfl (As := [.ref (ro.1 13)]) (rest := []) rfl rfl (Nat.le_of_ble_eq_true rfl) dX11_readLawLine_12 ⟨Nat.zero_le _, Nat.zero_le _⟩ (fun H locs hW => ?_)
  show W p l e (rmq 37 958) s m args below meth c H locs 0 0 Q (F0 m 15 ls [.int x12])
  refine lv_if_ne (tgt := 20) hx hb dX11_readLawLine_15 (by decide) (fun c2 => ?_) (fun c2 => ?_)
  · have hf := (if_neg c2).symm.trans hf
    refine lv_aload_n hx hb dX11_readLawLine_20 rfl (lv_at hl 1 rfl) ?_
    refine gf_X11_13 C hW dX11_readLawLine_21 ?_
    refine lv_iload_n hx hb dX11_readLawLine_24 rfl (lv_at hl 0 rfl) ?_
    refine lv_aload_n hx hb dX11_readLawLine_25 rfl (lv_at hl 1 rfl) ?_
    refine lv_iconst (v := 0) hx hb dX11_readLawLine_26 (by decide) ?_
    refine lv_sipush (v := 999) hx hb dX11_readLawLine_27 (by decide) ?_
    obtain ⟨x30, h30, hf⟩ := bd_of hf
    refine r_callV (k := ((0, 0) : Ky)) C hW hl lk_X11_190 (c_X11_number h30) ⟨rfl, rfl⟩ ⟨Nat.le_of_ble_eq_true rfl, Nat.le_of_ble_eq_true rfl⟩ rfl rfl rfl (As := [.int (0 : Int32), .int (999 : Int32)]) (rest := [.int ((6278 : Int32) + ((3 : Int32) * v1)), .ref (ad 1)]) rfl rfl (Nat.le_of_ble_eq_true rfl) dX11_readLawLine_30 ⟨Nat.zero_le _, Nat.zero_le _⟩ (fun H locs hW => ?_)
    show W p l e (rmq 37 958) s m args below meth c H locs 0 0 Q (F0 m 33 ls [.int x30.1, .int ((6278 : Int32) + ((3 : Int32) * v1)), .ref (ad 1)])
    obtain ⟨hi4, hf⟩ := ck_of hf
    refine r_iast (k := ((1, 0) : Ky)) (n := 7114) C hW rfl (fun _ => rfl) hi4 dX11_readLawLine_33 (fun H locs hW => ?_)
    refine lv_aload_n hx hb dX11_readLawLine_34 rfl (lv_at hl 1 rfl) ?_
    refine gf_X11_13 C hW dX11_readLawLine_35 ?_
    refine lv_iload_n hx hb dX11_readLawLine_38 rfl (lv_at hl 0 rfl) ?_
    obtain ⟨hi5, hf⟩ := ck_of hf
    refine r_iald (k := ((1, 0) : Ky)) (n := 7114) C hW rfl rfl hi5 dX11_readLawLine_39 ?_
    refine lv_if_ge (tgt := 45) hx hb dX11_readLawLine_40 (by decide) (fun c6 => ?_) (fun c6 => ?_)
    · have hf := (if_pos c6).symm.trans hf
      refine lv_aload_n hx hb dX11_readLawLine_45 rfl (lv_at hl 1 rfl) ?_
      refine gf_X11_13 C hW dX11_readLawLine_46 ?_
      refine lv_iload_n hx hb dX11_readLawLine_49 rfl (lv_at hl 0 rfl) ?_
      refine lv_iconst (v := 1) hx hb dX11_readLawLine_50 (by decide) ?_
      refine lv_iadd hx hb dX11_readLawLine_51 ?_
      refine lv_aload_n hx hb dX11_readLawLine_52 rfl (lv_at hl 1 rfl) ?_
      refine gf_X11_253 C hW dX11_readLawLine_53 ?_
      obtain ⟨hi7, hf⟩ := ck_of hf
      refine r_iast (k := ((1, 0) : Ky)) (n := 7114) C hW rfl (fun _ => rfl) hi7 dX11_readLawLine_56 (fun H locs hW => ?_)
      refine lv_aload_n hx hb dX11_readLawLine_57 rfl (lv_at hl 1 rfl) ?_
      refine lv_iconst (v := 0) hx hb dX11_readLawLine_58 (by decide) ?_
      refine pf_X11_273 C hW dX11_readLawLine_59 (fun H locs hW => ?_)
      refine lv_aload_n hx hb dX11_readLawLine_62 rfl (lv_at hl 1 rfl) ?_
      refine va_ldcSw (q := ro.1 14) (tx := "if") hx hb C.1.2.2.2.1 (C.2.2.2.1 ("BackVillageModel", 303, "if", 14) (by decide)) dX11_readLawLine_63 ?_
      obtain ⟨x66, h66, hf⟩ := bd_of hf
      refine r_callV (k := ((0, 0) : Ky)) C hW hl lk_X11_281 (c_X11_passes (by decide) h66) ⟨rfl, rfl⟩ ⟨Nat.le_of_ble_eq_true rfl, Nat.le_of_ble_eq_true rfl⟩ rfl rfl rfl (As := [.ref (ro.1 14)]) (rest := []) rfl rfl (Nat.le_of_ble_eq_true rfl) dX11_readLawLine_66 ⟨Nat.zero_le _, Nat.zero_le _⟩ (fun H locs hW => ?_)
      show W p l e (rmq 37 958) s m args below meth c H locs 0 0 Q (F0 m 69 ls [.int x66.1])
      refine lv_if_eq (tgt := 81) hx hb dX11_readLawLine_69 (by decide) (fun c9 => ?_) (fun c9 => ?_)
      · have hf := (if_pos c9).symm.trans hf
        refine lv_aload_n hx hb dX11_readLawLine_81 rfl (lv_at hl 1 rfl) ?_
        refine gf_X11_13 C hW dX11_readLawLine_82 ?_
        refine lv_iload_n hx hb dX11_readLawLine_85 rfl (lv_at hl 0 rfl) ?_
        refine lv_iconst (v := 2) hx hb dX11_readLawLine_86 (by decide) ?_
        refine lv_iadd hx hb dX11_readLawLine_87 ?_
        refine lv_aload_n hx hb dX11_readLawLine_88 rfl (lv_at hl 1 rfl) ?_
        refine gf_X11_253 C hW dX11_readLawLine_89 ?_
        obtain ⟨hi10, hf⟩ := ck_of hf
        refine r_iast (k := ((1, 0) : Ky)) (n := 7114) C hW rfl (fun _ => rfl) hi10 dX11_readLawLine_92 (fun H locs hW => ?_)
        refine lv_iconst (v := 1) hx hb dX11_readLawLine_93 (by decide) ?_
        obtain rfl := Option.some.inj hf
        rw [hQ]
        exact r_zret C hr hk hW (Or.inr rfl) rfl rfl dX11_readLawLine_94
      · have hf := (if_neg c9).symm.trans hf
        refine lv_aload_n hx hb dX11_readLawLine_72 rfl (lv_at hl 1 rfl) ?_
        obtain ⟨x73, h73, hf⟩ := bd_of hf
        refine r_callV (k := ((0, 0) : Ky)) C hW hl lk_X11_276 (c_X11_readCondD h73) ⟨rfl, rfl⟩ ⟨Nat.le_of_ble_eq_true rfl, Nat.le_of_ble_eq_true rfl⟩ rfl rfl rfl (As := []) (rest := []) rfl rfl (Nat.le_of_ble_eq_true rfl) dX11_readLawLine_73 ⟨Nat.zero_le _, Nat.zero_le _⟩ (fun H locs hW => ?_)
        show W p l e (rmq 37 958) s m args below meth c H locs 0 0 Q (F0 m 76 ls [.int x73.1])
        refine lv_if_ne (tgt := 81) hx hb dX11_readLawLine_76 (by decide) (fun c12 => ?_) (fun c12 => ?_)
        · have hf := (if_neg c12).symm.trans hf
          refine lv_aload_n hx hb dX11_readLawLine_81 rfl (lv_at hl 1 rfl) ?_
          refine gf_X11_13 C hW dX11_readLawLine_82 ?_
          refine lv_iload_n hx hb dX11_readLawLine_85 rfl (lv_at hl 0 rfl) ?_
          refine lv_iconst (v := 2) hx hb dX11_readLawLine_86 (by decide) ?_
          refine lv_iadd hx hb dX11_readLawLine_87 ?_
          refine lv_aload_n hx hb dX11_readLawLine_88 rfl (lv_at hl 1 rfl) ?_
          refine gf_X11_253 C hW dX11_readLawLine_89 ?_
          obtain ⟨hi13, hf⟩ := ck_of hf
          refine r_iast (k := ((1, 0) : Ky)) (n := 7114) C hW rfl (fun _ => rfl) hi13 dX11_readLawLine_92 (fun H locs hW => ?_)
          refine lv_iconst (v := 1) hx hb dX11_readLawLine_93 (by decide) ?_
          obtain rfl := Option.some.inj hf
          rw [hQ]
          exact r_zret C hr hk hW (Or.inr rfl) rfl rfl dX11_readLawLine_94
        · have hf := (if_pos c12).symm.trans hf
          refine lv_iconst (v := 0) hx hb dX11_readLawLine_79 (by decide) ?_
          obtain rfl := Option.some.inj hf
          rw [hQ]
          exact r_zret C hr hk hW (Or.inl rfl) rfl rfl dX11_readLawLine_80
    · have hf := (if_neg c6).symm.trans hf
      refine lv_iconst (v := 0) hx hb dX11_readLawLine_43 (by decide) ?_
      obtain rfl := Option.some.inj hf
      rw [hQ]
      exact r_zret C hr hk hW (Or.inl rfl) rfl rfl dX11_readLawLine_44
  · have hf := (if_pos c2).symm.trans hf
    refine lv_iconst (v := 0) hx hb dX11_readLawLine_18 (by decide) ?_
    obtain rfl := Option.some.inj hf
    rw [hQ]
    exact r_zret C hr hk hW (Or.inl rfl) rfl rfl dX11_readLawLine_19
set_option maxHeartbeats 4000000 in
set_option maxRecDepth 100000 in
theorem c_X11_readLine {l : Launch} {D : va_G} {tc : Nat → ClassId} {ro : Ro} {ad : Nat → Nat} {μ : Mm} {v1 v2 : Int32} {res : Int32 × Mm} (hf : f_X11_readLine μ v1 v2 = some res) : Ct l D tc ro (faM ad) (feM tc ad) yX11_readLine cX11_readLine 3 (some .boolean) (rmq 38 980) [.ref (ad 0), .int v1, .int v2] μ (some (.int res.1)) res.2 := by
  refine Ct.of (by decide) (Nat.le_of_ble_eq_true rfl) (fun p e s m args below meth c A C hr hk hW ls hl => ?_)
  have hx := C.1.1
  have hb := C.1.2.1
  obtain ⟨Q, hQ⟩ : ∃ Q, Q = MQ below (Ctq D (faM ad) (feM tc ad) (some (.int res.1)) res.2 A) args s 0 0 A := ⟨_, rfl⟩
  rw [← hQ]
  have hl : lv_has ls 3 [(0, .ref (ad 0)), (1, .int v1), (2, .int v2)] := hl
  unfold f_X11_readLine at hf
  have J16 : ∀ (μ : Mm) (s0 s1 : Int32) (H : Heap) (locs : List Loc) (ls : Array Slot), f_X11_readLine_J16 μ v1 v2 s0 s1 = some res → Wd D (faM ad) (feM tc ad) A s.heap μ H locs → lv_has ls 3 [(0, .ref (ad 0)), (1, .int v1), (2, .int v2)] → W p l e (rmq 38 980) s m args below meth c H locs 0 0 Q (F0 m 16 ls [.int s0, .int s1]) := by
    intro μ s0 s1 H locs ls hf hW hl
    unfold f_X11_readLine_J16 at hf
    refine lv_icmp_ge (tgt := 45) hx hb dX11_readLine_16 (by decide) (fun c1 => ?_) (fun c1 => ?_)
    · have hf := (if_pos c1).symm.trans hf
      refine lv_iconst (v := 0) hx hb dX11_readLine_45 (by decide) ?_
      obtain rfl := Option.some.inj hf
      rw [hQ]
      exact r_zret C hr hk hW (Or.inl rfl) rfl rfl dX11_readLine_46
    · have hf := (if_neg c1).symm.trans hf
      refine lv_iload_n hx hb dX11_readLine_19 rfl (lv_at hl 1 rfl) ?_
      refine lv_if_eq (tgt := 33) hx hb dX11_readLine_20 (by decide) (fun c2 => ?_) (fun c2 => ?_)
      · have hf := (if_pos c2).symm.trans hf
        refine lv_aload_n hx hb dX11_readLine_33 rfl (lv_at hl 0 rfl) ?_
        refine lv_iload_n hx hb dX11_readLine_34 rfl (lv_at hl 2 rfl) ?_
        obtain ⟨x35, h35, hf⟩ := bd_of hf
        refine r_callV (k := ((0, 0) : Ky)) C hW hl lk_X11_308 (c_X11_readLawLine h35) ⟨rfl, rfl⟩ ⟨Nat.le_of_ble_eq_true rfl, Nat.le_of_ble_eq_true rfl⟩ rfl rfl rfl (As := [.int v2]) (rest := []) rfl rfl (Nat.le_of_ble_eq_true rfl) dX11_readLine_35 ⟨Nat.zero_le _, Nat.zero_le _⟩ (fun H locs hW => ?_)
        show W p l e (rmq 38 980) s m args below meth c H locs 0 0 Q (F0 m 38 ls [.int x35.1])
        refine lv_if_eq (tgt := 45) hx hb dX11_readLine_38 (by decide) (fun c4 => ?_) (fun c4 => ?_)
        · have hf := (if_pos c4).symm.trans hf
          refine lv_iconst (v := 0) hx hb dX11_readLine_45 (by decide) ?_
          obtain rfl := Option.some.inj hf
          rw [hQ]
          exact r_zret C hr hk hW (Or.inl rfl) rfl rfl dX11_readLine_46
        · have hf := (if_neg c4).symm.trans hf
          refine lv_iconst (v := 1) hx hb dX11_readLine_41 (by decide) ?_
          refine lv_goto (tgt := 46) hx hb dX11_readLine_42 (by decide) ?_
          obtain rfl := Option.some.inj hf
          rw [hQ]
          exact r_zret C hr hk hW (Or.inr rfl) rfl rfl dX11_readLine_46
      · have hf := (if_neg c2).symm.trans hf
        refine lv_aload_n hx hb dX11_readLine_23 rfl (lv_at hl 0 rfl) ?_
        obtain ⟨x24, h24, hf⟩ := bd_of hf
        refine r_callV (k := ((0, 0) : Ky)) C hW hl lk_X11_305 (c_X11_readVillageLine h24) ⟨rfl, rfl⟩ ⟨Nat.le_of_ble_eq_true rfl, Nat.le_of_ble_eq_true rfl⟩ rfl rfl rfl (As := []) (rest := []) rfl rfl (Nat.le_of_ble_eq_true rfl) dX11_readLine_24 ⟨Nat.zero_le _, Nat.zero_le _⟩ (fun H locs hW => ?_)
        show W p l e (rmq 38 980) s m args below meth c H locs 0 0 Q (F0 m 27 ls [.int x24.1])
        refine lv_if_eq (tgt := 45) hx hb dX11_readLine_27 (by decide) (fun c6 => ?_) (fun c6 => ?_)
        · have hf := (if_pos c6).symm.trans hf
          refine lv_iconst (v := 0) hx hb dX11_readLine_45 (by decide) ?_
          obtain rfl := Option.some.inj hf
          rw [hQ]
          exact r_zret C hr hk hW (Or.inl rfl) rfl rfl dX11_readLine_46
        · have hf := (if_neg c6).symm.trans hf
          refine lv_goto (tgt := 41) hx hb dX11_readLine_30 (by decide) ?_
          refine lv_iconst (v := 1) hx hb dX11_readLine_41 (by decide) ?_
          refine lv_goto (tgt := 46) hx hb dX11_readLine_42 (by decide) ?_
          obtain rfl := Option.some.inj hf
          rw [hQ]
          exact r_zret C hr hk hW (Or.inr rfl) rfl rfl dX11_readLine_46
  refine lv_aload_n hx hb dX11_readLine_0 rfl (lv_at hl 0 rfl) ?_
  obtain ⟨x1, h1, hf⟩ := bd_of hf
  refine r_callV (k := ((0, 0) : Ky)) C hW hl lk_X11_183 (c_X11_letters h1) ⟨rfl, rfl⟩ ⟨Nat.le_of_ble_eq_true rfl, Nat.le_of_ble_eq_true rfl⟩ rfl rfl rfl (As := []) (rest := []) rfl rfl (Nat.le_of_ble_eq_true rfl) dX11_readLine_1 ⟨Nat.zero_le _, Nat.zero_le _⟩ (fun H locs hW => ?_)
  show W p l e (rmq 38 980) s m args below meth c H locs 0 0 Q (F0 m 4 ls [])
  refine lv_iload_n hx hb dX11_readLine_4 rfl (lv_at hl 2 rfl) ?_
  refine lv_iload_n hx hb dX11_readLine_5 rfl (lv_at hl 1 rfl) ?_
  refine lv_if_eq (tgt := 14) hx hb dX11_readLine_6 (by decide) (fun c8 => ?_) (fun c8 => ?_)
  · have hf := (if_pos c8).symm.trans hf
    refine lv_bipush (v := 12) hx hb dX11_readLine_14 (by decide) ?_
    exact J16 x1 (12 : Int32) v2 _ _ _ hf hW (lv_sub hl [0, 1, 2] rfl)
  · have hf := (if_neg c8).symm.trans hf
    refine lv_bipush (v := 14) hx hb dX11_readLine_9 (by decide) ?_
    refine lv_goto (tgt := 16) hx hb dX11_readLine_11 (by decide) ?_
    exact J16 x1 (14 : Int32) v2 _ _ _ hf hW (lv_sub hl [0, 1, 2] rfl)
set_option maxHeartbeats 4000000 in
set_option maxRecDepth 100000 in
theorem c_X11_readAll {l : Launch} {D : va_G} {tc : Nat → ClassId} {ro : Ro} {ad : Nat → Nat} {μ : Mm} {v1 : Int32} {res : Int32 × Mm} (hf : f_X11_readAll μ v1 = some res) : Ct l D tc ro (faM ad) (feM tc ad) yX11_readAll cX11_readAll 3 (some .int) (rmq 39 1002) [.ref (ad 0), .int v1] μ (some (.int res.1)) res.2 := by
  refine Ct.of (by decide) (Nat.le_of_ble_eq_true rfl) (fun p e s m args below meth c A C hr hk hW ls hl => ?_)
  have hx := C.1.1
  have hb := C.1.2.1
  obtain ⟨Q, hQ⟩ : ∃ Q, Q = MQ below (Ctq D (faM ad) (feM tc ad) (some (.int res.1)) res.2 A) args s 0 0 A := ⟨_, rfl⟩
  rw [← hQ]
  have hl : lv_has ls 3 [(0, .ref (ad 0)), (1, .int v1)] := hl
  unfold f_X11_readAll at hf
  refine lv_aload_n hx hb dX11_readAll_0 rfl (lv_at hl 0 rfl) ?_
  obtain ⟨x1, h1, hf⟩ := bd_of hf
  refine r_callV (k := ((0, 0) : Ky)) C hW hl lk_X11_311 (c_X11_uses h1) ⟨rfl, rfl⟩ ⟨Nat.le_of_ble_eq_true rfl, Nat.le_of_ble_eq_true rfl⟩ rfl rfl rfl (As := []) (rest := []) rfl rfl (Nat.le_of_ble_eq_true rfl) dX11_readAll_1 ⟨Nat.zero_le _, Nat.zero_le _⟩ (fun H locs hW => ?_)
  show W p l e (rmq 39 1002) s m args below meth c H locs 0 0 Q (F0 m 4 ls [])
  refine lv_aload_n hx hb dX11_readAll_4 rfl (lv_at hl 0 rfl) ?_
  refine lv_iconst (v := 0) hx hb dX11_readAll_5 (by decide) ?_
  refine pf_X11_253 C hW dX11_readAll_6 (fun H locs hW => ?_)
  refine lv_aload_n hx hb dX11_readAll_9 rfl (lv_at hl 0 rfl) ?_
  obtain ⟨x10, h10, hf⟩ := bd_of hf
  refine r_callV (k := ((0, 0) : Ky)) C hW hl lk_X11_171 (c_X11_blanks h10) ⟨rfl, rfl⟩ ⟨Nat.le_of_ble_eq_true rfl, Nat.le_of_ble_eq_true rfl⟩ rfl rfl rfl (As := []) (rest := []) rfl rfl (Nat.le_of_ble_eq_true rfl) dX11_readAll_10 ⟨Nat.zero_le _, Nat.zero_le _⟩ (fun H locs hW => ?_)
  show W p l e (rmq 39 1002) s m args below meth c H locs 0 0 Q (F0 m 13 ls [])
  refine lv_aload_n hx hb dX11_readAll_13 rfl (lv_at hl 0 rfl) ?_
  refine gf_X11_159 C hW dX11_readAll_14 ?_
  refine lv_aload_n hx hb dX11_readAll_17 rfl (lv_at hl 0 rfl) ?_
  refine gf_X11_162 C hW dX11_readAll_18 ?_
  refine lv_icmp_ne (tgt := 26) hx hb dX11_readAll_21 (by decide) (fun c3 => ?_) (fun c3 => ?_)
  · have hf := (if_neg c3).symm.trans hf
    refine lv_iconst (v := 0) hx hb dX11_readAll_26 (by decide) ?_
    refine lv_istore_n (lv' := [(2, .int (0 : Int32)), (0, .ref (ad 0)), (1, .int v1)]) hx hb dX11_readAll_27 rfl hl (by decide) rfl (fun ls hl => ?_)
    have L28 : ∀ (μ : Mm) (v2 : Int32) (H : Heap) (locs : List Loc) (ls : Array Slot), Wh (fun z : Mm × Int32 => f_X11_readAll_L28 v1 z.1 z.2) (μ, v2) = some res → Wd D (faM ad) (feM tc ad) A s.heap μ H locs → lv_has ls 3 [(0, .ref (ad 0)), (1, .int v1), (2, .int v2)] → W p l e (rmq 39 1002) s m args below meth c H locs 0 0 Q (F0 m 28 ls []) := by
      intro μ v2 H locs ls hf hW hl
      refine Wh_rule hf (fun z : Mm × Int32 => ∀ (H : Heap) (locs : List Loc) (ls : Array Slot), Wd D (faM ad) (feM tc ad) A s.heap z.1 H locs → lv_has ls 3 [(0, .ref (ad 0)), (1, .int v1), (2, .int z.2)] → W p l e (rmq 39 1002) s m args below meth c H locs 0 0 Q (F0 m 28 ls [])) (fun z o1 hf Kl1 Kr1 => ?_) _ _ _ hW hl
      obtain ⟨μ, v2⟩ := z
      intro H locs ls hW hl
      have hf : f_X11_readAll_L28 v1 μ v2 = some o1 := hf
      unfold f_X11_readAll_L28 at hf
      have hW : Wd D (faM ad) (feM tc ad) A s.heap μ H locs := hW
      have hl : lv_has ls 3 [(0, .ref (ad 0)), (1, .int v1), (2, .int v2)] := hl
      refine lv_aload_n hx hb dX11_readAll_28 rfl (lv_at hl 0 rfl) ?_
      refine lv_iload_n hx hb dX11_readAll_29 rfl (lv_at hl 1 rfl) ?_
      refine lv_iload_n hx hb dX11_readAll_30 rfl (lv_at hl 2 rfl) ?_
      obtain ⟨x31, h31, hf⟩ := bd_of hf
      refine r_callV (k := ((0, 0) : Ky)) C hW hl lk_X11_314 (c_X11_readLine h31) ⟨rfl, rfl⟩ ⟨Nat.le_of_ble_eq_true rfl, Nat.le_of_ble_eq_true rfl⟩ rfl rfl rfl (As := [.int v1, .int v2]) (rest := []) rfl rfl (Nat.le_of_ble_eq_true rfl) dX11_readAll_31 ⟨Nat.zero_le _, Nat.zero_le _⟩ (fun H locs hW => ?_)
      show W p l e (rmq 39 1002) s m args below meth c H locs 0 0 Q (F0 m 34 ls [.int x31.1])
      refine lv_if_ne (tgt := 39) hx hb dX11_readAll_34 (by decide) (fun c5 => ?_) (fun c5 => ?_)
      · have hf := (if_neg c5).symm.trans hf
        refine lv_aload_n hx hb dX11_readAll_39 rfl (lv_at hl 0 rfl) ?_
        obtain ⟨x40, h40, hf⟩ := bd_of hf
        refine r_callV (k := ((0, 0) : Ky)) C hW hl lk_X11_171 (c_X11_blanks h40) ⟨rfl, rfl⟩ ⟨Nat.le_of_ble_eq_true rfl, Nat.le_of_ble_eq_true rfl⟩ rfl rfl rfl (As := []) (rest := []) rfl rfl (Nat.le_of_ble_eq_true rfl) dX11_readAll_40 ⟨Nat.zero_le _, Nat.zero_le _⟩ (fun H locs hW => ?_)
        show W p l e (rmq 39 1002) s m args below meth c H locs 0 0 Q (F0 m 43 ls [])
        refine lv_aload_n hx hb dX11_readAll_43 rfl (lv_at hl 0 rfl) ?_
        refine gf_X11_159 C hW dX11_readAll_44 ?_
        refine lv_aload_n hx hb dX11_readAll_47 rfl (lv_at hl 0 rfl) ?_
        refine gf_X11_162 C hW dX11_readAll_48 ?_
        refine lv_icmp_ne (tgt := 58) hx hb dX11_readAll_51 (by decide) (fun c7 => ?_) (fun c7 => ?_)
        · have hf := (if_neg c7).symm.trans hf
          refine lv_aload_n hx hb dX11_readAll_58 rfl (lv_at hl 0 rfl) ?_
          refine lv_bipush (v := 59) hx hb dX11_readAll_59 (by decide) ?_
          refine lv_bipush (v := 59) hx hb dX11_readAll_61 (by decide) ?_
          obtain ⟨x63, h63, hf⟩ := bd_of hf
          refine r_callV (k := ((0, 0) : Ky)) C hW hl lk_X11_165 (c_X11_isAt h63) ⟨rfl, rfl⟩ ⟨Nat.le_of_ble_eq_true rfl, Nat.le_of_ble_eq_true rfl⟩ rfl rfl rfl (As := [.int (59 : Int32), .int (59 : Int32)]) (rest := []) rfl rfl (Nat.le_of_ble_eq_true rfl) dX11_readAll_63 ⟨Nat.zero_le _, Nat.zero_le _⟩ (fun H locs hW => ?_)
          show W p l e (rmq 39 1002) s m args below meth c H locs 0 0 Q (F0 m 66 ls [.int x63])
          refine lv_if_ne (tgt := 71) hx hb dX11_readAll_66 (by decide) (fun c9 => ?_) (fun c9 => ?_)
          · have hf := (if_neg c9).symm.trans hf
            refine lv_aload_n hx hb dX11_readAll_71 rfl (lv_at hl 0 rfl) ?_
            refine lv_dup hx hb dX11_readAll_72 rfl ?_
            refine gf_X11_159 C hW dX11_readAll_73 ?_
            refine lv_iconst (v := 1) hx hb dX11_readAll_76 (by decide) ?_
            refine lv_iadd hx hb dX11_readAll_77 ?_
            refine pf_X11_159 C hW dX11_readAll_78 (fun H locs hW => ?_)
            refine lv_iinc (v := (v2 + (1 : Int32))) (lv' := [(2, .int (v2 + (1 : Int32))), (0, .ref (ad 0)), (1, .int v1)]) hx hb dX11_readAll_81 hl (k := 2) rfl rfl (by decide) rfl (fun ls hl => ?_)
            refine lv_goto (tgt := 28) hx hb dX11_readAll_84 (by decide) ?_
            obtain rfl := Option.some.inj hf
            exact Kl1 _ rfl _ _ _ hW (lv_sub hl [1, 2, 0] rfl)
          · have hf := (if_pos c9).symm.trans hf
            obtain ⟨x9010, hf, hx9010⟩ := map_of hf
            have e9010 := (Kr1 _ hx9010.symm).symm
            subst e9010
            refine lv_iconst (v := -1) hx hb dX11_readAll_69 (by decide) ?_
            obtain rfl := Option.some.inj hf
            rw [hQ]
            exact r_iret C hr hk hW rfl rfl dX11_readAll_70
        · have hf := (if_pos c7).symm.trans hf
          obtain ⟨x9011, hf, hx9011⟩ := map_of hf
          have e9011 := (Kr1 _ hx9011.symm).symm
          subst e9011
          refine lv_iload_n hx hb dX11_readAll_54 rfl (lv_at hl 2 rfl) ?_
          refine lv_iconst (v := 1) hx hb dX11_readAll_55 (by decide) ?_
          refine lv_iadd hx hb dX11_readAll_56 ?_
          obtain rfl := Option.some.inj hf
          rw [hQ]
          exact r_iret C hr hk hW rfl rfl dX11_readAll_57
      · have hf := (if_pos c5).symm.trans hf
        obtain ⟨x9012, hf, hx9012⟩ := map_of hf
        have e9012 := (Kr1 _ hx9012.symm).symm
        subst e9012
        refine lv_iconst (v := -1) hx hb dX11_readAll_37 (by decide) ?_
        obtain rfl := Option.some.inj hf
        rw [hQ]
        exact r_iret C hr hk hW rfl rfl dX11_readAll_38
    exact L28 x10 (0 : Int32) _ _ _ hf hW (lv_sub hl [1, 2, 0] rfl)
  · have hf := (if_pos c3).symm.trans hf
    refine lv_iconst (v := 0) hx hb dX11_readAll_24 (by decide) ?_
    obtain rfl := Option.some.inj hf
    rw [hQ]
    exact r_iret C hr hk hW rfl rfl dX11_readAll_25
set_option maxHeartbeats 4000000 in
set_option maxRecDepth 100000 in
theorem c_X11_village {l : Launch} {D : va_G} {tc : Nat → ClassId} {ro : Ro} {ad : Nat → Nat} {μ : Mm} {res : Int32 × Mm} (hf : f_X11_village μ = some res) : Ct l D tc ro (faM ad) (feM tc ad) yX11_village cX11_village 3 (some .int) (rmq 40 1024) [.ref (ad 0)] μ (some (.int res.1)) res.2 := by
  refine Ct.of (by decide) (Nat.le_of_ble_eq_true rfl) (fun p e s m args below meth c A C hr hk hW ls hl => ?_)
  have hx := C.1.1
  have hb := C.1.2.1
  obtain ⟨Q, hQ⟩ : ∃ Q, Q = MQ below (Ctq D (faM ad) (feM tc ad) (some (.int res.1)) res.2 A) args s 0 0 A := ⟨_, rfl⟩
  rw [← hQ]
  have hl : lv_has ls 3 [(0, .ref (ad 0))] := hl
  unfold f_X11_village at hf
  have J90 : ∀ (μ : Mm) (H : Heap) (locs : List Loc) (ls : Array Slot), f_X11_village_J90 μ = some res → Wd D (faM ad) (feM tc ad) A s.heap μ H locs → lv_has ls 3 [(0, .ref (ad 0))] → W p l e (rmq 40 1024) s m args below meth c H locs 0 0 Q (F0 m 90 ls []) := by
    intro μ H locs ls hf hW hl
    unfold f_X11_village_J90 at hf
    refine lv_iconst (v := 0) hx hb dX11_village_90 (by decide) ?_
    refine lv_istore_n (lv' := [(2, .int (0 : Int32)), (0, .ref (ad 0))]) hx hb dX11_village_91 rfl hl (by decide) rfl (fun ls hl => ?_)
    have L92 : ∀ (μ : Mm) (v2 : Int32) (H : Heap) (locs : List Loc) (ls : Array Slot), Wh (fun z : Mm × Int32 => f_X11_village_L92 z.1 z.2) (μ, v2) = some res → Wd D (faM ad) (feM tc ad) A s.heap μ H locs → lv_has ls 3 [(0, .ref (ad 0)), (2, .int v2)] → W p l e (rmq 40 1024) s m args below meth c H locs 0 0 Q (F0 m 92 ls []) := by
      intro μ v2 H locs ls hf hW hl
      refine Wh_rule hf (fun z : Mm × Int32 => ∀ (H : Heap) (locs : List Loc) (ls : Array Slot), Wd D (faM ad) (feM tc ad) A s.heap z.1 H locs → lv_has ls 3 [(0, .ref (ad 0)), (2, .int z.2)] → W p l e (rmq 40 1024) s m args below meth c H locs 0 0 Q (F0 m 92 ls [])) (fun z o1 hf Kl1 Kr1 => ?_) _ _ _ hW hl
      obtain ⟨μ, v2⟩ := z
      intro H locs ls hW hl
      have hf : f_X11_village_L92 μ v2 = some o1 := hf
      unfold f_X11_village_L92 at hf
      have hW : Wd D (faM ad) (feM tc ad) A s.heap μ H locs := hW
      have hl : lv_has ls 3 [(0, .ref (ad 0)), (2, .int v2)] := hl
      refine lv_iload_n hx hb dX11_village_92 rfl (lv_at hl 1 rfl) ?_
      refine lv_sipush (v := 6277) hx hb dX11_village_93 (by decide) ?_
      refine lv_icmp_ge (tgt := 117) hx hb dX11_village_96 (by decide) (fun c1 => ?_) (fun c1 => ?_)
      · have hf := (if_pos c1).symm.trans hf
        obtain ⟨x9002, hf, hx9002⟩ := map_of hf
        have e9002 := (Kr1 _ hx9002.symm).symm
        subst e9002
        refine lv_iconst (v := 0) hx hb dX11_village_117 (by decide) ?_
        obtain rfl := Option.some.inj hf
        rw [hQ]
        exact r_iret C hr hk hW rfl rfl dX11_village_118
      · have hf := (if_neg c1).symm.trans hf
        refine lv_aload_n hx hb dX11_village_99 rfl (lv_at hl 0 rfl) ?_
        refine gf_X11_13 C hW dX11_village_100 ?_
        refine lv_iload_n hx hb dX11_village_103 rfl (lv_at hl 1 rfl) ?_
        refine lv_aload_n hx hb dX11_village_104 rfl (lv_at hl 0 rfl) ?_
        refine gf_X11_20 C hW dX11_village_105 ?_
        refine lv_iload_n hx hb dX11_village_108 rfl (lv_at hl 1 rfl) ?_
        obtain ⟨hi3, hf⟩ := ck_of hf
        refine r_iald (k := ((3, 0) : Ky)) (n := 6277) C hW rfl rfl hi3 dX11_village_109 ?_
        obtain ⟨hi4, hf⟩ := ck_of hf
        refine r_iast (k := ((1, 0) : Ky)) (n := 7114) C hW rfl (fun _ => rfl) hi4 dX11_village_110 (fun H locs hW => ?_)
        refine lv_iinc (v := (v2 + (1 : Int32))) (lv' := [(2, .int (v2 + (1 : Int32))), (0, .ref (ad 0))]) hx hb dX11_village_111 hl (k := 1) rfl rfl (by decide) rfl (fun ls hl => ?_)
        refine lv_goto (tgt := 92) hx hb dX11_village_114 (by decide) ?_
        obtain rfl := Option.some.inj hf
        exact Kl1 _ rfl _ _ _ hW (lv_sub hl [1, 0] rfl)
    exact L92 μ (0 : Int32) _ _ _ hf hW (lv_sub hl [1, 0] rfl)
  have J83 : ∀ (μ : Mm) (s0 : Int32) (H : Heap) (locs : List Loc) (ls : Array Slot), f_X11_village_J83 μ s0 = some res → Wd D (faM ad) (feM tc ad) A s.heap μ H locs → lv_has ls 3 [(0, .ref (ad 0))] → W p l e (rmq 40 1024) s m args below meth c H locs 0 0 Q (F0 m 83 ls [.int s0, .ref (ad 0)]) := by
    intro μ s0 H locs ls hf hW hl
    unfold f_X11_village_J83 at hf
    refine lv_iconst (v := 2) hx hb dX11_village_83 (by decide) ?_
    obtain ⟨x84, h84, hf⟩ := bd_of hf
    refine r_callV (k := ((0, 0) : Ky)) C hW hl lk_X11_322 (c_X11_throwsIf h84) ⟨rfl, rfl⟩ ⟨Nat.le_of_ble_eq_true rfl, Nat.le_of_ble_eq_true rfl⟩ rfl rfl rfl (As := [.int s0, .int (2 : Int32)]) (rest := []) rfl rfl (Nat.le_of_ble_eq_true rfl) dX11_village_84 ⟨Nat.zero_le _, Nat.zero_le _⟩ (fun H locs hW => ?_)
    show W p l e (rmq 40 1024) s m args below meth c H locs 0 0 Q (F0 m 87 ls [.int x84.1])
    refine lv_if_eq (tgt := 119) hx hb dX11_village_87 (by decide) (fun c6 => ?_) (fun c6 => ?_)
    · have hf := (if_pos c6).symm.trans hf
      refine lv_aload_n hx hb dX11_village_119 rfl (lv_at hl 0 rfl) ?_
      refine gf_X11_13 C hW dX11_village_120 ?_
      refine lv_iconst (v := 2) hx hb dX11_village_123 (by decide) ?_
      refine lv_dup2_11 hx hb dX11_village_124 rfl rfl ?_
      obtain ⟨hi7, hf⟩ := ck_of hf
      refine r_iald (k := ((1, 0) : Ky)) (n := 7114) C hW rfl rfl hi7 dX11_village_125 ?_
      refine lv_iconst (v := 1) hx hb dX11_village_126 (by decide) ?_
      refine lv_iadd hx hb dX11_village_127 ?_
      obtain ⟨hi8, hf⟩ := ck_of hf
      refine r_iast (k := ((1, 0) : Ky)) (n := 7114) C hW rfl (fun _ => rfl) hi8 dX11_village_128 (fun H locs hW => ?_)
      refine lv_aload_n hx hb dX11_village_129 rfl (lv_at hl 0 rfl) ?_
      refine lv_iconst (v := 0) hx hb dX11_village_130 (by decide) ?_
      refine pf_X11_99 C hW dX11_village_131 (fun H locs hW => ?_)
      refine lv_aload_n hx hb dX11_village_134 rfl (lv_at hl 0 rfl) ?_
      refine gf_X11_13 C hW dX11_village_135 ?_
      refine lv_iconst (v := 2) hx hb dX11_village_138 (by decide) ?_
      obtain ⟨hi9, hf⟩ := ck_of hf
      refine r_iald (k := ((1, 0) : Ky)) (n := 7114) C hW rfl rfl hi9 dX11_village_139 ?_
      obtain rfl := Option.some.inj hf
      rw [hQ]
      exact r_iret C hr hk hW rfl rfl dX11_village_140
    · have hf := (if_neg c6).symm.trans hf
      exact J90 x84.2 _ _ _ hf hW (lv_sub hl [0] rfl)
  have J59 : ∀ (μ : Mm) (s0 : Int32) (H : Heap) (locs : List Loc) (ls : Array Slot), f_X11_village_J59 μ s0 = some res → Wd D (faM ad) (feM tc ad) A s.heap μ H locs → lv_has ls 3 [(0, .ref (ad 0))] → W p l e (rmq 40 1024) s m args below meth c H locs 0 0 Q (F0 m 59 ls [.int s0, .ref (ad 0)]) := by
    intro μ s0 H locs ls hf hW hl
    unfold f_X11_village_J59 at hf
    refine lv_iconst (v := 1) hx hb dX11_village_59 (by decide) ?_
    obtain ⟨x60, h60, hf⟩ := bd_of hf
    refine r_callV (k := ((0, 0) : Ky)) C hW hl lk_X11_322 (c_X11_throwsIf h60) ⟨rfl, rfl⟩ ⟨Nat.le_of_ble_eq_true rfl, Nat.le_of_ble_eq_true rfl⟩ rfl rfl rfl (As := [.int s0, .int (1 : Int32)]) (rest := []) rfl rfl (Nat.le_of_ble_eq_true rfl) dX11_village_60 ⟨Nat.zero_le _, Nat.zero_le _⟩ (fun H locs hW => ?_)
    show W p l e (rmq 40 1024) s m args below meth c H locs 0 0 Q (F0 m 63 ls [.int x60.1])
    refine lv_if_ne (tgt := 90) hx hb dX11_village_63 (by decide) (fun c11 => ?_) (fun c11 => ?_)
    · have hf := (if_neg c11).symm.trans hf
      exact J90 x60.2 _ _ _ hf hW (lv_sub hl [0] rfl)
    · have hf := (if_pos c11).symm.trans hf
      refine lv_aload_n hx hb dX11_village_66 rfl (lv_at hl 0 rfl) ?_
      refine lv_aload_n hx hb dX11_village_67 rfl (lv_at hl 0 rfl) ?_
      refine gf_X11_13 C hW dX11_village_68 ?_
      refine lv_iconst (v := 2) hx hb dX11_village_71 (by decide) ?_
      obtain ⟨hi12, hf⟩ := ck_of hf
      refine r_iald (k := ((1, 0) : Ky)) (n := 7114) C hW rfl rfl hi12 dX11_village_72 ?_
      refine lv_bipush (v := 12) hx hb dX11_village_73 (by decide) ?_
      refine lv_icmp_ne (tgt := 82) hx hb dX11_village_75 (by decide) (fun c13 => ?_) (fun c13 => ?_)
      · have hf := (if_neg c13).symm.trans hf
        refine lv_iconst (v := 0) hx hb dX11_village_82 (by decide) ?_
        exact J83 x60.2 (0 : Int32) _ _ _ hf hW (lv_sub hl [0] rfl)
      · have hf := (if_pos c13).symm.trans hf
        refine lv_iconst (v := 1) hx hb dX11_village_78 (by decide) ?_
        refine lv_goto (tgt := 83) hx hb dX11_village_79 (by decide) ?_
        exact J83 x60.2 (1 : Int32) _ _ _ hf hW (lv_sub hl [0] rfl)
  refine lv_iconst (v := 0) hx hb dX11_village_0 (by decide) ?_
  refine lv_istore_n (lv' := [(1, .int (0 : Int32)), (0, .ref (ad 0))]) hx hb dX11_village_1 rfl hl (by decide) rfl (fun ls hl => ?_)
  have L2 : ∀ (μ : Mm) (v1 : Int32) (H : Heap) (locs : List Loc) (ls : Array Slot), Wh (fun z : Mm × Int32 => f_X11_village_L2 z.1 z.2) (μ, v1) = some res → Wd D (faM ad) (feM tc ad) A s.heap μ H locs → lv_has ls 3 [(0, .ref (ad 0)), (1, .int v1)] → W p l e (rmq 40 1024) s m args below meth c H locs 0 0 Q (F0 m 2 ls []) := by
    intro μ v1 H locs ls hf hW hl
    refine Wh_rule hf (fun z : Mm × Int32 => ∀ (H : Heap) (locs : List Loc) (ls : Array Slot), Wd D (faM ad) (feM tc ad) A s.heap z.1 H locs → lv_has ls 3 [(0, .ref (ad 0)), (1, .int z.2)] → W p l e (rmq 40 1024) s m args below meth c H locs 0 0 Q (F0 m 2 ls [])) (fun z o1 hf Kl1 Kr1 => ?_) _ _ _ hW hl
    obtain ⟨μ, v1⟩ := z
    intro H locs ls hW hl
    have hf : f_X11_village_L2 μ v1 = some o1 := hf
    unfold f_X11_village_L2 at hf
    have hW : Wd D (faM ad) (feM tc ad) A s.heap μ H locs := hW
    have hl : lv_has ls 3 [(0, .ref (ad 0)), (1, .int v1)] := hl
    refine lv_iload_n hx hb dX11_village_2 rfl (lv_at hl 1 rfl) ?_
    refine lv_sipush (v := 6277) hx hb dX11_village_3 (by decide) ?_
    refine lv_icmp_ge (tgt := 27) hx hb dX11_village_6 (by decide) (fun c14 => ?_) (fun c14 => ?_)
    · have hf := (if_pos c14).symm.trans hf
      obtain ⟨x9019, hf, hx9019⟩ := map_of hf
      have e9019 := (Kr1 _ hx9019.symm).symm
      subst e9019
      refine lv_aload_n hx hb dX11_village_27 rfl (lv_at hl 0 rfl) ?_
      refine lv_iconst (v := 1) hx hb dX11_village_28 (by decide) ?_
      obtain ⟨x29, h29, hf⟩ := bd_of hf
      refine r_callV (k := ((0, 0) : Ky)) C hW hl lk_X11_318 (c_X11_readAll h29) ⟨rfl, rfl⟩ ⟨Nat.le_of_ble_eq_true rfl, Nat.le_of_ble_eq_true rfl⟩ rfl rfl rfl (As := [.int (1 : Int32)]) (rest := []) rfl rfl (Nat.le_of_ble_eq_true rfl) dX11_village_29 ⟨Nat.zero_le _, Nat.zero_le _⟩ (fun H locs hW => ?_)
      show W p l e (rmq 40 1024) s m args below meth c H locs 0 0 Q (F0 m 32 ls [.int x29.1])
      refine lv_istore_n (lv' := [(1, .int x29.1), (0, .ref (ad 0))]) hx hb dX11_village_32 rfl hl (by decide) rfl (fun ls hl => ?_)
      refine lv_aload_n hx hb dX11_village_33 rfl (lv_at hl 1 rfl) ?_
      refine lv_iload_n hx hb dX11_village_34 rfl (lv_at hl 0 rfl) ?_
      refine lv_if_ge (tgt := 45) hx hb dX11_village_35 (by decide) (fun c16 => ?_) (fun c16 => ?_)
      · have hf := (if_pos c16).symm.trans hf
        refine lv_iconst (v := -1) hx hb dX11_village_45 (by decide) ?_
        refine pf_X11_43 C hW dX11_village_46 (fun H locs hW => ?_)
        refine lv_aload_n hx hb dX11_village_49 rfl (lv_at hl 1 rfl) ?_
        refine lv_iload_n hx hb dX11_village_50 rfl (lv_at hl 0 rfl) ?_
        refine lv_if_ge (tgt := 58) hx hb dX11_village_51 (by decide) (fun c17 => ?_) (fun c17 => ?_)
        · have hf := (if_pos c17).symm.trans hf
          refine lv_iconst (v := 0) hx hb dX11_village_58 (by decide) ?_
          exact J59 (mst x29.2 (0, 0) 17 (-1 : Int32)) (0 : Int32) _ _ _ hf hW (lv_sub hl [1] rfl)
        · have hf := (if_neg c17).symm.trans hf
          refine lv_iconst (v := 1) hx hb dX11_village_54 (by decide) ?_
          refine lv_goto (tgt := 59) hx hb dX11_village_55 (by decide) ?_
          exact J59 (mst x29.2 (0, 0) 17 (-1 : Int32)) (1 : Int32) _ _ _ hf hW (lv_sub hl [1] rfl)
      · have hf := (if_neg c16).symm.trans hf
        refine lv_aload_n hx hb dX11_village_38 rfl (lv_at hl 1 rfl) ?_
        refine gf_X11_168 C hW dX11_village_39 ?_
        refine lv_goto (tgt := 46) hx hb dX11_village_42 (by decide) ?_
        refine pf_X11_43 C hW dX11_village_46 (fun H locs hW => ?_)
        refine lv_aload_n hx hb dX11_village_49 rfl (lv_at hl 1 rfl) ?_
        refine lv_iload_n hx hb dX11_village_50 rfl (lv_at hl 0 rfl) ?_
        refine lv_if_ge (tgt := 58) hx hb dX11_village_51 (by decide) (fun c18 => ?_) (fun c18 => ?_)
        · have hf := (if_pos c18).symm.trans hf
          refine lv_iconst (v := 0) hx hb dX11_village_58 (by decide) ?_
          exact J59 (mst x29.2 (0, 0) 17 (x29.2 (0, 0) 15)) (0 : Int32) _ _ _ hf hW (lv_sub hl [1] rfl)
        · have hf := (if_neg c18).symm.trans hf
          refine lv_iconst (v := 1) hx hb dX11_village_54 (by decide) ?_
          refine lv_goto (tgt := 59) hx hb dX11_village_55 (by decide) ?_
          exact J59 (mst x29.2 (0, 0) 17 (x29.2 (0, 0) 15)) (1 : Int32) _ _ _ hf hW (lv_sub hl [1] rfl)
    · have hf := (if_neg c14).symm.trans hf
      refine lv_aload_n hx hb dX11_village_9 rfl (lv_at hl 0 rfl) ?_
      refine gf_X11_20 C hW dX11_village_10 ?_
      refine lv_iload_n hx hb dX11_village_13 rfl (lv_at hl 1 rfl) ?_
      refine lv_aload_n hx hb dX11_village_14 rfl (lv_at hl 0 rfl) ?_
      refine gf_X11_13 C hW dX11_village_15 ?_
      refine lv_iload_n hx hb dX11_village_18 rfl (lv_at hl 1 rfl) ?_
      obtain ⟨hi20, hf⟩ := ck_of hf
      refine r_iald (k := ((1, 0) : Ky)) (n := 7114) C hW rfl rfl hi20 dX11_village_19 ?_
      obtain ⟨hi21, hf⟩ := ck_of hf
      refine r_iast (k := ((3, 0) : Ky)) (n := 6277) C hW rfl (fun _ => rfl) hi21 dX11_village_20 (fun H locs hW => ?_)
      refine lv_iinc (v := (v1 + (1 : Int32))) (lv' := [(1, .int (v1 + (1 : Int32))), (0, .ref (ad 0))]) hx hb dX11_village_21 hl (k := 1) rfl rfl (by decide) rfl (fun ls hl => ?_)
      refine lv_goto (tgt := 2) hx hb dX11_village_24 (by decide) ?_
      obtain rfl := Option.some.inj hf
      exact Kl1 _ rfl _ _ _ hW (lv_sub hl [1, 0] rfl)
  exact L2 μ (0 : Int32) _ _ _ hf hW (lv_sub hl [1, 0] rfl)
set_option maxHeartbeats 4000000 in
set_option maxRecDepth 100000 in
theorem c_X11_law {l : Launch} {D : va_G} {tc : Nat → ClassId} {ro : Ro} {ad : Nat → Nat} {μ : Mm} {res : Int32 × Mm} (hf : f_X11_law μ = some res) : Ct l D tc ro (faM ad) (feM tc ad) yX11_law cX11_law 3 (some .int) (rmq 40 1024) [.ref (ad 0)] μ (some (.int res.1)) res.2 := by
  refine Ct.of (by decide) (Nat.le_of_ble_eq_true rfl) (fun p e s m args below meth c A C hr hk hW ls hl => ?_)
  have hx := C.1.1
  have hb := C.1.2.1
  obtain ⟨Q, hQ⟩ : ∃ Q, Q = MQ below (Ctq D (faM ad) (feM tc ad) (some (.int res.1)) res.2 A) args s 0 0 A := ⟨_, rfl⟩
  rw [← hQ]
  have hl : lv_has ls 3 [(0, .ref (ad 0))] := hl
  unfold f_X11_law at hf
  have J32 : ∀ (μ : Mm) (v1 s0 : Int32) (H : Heap) (locs : List Loc) (ls : Array Slot), f_X11_law_J32 μ v1 s0 = some res → Wd D (faM ad) (feM tc ad) A s.heap μ H locs → lv_has ls 3 [(0, .ref (ad 0)), (1, .int v1)] → W p l e (rmq 40 1024) s m args below meth c H locs 0 0 Q (F0 m 32 ls [.int s0, .ref (ad 0)]) := by
    intro μ v1 s0 H locs ls hf hW hl
    unfold f_X11_law_J32 at hf
    refine lv_iconst (v := 1) hx hb dX11_law_32 (by decide) ?_
    obtain ⟨x33, h33, hf⟩ := bd_of hf
    refine r_callV (k := ((0, 0) : Ky)) C hW hl lk_X11_322 (c_X11_throwsIf h33) ⟨rfl, rfl⟩ ⟨Nat.le_of_ble_eq_true rfl, Nat.le_of_ble_eq_true rfl⟩ rfl rfl rfl (As := [.int s0, .int (1 : Int32)]) (rest := []) rfl rfl (Nat.le_of_ble_eq_true rfl) dX11_law_33 ⟨Nat.zero_le _, Nat.zero_le _⟩ (fun H locs hW => ?_)
    show W p l e (rmq 40 1024) s m args below meth c H locs 0 0 Q (F0 m 36 ls [.int x33.1])
    refine lv_if_eq (tgt := 41) hx hb dX11_law_36 (by decide) (fun c2 => ?_) (fun c2 => ?_)
    · have hf := (if_pos c2).symm.trans hf
      refine lv_aload_n hx hb dX11_law_41 rfl (lv_at hl 0 rfl) ?_
      refine gf_X11_13 C hW dX11_law_42 ?_
      refine lv_sipush (v := 6277) hx hb dX11_law_45 (by decide) ?_
      refine lv_iload_n hx hb dX11_law_48 rfl (lv_at hl 1 rfl) ?_
      obtain ⟨hi3, hf⟩ := ck_of hf
      refine r_iast (k := ((1, 0) : Ky)) (n := 7114) C hW rfl (fun _ => rfl) hi3 dX11_law_49 (fun H locs hW => ?_)
      refine lv_iconst (v := 0) hx hb dX11_law_50 (by decide) ?_
      refine lv_istore_n (lv' := [(2, .int (0 : Int32)), (0, .ref (ad 0)), (1, .int v1)]) hx hb dX11_law_51 rfl hl (by decide) rfl (fun ls hl => ?_)
      have L52 : ∀ (μ : Mm) (v1 v2 : Int32) (H : Heap) (locs : List Loc) (ls : Array Slot), Wh (fun z : Mm × Int32 => f_X11_law_L52 v1 z.1 z.2) (μ, v2) = some res → Wd D (faM ad) (feM tc ad) A s.heap μ H locs → lv_has ls 3 [(0, .ref (ad 0)), (1, .int v1), (2, .int v2)] → W p l e (rmq 40 1024) s m args below meth c H locs 0 0 Q (F0 m 52 ls []) := by
        intro μ v1 v2 H locs ls hf hW hl
        refine Wh_rule hf (fun z : Mm × Int32 => ∀ (H : Heap) (locs : List Loc) (ls : Array Slot), Wd D (faM ad) (feM tc ad) A s.heap z.1 H locs → lv_has ls 3 [(0, .ref (ad 0)), (1, .int v1), (2, .int z.2)] → W p l e (rmq 40 1024) s m args below meth c H locs 0 0 Q (F0 m 52 ls [])) (fun z o1 hf Kl1 Kr1 => ?_) _ _ _ hW hl
        obtain ⟨μ, v2⟩ := z
        intro H locs ls hW hl
        have hf : f_X11_law_L52 v1 μ v2 = some o1 := hf
        unfold f_X11_law_L52 at hf
        have hW : Wd D (faM ad) (feM tc ad) A s.heap μ H locs := hW
        have hl : lv_has ls 3 [(0, .ref (ad 0)), (1, .int v1), (2, .int v2)] := hl
        refine lv_iload_n hx hb dX11_law_52 rfl (lv_at hl 2 rfl) ?_
        refine lv_sipush (v := 837) hx hb dX11_law_53 (by decide) ?_
        refine lv_icmp_ge (tgt := 85) hx hb dX11_law_56 (by decide) (fun c4 => ?_) (fun c4 => ?_)
        · have hf := (if_pos c4).symm.trans hf
          obtain ⟨x9006, hf, hx9006⟩ := map_of hf
          have e9006 := (Kr1 _ hx9006.symm).symm
          subst e9006
          refine lv_aload_n hx hb dX11_law_85 rfl (lv_at hl 0 rfl) ?_
          refine gf_X11_13 C hW dX11_law_86 ?_
          refine lv_iconst (v := 3) hx hb dX11_law_89 (by decide) ?_
          refine lv_iconst (v := 1) hx hb dX11_law_90 (by decide) ?_
          obtain ⟨hi5, hf⟩ := ck_of hf
          refine r_iast (k := ((1, 0) : Ky)) (n := 7114) C hW rfl (fun _ => rfl) hi5 dX11_law_91 (fun H locs hW => ?_)
          refine lv_aload_n hx hb dX11_law_92 rfl (lv_at hl 0 rfl) ?_
          refine lv_iconst (v := 0) hx hb dX11_law_93 (by decide) ?_
          refine pf_X11_99 C hW dX11_law_94 (fun H locs hW => ?_)
          refine lv_iload_n hx hb dX11_law_97 rfl (lv_at hl 1 rfl) ?_
          obtain rfl := Option.some.inj hf
          rw [hQ]
          exact r_iret C hr hk hW rfl rfl dX11_law_98
        · have hf := (if_neg c4).symm.trans hf
          refine lv_aload_n hx hb dX11_law_59 rfl (lv_at hl 0 rfl) ?_
          refine gf_X11_13 C hW dX11_law_60 ?_
          refine lv_sipush (v := 5440) hx hb dX11_law_63 (by decide) ?_
          refine lv_iload_n hx hb dX11_law_66 rfl (lv_at hl 2 rfl) ?_
          refine lv_iadd hx hb dX11_law_67 ?_
          refine lv_aload_n hx hb dX11_law_68 rfl (lv_at hl 0 rfl) ?_
          refine gf_X11_13 C hW dX11_law_69 ?_
          refine lv_sipush (v := 6277) hx hb dX11_law_72 (by decide) ?_
          refine lv_iload_n hx hb dX11_law_75 rfl (lv_at hl 2 rfl) ?_
          refine lv_iadd hx hb dX11_law_76 ?_
          obtain ⟨hi7, hf⟩ := ck_of hf
          refine r_iald (k := ((1, 0) : Ky)) (n := 7114) C hW rfl rfl hi7 dX11_law_77 ?_
          obtain ⟨hi8, hf⟩ := ck_of hf
          refine r_iast (k := ((1, 0) : Ky)) (n := 7114) C hW rfl (fun _ => rfl) hi8 dX11_law_78 (fun H locs hW => ?_)
          refine lv_iinc (v := (v2 + (1 : Int32))) (lv' := [(2, .int (v2 + (1 : Int32))), (0, .ref (ad 0)), (1, .int v1)]) hx hb dX11_law_79 hl (k := 2) rfl rfl (by decide) rfl (fun ls hl => ?_)
          refine lv_goto (tgt := 52) hx hb dX11_law_82 (by decide) ?_
          obtain rfl := Option.some.inj hf
          exact Kl1 _ rfl _ _ _ hW (lv_sub hl [1, 2, 0] rfl)
      exact L52 (mst x33.2 (1, 0) (6277 : Int32).toNatClampNeg v1) v1 (0 : Int32) _ _ _ hf hW (lv_sub hl [1, 2, 0] rfl)
    · have hf := (if_neg c2).symm.trans hf
      refine lv_iconst (v := 0) hx hb dX11_law_39 (by decide) ?_
      obtain rfl := Option.some.inj hf
      rw [hQ]
      exact r_iret C hr hk hW rfl rfl dX11_law_40
  refine lv_aload_n hx hb dX11_law_0 rfl (lv_at hl 0 rfl) ?_
  refine lv_iconst (v := 0) hx hb dX11_law_1 (by decide) ?_
  obtain ⟨x2, h2, hf⟩ := bd_of hf
  refine r_callV (k := ((0, 0) : Ky)) C hW hl lk_X11_318 (c_X11_readAll h2) ⟨rfl, rfl⟩ ⟨Nat.le_of_ble_eq_true rfl, Nat.le_of_ble_eq_true rfl⟩ rfl rfl rfl (As := [.int (0 : Int32)]) (rest := []) rfl rfl (Nat.le_of_ble_eq_true rfl) dX11_law_2 ⟨Nat.zero_le _, Nat.zero_le _⟩ (fun H locs hW => ?_)
  show W p l e (rmq 40 1024) s m args below meth c H locs 0 0 Q (F0 m 5 ls [.int x2.1])
  refine lv_istore_n (lv' := [(1, .int x2.1), (0, .ref (ad 0))]) hx hb dX11_law_5 rfl hl (by decide) rfl (fun ls hl => ?_)
  refine lv_aload_n hx hb dX11_law_6 rfl (lv_at hl 1 rfl) ?_
  refine lv_iload_n hx hb dX11_law_7 rfl (lv_at hl 0 rfl) ?_
  refine lv_if_ge (tgt := 18) hx hb dX11_law_8 (by decide) (fun c10 => ?_) (fun c10 => ?_)
  · have hf := (if_pos c10).symm.trans hf
    refine lv_iconst (v := -1) hx hb dX11_law_18 (by decide) ?_
    refine pf_X11_43 C hW dX11_law_19 (fun H locs hW => ?_)
    refine lv_aload_n hx hb dX11_law_22 rfl (lv_at hl 1 rfl) ?_
    refine lv_iload_n hx hb dX11_law_23 rfl (lv_at hl 0 rfl) ?_
    refine lv_if_ge (tgt := 31) hx hb dX11_law_24 (by decide) (fun c11 => ?_) (fun c11 => ?_)
    · have hf := (if_pos c11).symm.trans hf
      refine lv_iconst (v := 0) hx hb dX11_law_31 (by decide) ?_
      exact J32 (mst x2.2 (0, 0) 17 (-1 : Int32)) x2.1 (0 : Int32) _ _ _ hf hW (lv_sub hl [1, 0] rfl)
    · have hf := (if_neg c11).symm.trans hf
      refine lv_iconst (v := 1) hx hb dX11_law_27 (by decide) ?_
      refine lv_goto (tgt := 32) hx hb dX11_law_28 (by decide) ?_
      exact J32 (mst x2.2 (0, 0) 17 (-1 : Int32)) x2.1 (1 : Int32) _ _ _ hf hW (lv_sub hl [1, 0] rfl)
  · have hf := (if_neg c10).symm.trans hf
    refine lv_aload_n hx hb dX11_law_11 rfl (lv_at hl 1 rfl) ?_
    refine gf_X11_168 C hW dX11_law_12 ?_
    refine lv_goto (tgt := 19) hx hb dX11_law_15 (by decide) ?_
    refine pf_X11_43 C hW dX11_law_19 (fun H locs hW => ?_)
    refine lv_aload_n hx hb dX11_law_22 rfl (lv_at hl 1 rfl) ?_
    refine lv_iload_n hx hb dX11_law_23 rfl (lv_at hl 0 rfl) ?_
    refine lv_if_ge (tgt := 31) hx hb dX11_law_24 (by decide) (fun c12 => ?_) (fun c12 => ?_)
    · have hf := (if_pos c12).symm.trans hf
      refine lv_iconst (v := 0) hx hb dX11_law_31 (by decide) ?_
      exact J32 (mst x2.2 (0, 0) 17 (x2.2 (0, 0) 15)) x2.1 (0 : Int32) _ _ _ hf hW (lv_sub hl [1, 0] rfl)
    · have hf := (if_neg c12).symm.trans hf
      refine lv_iconst (v := 1) hx hb dX11_law_27 (by decide) ?_
      refine lv_goto (tgt := 32) hx hb dX11_law_28 (by decide) ?_
      exact J32 (mst x2.2 (0, 0) 17 (x2.2 (0, 0) 15)) x2.1 (1 : Int32) _ _ _ hf hW (lv_sub hl [1, 0] rfl)
set_option maxHeartbeats 4000000 in
set_option maxRecDepth 100000 in
theorem c_X11_factOf {l : Launch} {D : va_G} {tc : Nat → ClassId} {ro : Ro} {ad : Nat → Nat} {μ : Mm} {v1 v2 v3 v4 v5 v6 : Int32} {res : Int32} (hf : f_X11_factOf μ v1 v2 v3 v4 v5 v6 = some res) : Ct l D tc ro (faM ad) (feM tc ad) yX11_factOf cX11_factOf 7 (some .int) (rmq 2 43) [.ref (ad 0), .int v1, .int v2, .int v3, .int v4, .int v5, .int v6] μ (some (.int res)) μ := by
  refine Ct.of (by decide) (Nat.le_of_ble_eq_true rfl) (fun p e s m args below meth c A C hr hk hW ls hl => ?_)
  have hx := C.1.1
  have hb := C.1.2.1
  obtain ⟨Q, hQ⟩ : ∃ Q, Q = MQ below (Ctq D (faM ad) (feM tc ad) (some (.int res)) μ A) args s 0 0 A := ⟨_, rfl⟩
  rw [← hQ]
  have hl : lv_has ls 7 [(0, .ref (ad 0)), (1, .int v1), (2, .int v2), (3, .int v3), (4, .int v4), (5, .int v5), (6, .int v6)] := hl
  unfold f_X11_factOf at hf
  refine lv_iload_n hx hb dX11_factOf_0 rfl (lv_at hl 1 rfl) ?_
  by_cases c2 : v1 = (0 : Int32)
  · have hf := (if_pos c2).symm.trans hf
    refine lv_tableIn (off := 39) (tgt := 40) hx hb dX11_factOf_1 (by rw [c2]; decide) (by rw [c2]; decide) (by rw [c2]; rfl) (by decide) ?_
    refine lv_iload hx hb dX11_factOf_40 (lv_at hl 5 rfl) ?_
    obtain rfl := Option.some.inj hf
    rw [hQ]
    exact r_iret C hr hk hW rfl rfl dX11_factOf_42
  · have hf := (if_neg c2).symm.trans hf
    have n2 := lv_neT c2 (a := 0) (by decide)
    by_cases c3 : v1 = (1 : Int32)
    · have hf := (if_pos c3).symm.trans hf
      refine lv_tableIn (off := 42) (tgt := 43) hx hb dX11_factOf_1 (by rw [c3]; decide) (by rw [c3]; decide) (by rw [c3]; rfl) (by decide) ?_
      refine lv_iload_n hx hb dX11_factOf_43 rfl (lv_at hl 3 rfl) ?_
      obtain rfl := Option.some.inj hf
      rw [hQ]
      exact r_iret C hr hk hW rfl rfl dX11_factOf_44
    · have hf := (if_neg c3).symm.trans hf
      have n3 := lv_neT c3 (a := 1) (by decide)
      by_cases c4 : v1 = (2 : Int32)
      · have hf := (if_pos c4).symm.trans hf
        refine lv_tableIn (off := 44) (tgt := 45) hx hb dX11_factOf_1 (by rw [c4]; decide) (by rw [c4]; decide) (by rw [c4]; rfl) (by decide) ?_
        refine lv_iload hx hb dX11_factOf_45 (lv_at hl 4 rfl) ?_
        obtain rfl := Option.some.inj hf
        rw [hQ]
        exact r_iret C hr hk hW rfl rfl dX11_factOf_47
      · have hf := (if_neg c4).symm.trans hf
        have n4 := lv_neT c4 (a := 2) (by decide)
        by_cases c5 : v1 = (3 : Int32)
        · have hf := (if_pos c5).symm.trans hf
          refine lv_tableIn (off := 47) (tgt := 48) hx hb dX11_factOf_1 (by rw [c5]; decide) (by rw [c5]; decide) (by rw [c5]; rfl) (by decide) ?_
          refine lv_aload_n hx hb dX11_factOf_48 rfl (lv_at hl 0 rfl) ?_
          refine gf_X11_13 C hW dX11_factOf_49 ?_
          refine lv_iconst (v := 4) hx hb dX11_factOf_52 (by decide) ?_
          obtain ⟨hi6, hf⟩ := ck_of hf
          refine r_iald (k := ((1, 0) : Ky)) (n := 7114) C hW rfl rfl hi6 dX11_factOf_53 ?_
          obtain rfl := Option.some.inj hf
          rw [hQ]
          exact r_iret C hr hk hW rfl rfl dX11_factOf_54
        · have hf := (if_neg c5).symm.trans hf
          have n5 := lv_neT c5 (a := 3) (by decide)
          by_cases c7 : v1 = (4 : Int32)
          · have hf := (if_pos c7).symm.trans hf
            refine lv_tableIn (off := 54) (tgt := 55) hx hb dX11_factOf_1 (by rw [c7]; decide) (by rw [c7]; decide) (by rw [c7]; rfl) (by decide) ?_
            refine lv_iload hx hb dX11_factOf_55 (lv_at hl 6 rfl) ?_
            refine lv_if_eq (tgt := 64) hx hb dX11_factOf_57 (by decide) (fun c8 => ?_) (fun c8 => ?_)
            · have hf := (if_pos c8).symm.trans hf
              refine lv_iconst (v := 0) hx hb dX11_factOf_64 (by decide) ?_
              obtain rfl := Option.some.inj hf
              rw [hQ]
              exact r_iret C hr hk hW rfl rfl dX11_factOf_65
            · have hf := (if_neg c8).symm.trans hf
              refine lv_iconst (v := 1) hx hb dX11_factOf_60 (by decide) ?_
              refine lv_goto (tgt := 65) hx hb dX11_factOf_61 (by decide) ?_
              obtain rfl := Option.some.inj hf
              rw [hQ]
              exact r_iret C hr hk hW rfl rfl dX11_factOf_65
          · have hf := (if_neg c7).symm.trans hf
            have n7 := lv_neT c7 (a := 4) (by decide)
            by_cases c9 : v1 = (5 : Int32)
            · have hf := (if_pos c9).symm.trans hf
              refine lv_tableIn (off := 65) (tgt := 66) hx hb dX11_factOf_1 (by rw [c9]; decide) (by rw [c9]; decide) (by rw [c9]; rfl) (by decide) ?_
              refine lv_aload_n hx hb dX11_factOf_66 rfl (lv_at hl 0 rfl) ?_
              refine lv_iload hx hb dX11_factOf_67 (lv_at hl 4 rfl) ?_
              refine lv_iload_n hx hb dX11_factOf_69 rfl (lv_at hl 3 rfl) ?_
              obtain ⟨x70, h70, hf⟩ := bd_of hf
              refine r_callV (k := ((0, 0) : Ky)) C hW hl lk_X11_325 (c_X11_isSeeing h70) ⟨rfl, rfl⟩ ⟨Nat.le_of_ble_eq_true rfl, Nat.le_of_ble_eq_true rfl⟩ rfl rfl rfl (As := [.int v4, .int v3]) (rest := []) rfl rfl (Nat.le_of_ble_eq_true rfl) dX11_factOf_70 ⟨Nat.zero_le _, Nat.zero_le _⟩ (fun H locs hW => ?_)
              show W p l e (rmq 2 43) s m args below meth c H locs 0 0 Q (F0 m 73 ls [.int x70])
              refine lv_if_eq (tgt := 80) hx hb dX11_factOf_73 (by decide) (fun c11 => ?_) (fun c11 => ?_)
              · have hf := (if_pos c11).symm.trans hf
                refine lv_iconst (v := 0) hx hb dX11_factOf_80 (by decide) ?_
                obtain rfl := Option.some.inj hf
                rw [hQ]
                exact r_iret C hr hk hW rfl rfl dX11_factOf_81
              · have hf := (if_neg c11).symm.trans hf
                refine lv_iconst (v := 1) hx hb dX11_factOf_76 (by decide) ?_
                refine lv_goto (tgt := 81) hx hb dX11_factOf_77 (by decide) ?_
                obtain rfl := Option.some.inj hf
                rw [hQ]
                exact r_iret C hr hk hW rfl rfl dX11_factOf_81
            · have hf := (if_neg c9).symm.trans hf
              have n9 := lv_neT c9 (a := 5) (by decide)
              refine lv_tableOut (tgt := 82) hx hb dX11_factOf_1 (by omega) (by decide) ?_
              refine lv_iload_n hx hb dX11_factOf_82 rfl (lv_at hl 2 rfl) ?_
              obtain rfl := Option.some.inj hf
              rw [hQ]
              exact r_iret C hr hk hW rfl rfl dX11_factOf_83
set_option maxHeartbeats 4000000 in
set_option maxRecDepth 100000 in
theorem c_X11_holdsLine {l : Launch} {D : va_G} {tc : Nat → ClassId} {ro : Ro} {ad : Nat → Nat} {μ : Mm} {v1 v2 v3 v4 v5 : Int32} {res : Int32 × Mm} (hf : f_X11_holdsLine μ v1 v2 v3 v4 v5 = some res) : Ct l D tc ro (faM ad) (feM tc ad) yX11_holdsLine cX11_holdsLine 13 (some .boolean) (rmq 3 69) [.ref (ad 0), .int v1, .int v2, .int v3, .int v4, .int v5] μ (some (.int res.1)) res.2 := by
  refine Ct.of (by decide) (Nat.le_of_ble_eq_true rfl) (fun p e s m args below meth c A C hr hk hW ls hl => ?_)
  have hx := C.1.1
  have hb := C.1.2.1
  obtain ⟨Q, hQ⟩ : ∃ Q, Q = MQ below (Ctq D (faM ad) (feM tc ad) (some (.int res.1)) res.2 A) args s 0 0 A := ⟨_, rfl⟩
  rw [← hQ]
  have hl : lv_has ls 13 [(0, .ref (ad 0)), (1, .int v1), (2, .int v2), (3, .int v3), (4, .int v4), (5, .int v5)] := hl
  unfold f_X11_holdsLine at hf
  refine lv_iconst (v := 0) hx hb dX11_holdsLine_0 (by decide) ?_
  refine lv_istore (lv' := [(6, .int (0 : Int32)), (0, .ref (ad 0)), (1, .int v1), (2, .int v2), (3, .int v3), (4, .int v4), (5, .int v5)]) hx hb dX11_holdsLine_1 hl (by decide) rfl (fun ls hl => ?_)
  refine lv_sipush (v := 5441) hx hb dX11_holdsLine_3 (by decide) ?_
  refine lv_iconst (v := 3) hx hb dX11_holdsLine_6 (by decide) ?_
  refine lv_iload_n hx hb dX11_holdsLine_7 rfl (lv_at hl 2 rfl) ?_
  refine lv_imul hx hb dX11_holdsLine_8 ?_
  refine lv_iadd hx hb dX11_holdsLine_9 ?_
  refine lv_istore (lv' := [(7, .int ((5441 : Int32) + ((3 : Int32) * v1))), (6, .int (0 : Int32)), (0, .ref (ad 0)), (1, .int v1), (2, .int v2), (3, .int v3), (4, .int v4), (5, .int v5)]) hx hb dX11_holdsLine_10 hl (by decide) rfl (fun ls hl => ?_)
  refine lv_aload_n hx hb dX11_holdsLine_12 rfl (lv_at hl 2 rfl) ?_
  refine gf_X11_13 C hW dX11_holdsLine_13 ?_
  refine lv_iload hx hb dX11_holdsLine_16 (lv_at hl 0 rfl) ?_
  refine lv_iconst (v := 1) hx hb dX11_holdsLine_18 (by decide) ?_
  refine lv_iadd hx hb dX11_holdsLine_19 ?_
  obtain ⟨hi1, hf⟩ := ck_of hf
  refine r_iald (k := ((1, 0) : Ky)) (n := 7114) C hW rfl rfl hi1 dX11_holdsLine_20 ?_
  refine lv_istore (lv' := [(8, .int (μ (1, 0) (((5441 : Int32) + ((3 : Int32) * v1)) + (1 : Int32)).toNatClampNeg)), (7, .int ((5441 : Int32) + ((3 : Int32) * v1))), (6, .int (0 : Int32)), (0, .ref (ad 0)), (1, .int v1), (2, .int v2), (3, .int v3), (4, .int v4), (5, .int v5)]) hx hb dX11_holdsLine_21 hl (by decide) rfl (fun ls hl => ?_)
  have L23 : ∀ (μ : Mm) (v6 v7 v8 : Int32) (H : Heap) (locs : List Loc) (ls : Array Slot), Wh (fun z : Mm × Int32 × Int32 => f_X11_holdsLine_L23 v2 v3 v4 v5 v7 z.1 z.2.1 z.2.2) (μ, v6, v8) = some res → Wd D (faM ad) (feM tc ad) A s.heap μ H locs → lv_has ls 13 [(0, .ref (ad 0)), (2, .int v2), (3, .int v3), (4, .int v4), (5, .int v5), (6, .int v6), (7, .int v7), (8, .int v8)] → W p l e (rmq 3 69) s m args below meth c H locs 0 0 Q (F0 m 23 ls []) := by
    intro μ v6 v7 v8 H locs ls hf hW hl
    refine Wh_rule hf (fun z : Mm × Int32 × Int32 => ∀ (H : Heap) (locs : List Loc) (ls : Array Slot), Wd D (faM ad) (feM tc ad) A s.heap z.1 H locs → lv_has ls 13 [(0, .ref (ad 0)), (2, .int v2), (3, .int v3), (4, .int v4), (5, .int v5), (6, .int z.2.1), (7, .int v7), (8, .int z.2.2)] → W p l e (rmq 3 69) s m args below meth c H locs 0 0 Q (F0 m 23 ls [])) (fun z o1 hf Kl1 Kr1 => ?_) _ _ _ hW hl
    obtain ⟨μ, v6, v8⟩ := z
    intro H locs ls hW hl
    have hf : f_X11_holdsLine_L23 v2 v3 v4 v5 v7 μ v6 v8 = some o1 := hf
    unfold f_X11_holdsLine_L23 at hf
    have hW : Wd D (faM ad) (feM tc ad) A s.heap μ H locs := hW
    have hl : lv_has ls 13 [(0, .ref (ad 0)), (2, .int v2), (3, .int v3), (4, .int v4), (5, .int v5), (6, .int v6), (7, .int v7), (8, .int v8)] := hl
    have J233 : ∀ (μ : Mm) (v6 v8 v9 v10 v11 s0 : Int32) (H : Heap) (locs : List Loc) (ls : Array Slot), f_X11_holdsLine_J233 μ v2 v3 v4 v5 v6 v7 v8 v9 v10 v11 s0 = some o1 → Wd D (faM ad) (feM tc ad) A s.heap μ H locs → lv_has ls 13 [(0, .ref (ad 0)), (2, .int v2), (3, .int v3), (4, .int v4), (5, .int v5), (6, .int v6), (7, .int v7), (8, .int v8), (9, .int v9), (10, .int v10), (11, .int v11)] → W p l e (rmq 3 69) s m args below meth c H locs 0 0 Q (F0 m 233 ls [.int s0]) := by
      intro μ v6 v8 v9 v10 v11 s0 H locs ls hf hW hl
      unfold f_X11_holdsLine_J233 at hf
      refine lv_istore (lv' := [(12, .int s0), (0, .ref (ad 0)), (2, .int v2), (3, .int v3), (4, .int v4), (5, .int v5), (6, .int v6), (7, .int v7), (8, .int v8), (9, .int v9), (10, .int v10), (11, .int v11)]) hx hb dX11_holdsLine_233 hl (by decide) rfl (fun ls hl => ?_)
      refine lv_aload_n hx hb dX11_holdsLine_235 rfl (lv_at hl 1 rfl) ?_
      refine gf_X11_49 C hW dX11_holdsLine_236 ?_
      refine lv_iload hx hb dX11_holdsLine_239 (lv_at hl 6 rfl) ?_
      refine lv_iconst (v := 1) hx hb dX11_holdsLine_241 (by decide) ?_
      refine lv_isub hx hb dX11_holdsLine_242 ?_
      refine lv_iload hx hb dX11_holdsLine_243 (lv_at hl 9 rfl) ?_
      refine lv_bipush (v := 7) hx hb dX11_holdsLine_245 (by decide) ?_
      refine lv_icmp_ne (tgt := 258) hx hb dX11_holdsLine_247 (by decide) (fun c2 => ?_) (fun c2 => ?_)
      · have hf := (if_neg c2).symm.trans hf
        refine lv_iload hx hb dX11_holdsLine_258 (lv_at hl 0 rfl) ?_
        refine lv_if_eq (tgt := 267) hx hb dX11_holdsLine_260 (by decide) (fun c3 => ?_) (fun c3 => ?_)
        · have hf := (if_pos c3).symm.trans hf
          refine lv_iconst (v := 0) hx hb dX11_holdsLine_267 (by decide) ?_
          obtain ⟨hi4, hf⟩ := ck_of hf
          refine r_iast (k := ((22, 0) : Ky)) (n := 400) C hW rfl (fun _ => rfl) hi4 dX11_holdsLine_268 (fun H locs hW => ?_)
          refine lv_iinc (v := (v8 + (1 : Int32))) (lv' := [(8, .int (v8 + (1 : Int32))), (12, .int s0), (0, .ref (ad 0)), (2, .int v2), (3, .int v3), (4, .int v4), (5, .int v5), (6, .int v6), (7, .int v7), (9, .int v9), (10, .int v10), (11, .int v11)]) hx hb dX11_holdsLine_269 hl (k := 8) rfl rfl (by decide) rfl (fun ls hl => ?_)
          refine lv_goto (tgt := 23) hx hb dX11_holdsLine_272 (by decide) ?_
          obtain rfl := Option.some.inj hf
          exact Kl1 _ rfl _ _ _ hW (lv_sub hl [2, 3, 4, 5, 6, 7, 8, 0] rfl)
        · have hf := (if_neg c3).symm.trans hf
          refine lv_iconst (v := 1) hx hb dX11_holdsLine_263 (by decide) ?_
          refine lv_goto (tgt := 268) hx hb dX11_holdsLine_264 (by decide) ?_
          obtain ⟨hi5, hf⟩ := ck_of hf
          refine r_iast (k := ((22, 0) : Ky)) (n := 400) C hW rfl (fun _ => rfl) hi5 dX11_holdsLine_268 (fun H locs hW => ?_)
          refine lv_iinc (v := (v8 + (1 : Int32))) (lv' := [(8, .int (v8 + (1 : Int32))), (12, .int s0), (0, .ref (ad 0)), (2, .int v2), (3, .int v3), (4, .int v4), (5, .int v5), (6, .int v6), (7, .int v7), (9, .int v9), (10, .int v10), (11, .int v11)]) hx hb dX11_holdsLine_269 hl (k := 8) rfl rfl (by decide) rfl (fun ls hl => ?_)
          refine lv_goto (tgt := 23) hx hb dX11_holdsLine_272 (by decide) ?_
          obtain rfl := Option.some.inj hf
          exact Kl1 _ rfl _ _ _ hW (lv_sub hl [2, 3, 4, 5, 6, 7, 8, 0] rfl)
      · have hf := (if_pos c2).symm.trans hf
        refine lv_iload hx hb dX11_holdsLine_250 (lv_at hl 10 rfl) ?_
        refine lv_iload hx hb dX11_holdsLine_252 (lv_at hl 11 rfl) ?_
        refine lv_iadd hx hb dX11_holdsLine_254 ?_
        refine lv_goto (tgt := 268) hx hb dX11_holdsLine_255 (by decide) ?_
        obtain ⟨hi6, hf⟩ := ck_of hf
        refine r_iast (k := ((22, 0) : Ky)) (n := 400) C hW rfl (fun _ => rfl) hi6 dX11_holdsLine_268 (fun H locs hW => ?_)
        refine lv_iinc (v := (v8 + (1 : Int32))) (lv' := [(8, .int (v8 + (1 : Int32))), (12, .int s0), (0, .ref (ad 0)), (2, .int v2), (3, .int v3), (4, .int v4), (5, .int v5), (6, .int v6), (7, .int v7), (9, .int v9), (10, .int v10), (11, .int v11)]) hx hb dX11_holdsLine_269 hl (k := 8) rfl rfl (by decide) rfl (fun ls hl => ?_)
        refine lv_goto (tgt := 23) hx hb dX11_holdsLine_272 (by decide) ?_
        obtain rfl := Option.some.inj hf
        exact Kl1 _ rfl _ _ _ hW (lv_sub hl [2, 3, 4, 5, 6, 7, 8, 0] rfl)
    refine lv_iload hx hb dX11_holdsLine_23 (lv_at hl 7 rfl) ?_
    refine lv_aload_n hx hb dX11_holdsLine_25 rfl (lv_at hl 0 rfl) ?_
    refine gf_X11_13 C hW dX11_holdsLine_26 ?_
    refine lv_iload hx hb dX11_holdsLine_29 (lv_at hl 6 rfl) ?_
    refine lv_iconst (v := 2) hx hb dX11_holdsLine_31 (by decide) ?_
    refine lv_iadd hx hb dX11_holdsLine_32 ?_
    obtain ⟨hi7, hf⟩ := ck_of hf
    refine r_iald (k := ((1, 0) : Ky)) (n := 7114) C hW rfl rfl hi7 dX11_holdsLine_33 ?_
    refine lv_icmp_ge (tgt := 275) hx hb dX11_holdsLine_34 (by decide) (fun c8 => ?_) (fun c8 => ?_)
    · have hf := (if_pos c8).symm.trans hf
      obtain ⟨x9012, hf, hx9012⟩ := map_of hf
      have e9012 := (Kr1 _ hx9012.symm).symm
      subst e9012
      refine lv_iload hx hb dX11_holdsLine_275 (lv_at hl 5 rfl) ?_
      refine lv_if_eq (tgt := 290) hx hb dX11_holdsLine_277 (by decide) (fun c9 => ?_) (fun c9 => ?_)
      · have hf := (if_pos c9).symm.trans hf
        refine lv_iconst (v := 1) hx hb dX11_holdsLine_290 (by decide) ?_
        refine lv_goto (tgt := 295) hx hb dX11_holdsLine_291 (by decide) ?_
        obtain rfl := Option.some.inj hf
        rw [hQ]
        exact r_zret C hr hk hW (Or.inr rfl) rfl rfl dX11_holdsLine_295
      · have hf := (if_neg c9).symm.trans hf
        refine lv_aload_n hx hb dX11_holdsLine_280 rfl (lv_at hl 0 rfl) ?_
        refine gf_X11_49 C hW dX11_holdsLine_281 ?_
        refine lv_iconst (v := 0) hx hb dX11_holdsLine_284 (by decide) ?_
        obtain ⟨hi10, hf⟩ := ck_of hf
        refine r_iald (k := ((22, 0) : Ky)) (n := 400) C hW rfl rfl hi10 dX11_holdsLine_285 ?_
        refine lv_iconst (v := 1) hx hb dX11_holdsLine_286 (by decide) ?_
        refine lv_icmp_ne (tgt := 294) hx hb dX11_holdsLine_287 (by decide) (fun c11 => ?_) (fun c11 => ?_)
        · have hf := (if_neg c11).symm.trans hf
          refine lv_iconst (v := 0) hx hb dX11_holdsLine_294 (by decide) ?_
          obtain rfl := Option.some.inj hf
          rw [hQ]
          exact r_zret C hr hk hW (Or.inl rfl) rfl rfl dX11_holdsLine_295
        · have hf := (if_pos c11).symm.trans hf
          refine lv_iconst (v := 1) hx hb dX11_holdsLine_290 (by decide) ?_
          refine lv_goto (tgt := 295) hx hb dX11_holdsLine_291 (by decide) ?_
          obtain rfl := Option.some.inj hf
          rw [hQ]
          exact r_zret C hr hk hW (Or.inr rfl) rfl rfl dX11_holdsLine_295
    · have hf := (if_neg c8).symm.trans hf
      refine lv_aload_n hx hb dX11_holdsLine_37 rfl (lv_at hl 0 rfl) ?_
      refine gf_X11_13 C hW dX11_holdsLine_38 ?_
      refine lv_sipush (v := 5477) hx hb dX11_holdsLine_41 (by decide) ?_
      refine lv_iconst (v := 2) hx hb dX11_holdsLine_44 (by decide) ?_
      refine lv_iload hx hb dX11_holdsLine_45 (lv_at hl 7 rfl) ?_
      refine lv_imul hx hb dX11_holdsLine_47 ?_
      refine lv_iadd hx hb dX11_holdsLine_48 ?_
      obtain ⟨hi13, hf⟩ := ck_of hf
      refine r_iald (k := ((1, 0) : Ky)) (n := 7114) C hW rfl rfl hi13 dX11_holdsLine_49 ?_
      refine lv_istore (lv' := [(9, .int (μ (1, 0) ((5477 : Int32) + ((2 : Int32) * v8)).toNatClampNeg)), (0, .ref (ad 0)), (2, .int v2), (3, .int v3), (4, .int v4), (5, .int v5), (6, .int v6), (7, .int v7), (8, .int v8)]) hx hb dX11_holdsLine_50 hl (by decide) rfl (fun ls hl => ?_)
      refine lv_iload hx hb dX11_holdsLine_52 (lv_at hl 0 rfl) ?_
      refine lv_bipush (v := 6) hx hb dX11_holdsLine_54 (by decide) ?_
      refine lv_icmp_gt (tgt := 99) hx hb dX11_holdsLine_56 (by decide) (fun c14 => ?_) (fun c14 => ?_)
      · have hf := (if_pos c14).symm.trans hf
        refine lv_iload hx hb dX11_holdsLine_99 (lv_at hl 0 rfl) ?_
        refine lv_bipush (v := 10) hx hb dX11_holdsLine_101 (by decide) ?_
        refine lv_icmp_ne (tgt := 129) hx hb dX11_holdsLine_103 (by decide) (fun c15 => ?_) (fun c15 => ?_)
        · have hf := (if_neg c15).symm.trans hf
          refine lv_iinc (v := (v6 + (-1 : Int32))) (lv' := [(6, .int (v6 + (-1 : Int32))), (9, .int (μ (1, 0) ((5477 : Int32) + ((2 : Int32) * v8)).toNatClampNeg)), (0, .ref (ad 0)), (2, .int v2), (3, .int v3), (4, .int v4), (5, .int v5), (7, .int v7), (8, .int v8)]) hx hb dX11_holdsLine_129 hl (k := 6) rfl rfl (by decide) rfl (fun ls hl => ?_)
          refine lv_aload_n hx hb dX11_holdsLine_132 rfl (lv_at hl 2 rfl) ?_
          refine gf_X11_49 C hW dX11_holdsLine_133 ?_
          refine lv_iload hx hb dX11_holdsLine_136 (lv_at hl 0 rfl) ?_
          refine lv_iconst (v := 1) hx hb dX11_holdsLine_138 (by decide) ?_
          refine lv_isub hx hb dX11_holdsLine_139 ?_
          obtain ⟨hi16, hf⟩ := ck_of hf
          refine r_iald (k := ((22, 0) : Ky)) (n := 400) C hW rfl rfl hi16 dX11_holdsLine_140 ?_
          refine lv_istore (lv' := [(10, .int (μ (22, 0) ((v6 + (-1 : Int32)) - (1 : Int32)).toNatClampNeg)), (6, .int (v6 + (-1 : Int32))), (9, .int (μ (1, 0) ((5477 : Int32) + ((2 : Int32) * v8)).toNatClampNeg)), (0, .ref (ad 0)), (2, .int v2), (3, .int v3), (4, .int v4), (5, .int v5), (7, .int v7), (8, .int v8)]) hx hb dX11_holdsLine_141 hl (by decide) rfl (fun ls hl => ?_)
          refine lv_aload_n hx hb dX11_holdsLine_143 rfl (lv_at hl 3 rfl) ?_
          refine gf_X11_49 C hW dX11_holdsLine_144 ?_
          refine lv_iload hx hb dX11_holdsLine_147 (lv_at hl 1 rfl) ?_
          obtain ⟨hi17, hf⟩ := ck_of hf
          refine r_iald (k := ((22, 0) : Ky)) (n := 400) C hW rfl rfl hi17 dX11_holdsLine_149 ?_
          refine lv_istore (lv' := [(11, .int (μ (22, 0) (v6 + (-1 : Int32)).toNatClampNeg)), (10, .int (μ (22, 0) ((v6 + (-1 : Int32)) - (1 : Int32)).toNatClampNeg)), (6, .int (v6 + (-1 : Int32))), (9, .int (μ (1, 0) ((5477 : Int32) + ((2 : Int32) * v8)).toNatClampNeg)), (0, .ref (ad 0)), (2, .int v2), (3, .int v3), (4, .int v4), (5, .int v5), (7, .int v7), (8, .int v8)]) hx hb dX11_holdsLine_150 hl (by decide) rfl (fun ls hl => ?_)
          refine lv_iload hx hb dX11_holdsLine_152 (lv_at hl 3 rfl) ?_
          refine lv_bipush (v := 8) hx hb dX11_holdsLine_154 (by decide) ?_
          refine lv_icmp_ne (tgt := 174) hx hb dX11_holdsLine_156 (by decide) (fun c18 => ?_) (fun c18 => ?_)
          · have hf := (if_neg c18).symm.trans hf
            refine lv_iload hx hb dX11_holdsLine_174 (lv_at hl 3 rfl) ?_
            refine lv_bipush (v := 9) hx hb dX11_holdsLine_176 (by decide) ?_
            refine lv_icmp_ne (tgt := 196) hx hb dX11_holdsLine_178 (by decide) (fun c19 => ?_) (fun c19 => ?_)
            · have hf := (if_neg c19).symm.trans hf
              refine lv_iload hx hb dX11_holdsLine_196 (lv_at hl 3 rfl) ?_
              refine lv_bipush (v := 11) hx hb dX11_holdsLine_198 (by decide) ?_
              refine lv_icmp_ne (tgt := 220) hx hb dX11_holdsLine_200 (by decide) (fun c20 => ?_) (fun c20 => ?_)
              · have hf := (if_neg c20).symm.trans hf
                refine lv_iload hx hb dX11_holdsLine_220 (lv_at hl 1 rfl) ?_
                refine lv_iload hx hb dX11_holdsLine_222 (lv_at hl 0 rfl) ?_
                refine lv_iadd hx hb dX11_holdsLine_224 ?_
                refine lv_if_le (tgt := 232) hx hb dX11_holdsLine_225 (by decide) (fun c21 => ?_) (fun c21 => ?_)
                · have hf := (if_pos c21).symm.trans hf
                  refine lv_iconst (v := 0) hx hb dX11_holdsLine_232 (by decide) ?_
                  exact J233 μ (v6 + (-1 : Int32)) v8 (μ (1, 0) ((5477 : Int32) + ((2 : Int32) * v8)).toNatClampNeg) (μ (22, 0) ((v6 + (-1 : Int32)) - (1 : Int32)).toNatClampNeg) (μ (22, 0) (v6 + (-1 : Int32)).toNatClampNeg) (0 : Int32) _ _ _ hf hW (lv_sub hl [4, 5, 6, 7, 8, 2, 9, 10, 3, 1, 0] rfl)
                · have hf := (if_neg c21).symm.trans hf
                  refine lv_iconst (v := 1) hx hb dX11_holdsLine_228 (by decide) ?_
                  refine lv_goto (tgt := 233) hx hb dX11_holdsLine_229 (by decide) ?_
                  exact J233 μ (v6 + (-1 : Int32)) v8 (μ (1, 0) ((5477 : Int32) + ((2 : Int32) * v8)).toNatClampNeg) (μ (22, 0) ((v6 + (-1 : Int32)) - (1 : Int32)).toNatClampNeg) (μ (22, 0) (v6 + (-1 : Int32)).toNatClampNeg) (1 : Int32) _ _ _ hf hW (lv_sub hl [4, 5, 6, 7, 8, 2, 9, 10, 3, 1, 0] rfl)
              · have hf := (if_pos c20).symm.trans hf
                refine lv_iload hx hb dX11_holdsLine_203 (lv_at hl 1 rfl) ?_
                refine lv_iload hx hb dX11_holdsLine_205 (lv_at hl 0 rfl) ?_
                refine lv_iadd hx hb dX11_holdsLine_207 ?_
                refine lv_iconst (v := 2) hx hb dX11_holdsLine_208 (by decide) ?_
                refine lv_icmp_ne (tgt := 216) hx hb dX11_holdsLine_209 (by decide) (fun c22 => ?_) (fun c22 => ?_)
                · have hf := (if_neg c22).symm.trans hf
                  refine lv_iconst (v := 0) hx hb dX11_holdsLine_216 (by decide) ?_
                  refine lv_goto (tgt := 233) hx hb dX11_holdsLine_217 (by decide) ?_
                  exact J233 μ (v6 + (-1 : Int32)) v8 (μ (1, 0) ((5477 : Int32) + ((2 : Int32) * v8)).toNatClampNeg) (μ (22, 0) ((v6 + (-1 : Int32)) - (1 : Int32)).toNatClampNeg) (μ (22, 0) (v6 + (-1 : Int32)).toNatClampNeg) (0 : Int32) _ _ _ hf hW (lv_sub hl [4, 5, 6, 7, 8, 2, 9, 10, 3, 1, 0] rfl)
                · have hf := (if_pos c22).symm.trans hf
                  refine lv_iconst (v := 1) hx hb dX11_holdsLine_212 (by decide) ?_
                  refine lv_goto (tgt := 233) hx hb dX11_holdsLine_213 (by decide) ?_
                  exact J233 μ (v6 + (-1 : Int32)) v8 (μ (1, 0) ((5477 : Int32) + ((2 : Int32) * v8)).toNatClampNeg) (μ (22, 0) ((v6 + (-1 : Int32)) - (1 : Int32)).toNatClampNeg) (μ (22, 0) (v6 + (-1 : Int32)).toNatClampNeg) (1 : Int32) _ _ _ hf hW (lv_sub hl [4, 5, 6, 7, 8, 2, 9, 10, 3, 1, 0] rfl)
            · have hf := (if_pos c19).symm.trans hf
              refine lv_iload hx hb dX11_holdsLine_181 (lv_at hl 1 rfl) ?_
              refine lv_iload hx hb dX11_holdsLine_183 (lv_at hl 0 rfl) ?_
              refine lv_icmp_le (tgt := 192) hx hb dX11_holdsLine_185 (by decide) (fun c23 => ?_) (fun c23 => ?_)
              · have hf := (if_pos c23).symm.trans hf
                refine lv_iconst (v := 0) hx hb dX11_holdsLine_192 (by decide) ?_
                refine lv_goto (tgt := 233) hx hb dX11_holdsLine_193 (by decide) ?_
                exact J233 μ (v6 + (-1 : Int32)) v8 (μ (1, 0) ((5477 : Int32) + ((2 : Int32) * v8)).toNatClampNeg) (μ (22, 0) ((v6 + (-1 : Int32)) - (1 : Int32)).toNatClampNeg) (μ (22, 0) (v6 + (-1 : Int32)).toNatClampNeg) (0 : Int32) _ _ _ hf hW (lv_sub hl [4, 5, 6, 7, 8, 2, 9, 10, 3, 1, 0] rfl)
              · have hf := (if_neg c23).symm.trans hf
                refine lv_iconst (v := 1) hx hb dX11_holdsLine_188 (by decide) ?_
                refine lv_goto (tgt := 233) hx hb dX11_holdsLine_189 (by decide) ?_
                exact J233 μ (v6 + (-1 : Int32)) v8 (μ (1, 0) ((5477 : Int32) + ((2 : Int32) * v8)).toNatClampNeg) (μ (22, 0) ((v6 + (-1 : Int32)) - (1 : Int32)).toNatClampNeg) (μ (22, 0) (v6 + (-1 : Int32)).toNatClampNeg) (1 : Int32) _ _ _ hf hW (lv_sub hl [4, 5, 6, 7, 8, 2, 9, 10, 3, 1, 0] rfl)
          · have hf := (if_pos c18).symm.trans hf
            refine lv_iload hx hb dX11_holdsLine_159 (lv_at hl 1 rfl) ?_
            refine lv_iload hx hb dX11_holdsLine_161 (lv_at hl 0 rfl) ?_
            refine lv_icmp_ge (tgt := 170) hx hb dX11_holdsLine_163 (by decide) (fun c24 => ?_) (fun c24 => ?_)
            · have hf := (if_pos c24).symm.trans hf
              refine lv_iconst (v := 0) hx hb dX11_holdsLine_170 (by decide) ?_
              refine lv_goto (tgt := 233) hx hb dX11_holdsLine_171 (by decide) ?_
              exact J233 μ (v6 + (-1 : Int32)) v8 (μ (1, 0) ((5477 : Int32) + ((2 : Int32) * v8)).toNatClampNeg) (μ (22, 0) ((v6 + (-1 : Int32)) - (1 : Int32)).toNatClampNeg) (μ (22, 0) (v6 + (-1 : Int32)).toNatClampNeg) (0 : Int32) _ _ _ hf hW (lv_sub hl [4, 5, 6, 7, 8, 2, 9, 10, 3, 1, 0] rfl)
            · have hf := (if_neg c24).symm.trans hf
              refine lv_iconst (v := 1) hx hb dX11_holdsLine_166 (by decide) ?_
              refine lv_goto (tgt := 233) hx hb dX11_holdsLine_167 (by decide) ?_
              exact J233 μ (v6 + (-1 : Int32)) v8 (μ (1, 0) ((5477 : Int32) + ((2 : Int32) * v8)).toNatClampNeg) (μ (22, 0) ((v6 + (-1 : Int32)) - (1 : Int32)).toNatClampNeg) (μ (22, 0) (v6 + (-1 : Int32)).toNatClampNeg) (1 : Int32) _ _ _ hf hW (lv_sub hl [4, 5, 6, 7, 8, 2, 9, 10, 3, 1, 0] rfl)
        · have hf := (if_pos c15).symm.trans hf
          refine lv_aload_n hx hb dX11_holdsLine_106 rfl (lv_at hl 1 rfl) ?_
          refine gf_X11_49 C hW dX11_holdsLine_107 ?_
          refine lv_iload hx hb dX11_holdsLine_110 (lv_at hl 6 rfl) ?_
          refine lv_iconst (v := 1) hx hb dX11_holdsLine_112 (by decide) ?_
          refine lv_isub hx hb dX11_holdsLine_113 ?_
          refine lv_iconst (v := 1) hx hb dX11_holdsLine_114 (by decide) ?_
          refine lv_aload_n hx hb dX11_holdsLine_115 rfl (lv_at hl 1 rfl) ?_
          refine gf_X11_49 C hW dX11_holdsLine_116 ?_
          refine lv_iload hx hb dX11_holdsLine_119 (lv_at hl 6 rfl) ?_
          refine lv_iconst (v := 1) hx hb dX11_holdsLine_121 (by decide) ?_
          refine lv_isub hx hb dX11_holdsLine_122 ?_
          obtain ⟨hi25, hf⟩ := ck_of hf
          refine r_iald (k := ((22, 0) : Ky)) (n := 400) C hW rfl rfl hi25 dX11_holdsLine_123 ?_
          refine lv_isub hx hb dX11_holdsLine_124 ?_
          obtain ⟨hi26, hf⟩ := ck_of hf
          refine r_iast (k := ((22, 0) : Ky)) (n := 400) C hW rfl (fun _ => rfl) hi26 dX11_holdsLine_125 (fun H locs hW => ?_)
          refine lv_goto (tgt := 269) hx hb dX11_holdsLine_126 (by decide) ?_
          refine lv_iinc (v := (v8 + (1 : Int32))) (lv' := [(8, .int (v8 + (1 : Int32))), (9, .int (μ (1, 0) ((5477 : Int32) + ((2 : Int32) * v8)).toNatClampNeg)), (0, .ref (ad 0)), (2, .int v2), (3, .int v3), (4, .int v4), (5, .int v5), (6, .int v6), (7, .int v7)]) hx hb dX11_holdsLine_269 hl (k := 8) rfl rfl (by decide) rfl (fun ls hl => ?_)
          refine lv_goto (tgt := 23) hx hb dX11_holdsLine_272 (by decide) ?_
          obtain rfl := Option.some.inj hf
          exact Kl1 _ rfl _ _ _ hW (lv_sub hl [2, 3, 4, 5, 6, 7, 8, 0] rfl)
      · have hf := (if_neg c14).symm.trans hf
        refine lv_aload_n hx hb dX11_holdsLine_59 rfl (lv_at hl 1 rfl) ?_
        refine gf_X11_49 C hW dX11_holdsLine_60 ?_
        refine lv_iload hx hb dX11_holdsLine_63 (lv_at hl 6 rfl) ?_
        refine lv_aload_n hx hb dX11_holdsLine_65 rfl (lv_at hl 1 rfl) ?_
        refine lv_iload hx hb dX11_holdsLine_66 (lv_at hl 0 rfl) ?_
        refine lv_aload_n hx hb dX11_holdsLine_68 rfl (lv_at hl 1 rfl) ?_
        refine gf_X11_13 C hW dX11_holdsLine_69 ?_
        refine lv_sipush (v := 5477) hx hb dX11_holdsLine_72 (by decide) ?_
        refine lv_iconst (v := 2) hx hb dX11_holdsLine_75 (by decide) ?_
        refine lv_iload hx hb dX11_holdsLine_76 (lv_at hl 8 rfl) ?_
        refine lv_imul hx hb dX11_holdsLine_78 ?_
        refine lv_iadd hx hb dX11_holdsLine_79 ?_
        refine lv_iconst (v := 1) hx hb dX11_holdsLine_80 (by decide) ?_
        refine lv_iadd hx hb dX11_holdsLine_81 ?_
        obtain ⟨hi27, hf⟩ := ck_of hf
        refine r_iald (k := ((1, 0) : Ky)) (n := 7114) C hW rfl rfl hi27 dX11_holdsLine_82 ?_
        refine lv_iload_n hx hb dX11_holdsLine_83 rfl (lv_at hl 2 rfl) ?_
        refine lv_iload_n hx hb dX11_holdsLine_84 rfl (lv_at hl 3 rfl) ?_
        refine lv_iload hx hb dX11_holdsLine_85 (lv_at hl 4 rfl) ?_
        refine lv_iload hx hb dX11_holdsLine_87 (lv_at hl 5 rfl) ?_
        obtain ⟨x89, h89, hf⟩ := bd_of hf
        refine r_callV (k := ((0, 0) : Ky)) C hW hl lk_X11_328 (c_X11_factOf h89) ⟨rfl, rfl⟩ ⟨Nat.le_of_ble_eq_true rfl, Nat.le_of_ble_eq_true rfl⟩ rfl rfl rfl (As := [.int (μ (1, 0) ((5477 : Int32) + ((2 : Int32) * v8)).toNatClampNeg), .int (μ (1, 0) (((5477 : Int32) + ((2 : Int32) * v8)) + (1 : Int32)).toNatClampNeg), .int v2, .int v3, .int v4, .int v5]) (rest := [.int v6, .ref (ad 22)]) rfl rfl (Nat.le_of_ble_eq_true rfl) dX11_holdsLine_89 ⟨Nat.zero_le _, Nat.zero_le _⟩ (fun H locs hW => ?_)
        show W p l e (rmq 3 69) s m args below meth c H locs 0 0 Q (F0 m 92 ls [.int x89, .int v6, .ref (ad 22)])
        obtain ⟨hi29, hf⟩ := ck_of hf
        refine r_iast (k := ((22, 0) : Ky)) (n := 400) C hW rfl (fun _ => rfl) hi29 dX11_holdsLine_92 (fun H locs hW => ?_)
        refine lv_iinc (v := (v6 + (1 : Int32))) (lv' := [(6, .int (v6 + (1 : Int32))), (9, .int (μ (1, 0) ((5477 : Int32) + ((2 : Int32) * v8)).toNatClampNeg)), (0, .ref (ad 0)), (2, .int v2), (3, .int v3), (4, .int v4), (5, .int v5), (7, .int v7), (8, .int v8)]) hx hb dX11_holdsLine_93 hl (k := 6) rfl rfl (by decide) rfl (fun ls hl => ?_)
        refine lv_goto (tgt := 269) hx hb dX11_holdsLine_96 (by decide) ?_
        refine lv_iinc (v := (v8 + (1 : Int32))) (lv' := [(8, .int (v8 + (1 : Int32))), (6, .int (v6 + (1 : Int32))), (9, .int (μ (1, 0) ((5477 : Int32) + ((2 : Int32) * v8)).toNatClampNeg)), (0, .ref (ad 0)), (2, .int v2), (3, .int v3), (4, .int v4), (5, .int v5), (7, .int v7)]) hx hb dX11_holdsLine_269 hl (k := 8) rfl rfl (by decide) rfl (fun ls hl => ?_)
        refine lv_goto (tgt := 23) hx hb dX11_holdsLine_272 (by decide) ?_
        obtain rfl := Option.some.inj hf
        exact Kl1 _ rfl _ _ _ hW (lv_sub hl [3, 4, 5, 6, 7, 1, 8, 0] rfl)
  exact L23 μ (0 : Int32) ((5441 : Int32) + ((3 : Int32) * v1)) (μ (1, 0) (((5441 : Int32) + ((3 : Int32) * v1)) + (1 : Int32)).toNatClampNeg) _ _ _ hf hW (lv_sub hl [3, 5, 6, 7, 8, 2, 1, 0] rfl)
set_option maxHeartbeats 4000000 in
set_option maxRecDepth 100000 in
theorem c_X11_mannerBy {l : Launch} {D : va_G} {tc : Nat → ClassId} {ro : Ro} {ad : Nat → Nat} {μ : Mm} {v1 v2 v3 v4 : Int32} {res : Int32 × Mm} (hf : f_X11_mannerBy μ v1 v2 v3 v4 = some res) : Ct l D tc ro (faM ad) (feM tc ad) yX11_mannerBy cX11_mannerBy 7 (some .int) (rmq 4 101) [.ref (ad 0), .int v1, .int v2, .int v3, .int v4] μ (some (.int res.1)) res.2 := by
  refine Ct.of (by decide) (Nat.le_of_ble_eq_true rfl) (fun p e s m args below meth c A C hr hk hW ls hl => ?_)
  have hx := C.1.1
  have hb := C.1.2.1
  obtain ⟨Q, hQ⟩ : ∃ Q, Q = MQ below (Ctq D (faM ad) (feM tc ad) (some (.int res.1)) res.2 A) args s 0 0 A := ⟨_, rfl⟩
  rw [← hQ]
  have hl : lv_has ls 7 [(0, .ref (ad 0)), (1, .int v1), (2, .int v2), (3, .int v3), (4, .int v4)] := hl
  unfold f_X11_mannerBy at hf
  refine lv_iconst (v := 0) hx hb dX11_mannerBy_0 (by decide) ?_
  refine lv_istore (lv' := [(5, .int (0 : Int32)), (0, .ref (ad 0)), (1, .int v1), (2, .int v2), (3, .int v3), (4, .int v4)]) hx hb dX11_mannerBy_1 hl (by decide) rfl (fun ls hl => ?_)
  refine lv_iconst (v := 0) hx hb dX11_mannerBy_3 (by decide) ?_
  refine lv_istore (lv' := [(6, .int (0 : Int32)), (5, .int (0 : Int32)), (0, .ref (ad 0)), (1, .int v1), (2, .int v2), (3, .int v3), (4, .int v4)]) hx hb dX11_mannerBy_4 hl (by decide) rfl (fun ls hl => ?_)
  have L6 : ∀ (μ : Mm) (v5 v6 : Int32) (H : Heap) (locs : List Loc) (ls : Array Slot), Wh (fun z : Mm × Int32 × Int32 => f_X11_mannerBy_L6 v1 v2 v3 v4 z.1 z.2.1 z.2.2) (μ, v5, v6) = some res → Wd D (faM ad) (feM tc ad) A s.heap μ H locs → lv_has ls 7 [(0, .ref (ad 0)), (1, .int v1), (2, .int v2), (3, .int v3), (4, .int v4), (5, .int v5), (6, .int v6)] → W p l e (rmq 4 101) s m args below meth c H locs 0 0 Q (F0 m 6 ls []) := by
    intro μ v5 v6 H locs ls hf hW hl
    refine Wh_rule hf (fun z : Mm × Int32 × Int32 => ∀ (H : Heap) (locs : List Loc) (ls : Array Slot), Wd D (faM ad) (feM tc ad) A s.heap z.1 H locs → lv_has ls 7 [(0, .ref (ad 0)), (1, .int v1), (2, .int v2), (3, .int v3), (4, .int v4), (5, .int z.2.1), (6, .int z.2.2)] → W p l e (rmq 4 101) s m args below meth c H locs 0 0 Q (F0 m 6 ls [])) (fun z o1 hf Kl1 Kr1 => ?_) _ _ _ hW hl
    obtain ⟨μ, v5, v6⟩ := z
    intro H locs ls hW hl
    have hf : f_X11_mannerBy_L6 v1 v2 v3 v4 μ v5 v6 = some o1 := hf
    unfold f_X11_mannerBy_L6 at hf
    have hW : Wd D (faM ad) (feM tc ad) A s.heap μ H locs := hW
    have hl : lv_has ls 7 [(0, .ref (ad 0)), (1, .int v1), (2, .int v2), (3, .int v3), (4, .int v4), (5, .int v5), (6, .int v6)] := hl
    refine lv_aload_n hx hb dX11_mannerBy_6 rfl (lv_at hl 0 rfl) ?_
    refine gf_X11_13 C hW dX11_mannerBy_7 ?_
    refine lv_iconst (v := 3) hx hb dX11_mannerBy_10 (by decide) ?_
    obtain ⟨hi1, hf⟩ := ck_of hf
    refine r_iald (k := ((1, 0) : Ky)) (n := 7114) C hW rfl rfl hi1 dX11_mannerBy_11 ?_
    refine lv_iconst (v := 1) hx hb dX11_mannerBy_12 (by decide) ?_
    refine lv_icmp_ne (tgt := 71) hx hb dX11_mannerBy_13 (by decide) (fun c2 => ?_) (fun c2 => ?_)
    · have hf := (if_neg c2).symm.trans hf
      obtain ⟨x9003, hf, hx9003⟩ := map_of hf
      have e9003 := (Kr1 _ hx9003.symm).symm
      subst e9003
      refine lv_iload hx hb dX11_mannerBy_71 (lv_at hl 5 rfl) ?_
      obtain rfl := Option.some.inj hf
      rw [hQ]
      exact r_iret C hr hk hW rfl rfl dX11_mannerBy_73
    · have hf := (if_pos c2).symm.trans hf
      refine lv_iload hx hb dX11_mannerBy_16 (lv_at hl 6 rfl) ?_
      refine lv_aload_n hx hb dX11_mannerBy_18 rfl (lv_at hl 0 rfl) ?_
      refine gf_X11_13 C hW dX11_mannerBy_19 ?_
      refine lv_sipush (v := 5440) hx hb dX11_mannerBy_22 (by decide) ?_
      obtain ⟨hi4, hf⟩ := ck_of hf
      refine r_iald (k := ((1, 0) : Ky)) (n := 7114) C hW rfl rfl hi4 dX11_mannerBy_25 ?_
      refine lv_icmp_ge (tgt := 71) hx hb dX11_mannerBy_26 (by decide) (fun c5 => ?_) (fun c5 => ?_)
      · have hf := (if_pos c5).symm.trans hf
        obtain ⟨x9006, hf, hx9006⟩ := map_of hf
        have e9006 := (Kr1 _ hx9006.symm).symm
        subst e9006
        refine lv_iload hx hb dX11_mannerBy_71 (lv_at hl 5 rfl) ?_
        obtain rfl := Option.some.inj hf
        rw [hQ]
        exact r_iret C hr hk hW rfl rfl dX11_mannerBy_73
      · have hf := (if_neg c5).symm.trans hf
        refine lv_iload hx hb dX11_mannerBy_29 (lv_at hl 5 rfl) ?_
        refine lv_aload_n hx hb dX11_mannerBy_31 rfl (lv_at hl 0 rfl) ?_
        refine lv_iload hx hb dX11_mannerBy_32 (lv_at hl 6 rfl) ?_
        refine lv_iload_n hx hb dX11_mannerBy_34 rfl (lv_at hl 1 rfl) ?_
        refine lv_iload_n hx hb dX11_mannerBy_35 rfl (lv_at hl 2 rfl) ?_
        refine lv_iload_n hx hb dX11_mannerBy_36 rfl (lv_at hl 3 rfl) ?_
        refine lv_iload hx hb dX11_mannerBy_37 (lv_at hl 4 rfl) ?_
        obtain ⟨x39, h39, hf⟩ := bd_of hf
        refine r_callV (k := ((0, 0) : Ky)) C hW hl lk_X11_332 (c_X11_holdsLine h39) ⟨rfl, rfl⟩ ⟨Nat.le_of_ble_eq_true rfl, Nat.le_of_ble_eq_true rfl⟩ rfl rfl rfl (As := [.int v6, .int v1, .int v2, .int v3, .int v4]) (rest := [.int v5]) rfl rfl (Nat.le_of_ble_eq_true rfl) dX11_mannerBy_39 ⟨Nat.zero_le _, Nat.zero_le _⟩ (fun H locs hW => ?_)
        show W p l e (rmq 4 101) s m args below meth c H locs 0 0 Q (F0 m 42 ls [.int x39.1, .int v5])
        refine lv_if_eq (tgt := 61) hx hb dX11_mannerBy_42 (by decide) (fun c8 => ?_) (fun c8 => ?_)
        · have hf := (if_pos c8).symm.trans hf
          refine lv_iconst (v := 0) hx hb dX11_mannerBy_61 (by decide) ?_
          refine lv_iadd hx hb dX11_mannerBy_62 ?_
          refine lv_istore (lv' := [(5, .int (v5 + (0 : Int32))), (0, .ref (ad 0)), (1, .int v1), (2, .int v2), (3, .int v3), (4, .int v4), (6, .int v6)]) hx hb dX11_mannerBy_63 hl (by decide) rfl (fun ls hl => ?_)
          refine lv_iinc (v := (v6 + (1 : Int32))) (lv' := [(6, .int (v6 + (1 : Int32))), (5, .int (v5 + (0 : Int32))), (0, .ref (ad 0)), (1, .int v1), (2, .int v2), (3, .int v3), (4, .int v4)]) hx hb dX11_mannerBy_65 hl (k := 6) rfl rfl (by decide) rfl (fun ls hl => ?_)
          refine lv_goto (tgt := 6) hx hb dX11_mannerBy_68 (by decide) ?_
          obtain rfl := Option.some.inj hf
          exact Kl1 _ rfl _ _ _ hW (lv_sub hl [2, 3, 4, 5, 6, 1, 0] rfl)
        · have hf := (if_neg c8).symm.trans hf
          refine lv_aload_n hx hb dX11_mannerBy_45 rfl (lv_at hl 0 rfl) ?_
          refine gf_X11_13 C hW dX11_mannerBy_46 ?_
          refine lv_sipush (v := 5441) hx hb dX11_mannerBy_49 (by decide) ?_
          refine lv_iconst (v := 3) hx hb dX11_mannerBy_52 (by decide) ?_
          refine lv_iload hx hb dX11_mannerBy_53 (lv_at hl 6 rfl) ?_
          refine lv_imul hx hb dX11_mannerBy_55 ?_
          refine lv_iadd hx hb dX11_mannerBy_56 ?_
          obtain ⟨hi9, hf⟩ := ck_of hf
          refine r_iald (k := ((1, 0) : Ky)) (n := 7114) C hW rfl rfl hi9 dX11_mannerBy_57 ?_
          refine lv_goto (tgt := 62) hx hb dX11_mannerBy_58 (by decide) ?_
          refine lv_iadd hx hb dX11_mannerBy_62 ?_
          refine lv_istore (lv' := [(5, .int (v5 + (x39.2 (1, 0) ((5441 : Int32) + ((3 : Int32) * v6)).toNatClampNeg))), (0, .ref (ad 0)), (1, .int v1), (2, .int v2), (3, .int v3), (4, .int v4), (6, .int v6)]) hx hb dX11_mannerBy_63 hl (by decide) rfl (fun ls hl => ?_)
          refine lv_iinc (v := (v6 + (1 : Int32))) (lv' := [(6, .int (v6 + (1 : Int32))), (5, .int (v5 + (x39.2 (1, 0) ((5441 : Int32) + ((3 : Int32) * v6)).toNatClampNeg))), (0, .ref (ad 0)), (1, .int v1), (2, .int v2), (3, .int v3), (4, .int v4)]) hx hb dX11_mannerBy_65 hl (k := 6) rfl rfl (by decide) rfl (fun ls hl => ?_)
          refine lv_goto (tgt := 6) hx hb dX11_mannerBy_68 (by decide) ?_
          obtain rfl := Option.some.inj hf
          exact Kl1 _ rfl _ _ _ hW (lv_sub hl [2, 3, 4, 5, 6, 1, 0] rfl)
  exact L6 μ (0 : Int32) (0 : Int32) _ _ _ hf hW (lv_sub hl [2, 3, 4, 5, 6, 1, 0] rfl)
set_option maxHeartbeats 4000000 in
set_option maxRecDepth 100000 in
theorem c_X11_mannersCome {l : Launch} {D : va_G} {tc : Nat → ClassId} {ro : Ro} {ad : Nat → Nat} {μ : Mm} {v1 v2 : Int32} {res : Mm} (hf : f_X11_mannersCome μ v1 v2 = some res) : Ct l D tc ro (faM ad) (feM tc ad) yX11_mannersCome cX11_mannersCome 4 none (rmq 5 127) [.ref (ad 0), .int v1, .int v2] μ none res := by
  refine Ct.of (by decide) (Nat.le_of_ble_eq_true rfl) (fun p e s m args below meth c A C hr hk hW ls hl => ?_)
  have hx := C.1.1
  have hb := C.1.2.1
  obtain ⟨Q, hQ⟩ : ∃ Q, Q = MQ below (Ctq D (faM ad) (feM tc ad) none res A) args s 0 0 A := ⟨_, rfl⟩
  rw [← hQ]
  have hl : lv_has ls 4 [(0, .ref (ad 0)), (1, .int v1), (2, .int v2)] := hl
  unfold f_X11_mannersCome at hf
  refine lv_iconst (v := 0) hx hb dX11_mannersCome_0 (by decide) ?_
  refine lv_istore_n (lv' := [(3, .int (0 : Int32)), (0, .ref (ad 0)), (1, .int v1), (2, .int v2)]) hx hb dX11_mannersCome_1 rfl hl (by decide) rfl (fun ls hl => ?_)
  have L2 : ∀ (μ : Mm) (v3 : Int32) (H : Heap) (locs : List Loc) (ls : Array Slot), Wh (fun z : Mm × Int32 => f_X11_mannersCome_L2 v1 v2 z.1 z.2) (μ, v3) = some res → Wd D (faM ad) (feM tc ad) A s.heap μ H locs → lv_has ls 4 [(0, .ref (ad 0)), (1, .int v1), (2, .int v2), (3, .int v3)] → W p l e (rmq 5 127) s m args below meth c H locs 0 0 Q (F0 m 2 ls []) := by
    intro μ v3 H locs ls hf hW hl
    refine Wh_rule hf (fun z : Mm × Int32 => ∀ (H : Heap) (locs : List Loc) (ls : Array Slot), Wd D (faM ad) (feM tc ad) A s.heap z.1 H locs → lv_has ls 4 [(0, .ref (ad 0)), (1, .int v1), (2, .int v2), (3, .int z.2)] → W p l e (rmq 5 127) s m args below meth c H locs 0 0 Q (F0 m 2 ls [])) (fun z o1 hf Kl1 Kr1 => ?_) _ _ _ hW hl
    obtain ⟨μ, v3⟩ := z
    intro H locs ls hW hl
    have hf : f_X11_mannersCome_L2 v1 v2 μ v3 = some o1 := hf
    unfold f_X11_mannersCome_L2 at hf
    have hW : Wd D (faM ad) (feM tc ad) A s.heap μ H locs := hW
    have hl : lv_has ls 4 [(0, .ref (ad 0)), (1, .int v1), (2, .int v2), (3, .int v3)] := hl
    have J35 : ∀ (μ : Mm) (v3 s0 s1 s2 s3 s5 : Int32) (H : Heap) (locs : List Loc) (ls : Array Slot), f_X11_mannersCome_J35 μ v1 v2 v3 s0 s1 s2 s3 s5 = some o1 → Wd D (faM ad) (feM tc ad) A s.heap μ H locs → lv_has ls 4 [(0, .ref (ad 0)), (1, .int v1), (2, .int v2), (3, .int v3)] → W p l e (rmq 5 127) s m args below meth c H locs 0 0 Q (F0 m 35 ls [.int s0, .int s1, .int s2, .int s3, .ref (ad 0), .int s5, .ref (ad 23)]) := by
      intro μ v3 s0 s1 s2 s3 s5 H locs ls hf hW hl
      unfold f_X11_mannersCome_J35 at hf
      obtain ⟨x35, h35, hf⟩ := bd_of hf
      refine r_callV (k := ((0, 0) : Ky)) C hW hl lk_X11_336 (c_X11_mannerBy h35) ⟨rfl, rfl⟩ ⟨Nat.le_of_ble_eq_true rfl, Nat.le_of_ble_eq_true rfl⟩ rfl rfl rfl (As := [.int s3, .int s2, .int s1, .int s0]) (rest := [.int s5, .ref (ad 23)]) rfl rfl (Nat.le_of_ble_eq_true rfl) dX11_mannersCome_35 ⟨Nat.zero_le _, Nat.zero_le _⟩ (fun H locs hW => ?_)
      show W p l e (rmq 5 127) s m args below meth c H locs 0 0 Q (F0 m 38 ls [.int x35.1, .int s5, .ref (ad 23)])
      obtain ⟨hi2, hf⟩ := ck_of hf
      refine r_iast (k := ((23, 0) : Ky)) (n := 8) C hW rfl (fun _ => rfl) hi2 dX11_mannersCome_38 (fun H locs hW => ?_)
      refine lv_aload_n hx hb dX11_mannersCome_39 rfl (lv_at hl 0 rfl) ?_
      refine gf_X11_55 C hW dX11_mannersCome_40 ?_
      refine lv_iload_n hx hb dX11_mannersCome_43 rfl (lv_at hl 3 rfl) ?_
      refine lv_iconst (v := 0) hx hb dX11_mannersCome_44 (by decide) ?_
      obtain ⟨hi3, hf⟩ := ck_of hf
      refine r_iast (k := ((24, 0) : Ky)) (n := 8) C hW rfl (fun _ => rfl) hi3 dX11_mannersCome_45 (fun H locs hW => ?_)
      have L46 : ∀ (μ : Mm) (v3 : Int32) (H : Heap) (locs : List Loc) (ls : Array Slot), Wh (fun z : Mm => f_X11_mannersCome_L46 v1 v2 v3 z) (μ) = some o1 → Wd D (faM ad) (feM tc ad) A s.heap μ H locs → lv_has ls 4 [(0, .ref (ad 0)), (1, .int v1), (2, .int v2), (3, .int v3)] → W p l e (rmq 5 127) s m args below meth c H locs 0 0 Q (F0 m 46 ls []) := by
        intro μ v3 H locs ls hf hW hl
        refine Wh_rule hf (fun z : Mm => ∀ (H : Heap) (locs : List Loc) (ls : Array Slot), Wd D (faM ad) (feM tc ad) A s.heap z H locs → lv_has ls 4 [(0, .ref (ad 0)), (1, .int v1), (2, .int v2), (3, .int v3)] → W p l e (rmq 5 127) s m args below meth c H locs 0 0 Q (F0 m 46 ls [])) (fun z o2 hf Kl2 Kr2 => ?_) _ _ _ hW hl
        obtain ⟨μ, ez⟩ : ∃ q, q = z := ⟨_, rfl⟩
        subst ez
        intro H locs ls hW hl
        have hf : f_X11_mannersCome_L46 v1 v2 v3 μ = some o2 := hf
        unfold f_X11_mannersCome_L46 at hf
        have hW : Wd D (faM ad) (feM tc ad) A s.heap μ H locs := hW
        have hl : lv_has ls 4 [(0, .ref (ad 0)), (1, .int v1), (2, .int v2), (3, .int v3)] := hl
        refine lv_aload_n hx hb dX11_mannersCome_46 rfl (lv_at hl 0 rfl) ?_
        refine gf_X11_52 C hW dX11_mannersCome_47 ?_
        refine lv_aload_n hx hb dX11_mannersCome_50 rfl (lv_at hl 0 rfl) ?_
        refine gf_X11_55 C hW dX11_mannersCome_51 ?_
        refine lv_iload_n hx hb dX11_mannersCome_54 rfl (lv_at hl 3 rfl) ?_
        obtain ⟨hi4, hf⟩ := ck_of hf
        refine r_iald (k := ((24, 0) : Ky)) (n := 8) C hW rfl rfl hi4 dX11_mannersCome_55 ?_
        obtain ⟨hi5, hf⟩ := ck_of hf
        refine r_iald (k := ((23, 0) : Ky)) (n := 8) C hW rfl rfl hi5 dX11_mannersCome_56 ?_
        refine lv_aload_n hx hb dX11_mannersCome_57 rfl (lv_at hl 0 rfl) ?_
        refine gf_X11_52 C hW dX11_mannersCome_58 ?_
        refine lv_iload_n hx hb dX11_mannersCome_61 rfl (lv_at hl 3 rfl) ?_
        obtain ⟨hi6, hf⟩ := ck_of hf
        refine r_iald (k := ((23, 0) : Ky)) (n := 8) C hW rfl rfl hi6 dX11_mannersCome_62 ?_
        refine lv_icmp_eq (tgt := 79) hx hb dX11_mannersCome_63 (by decide) (fun c7 => ?_) (fun c7 => ?_)
        · have hf := (if_pos c7).symm.trans hf
          obtain ⟨x9008, hf, hx9008⟩ := map_of hf
          have e9008 := (Kr2 _ hx9008.symm).symm
          subst e9008
          refine lv_iinc (v := (v3 + (1 : Int32))) (lv' := [(3, .int (v3 + (1 : Int32))), (0, .ref (ad 0)), (1, .int v1), (2, .int v2)]) hx hb dX11_mannersCome_79 hl (k := 3) rfl rfl (by decide) rfl (fun ls hl => ?_)
          refine lv_goto (tgt := 2) hx hb dX11_mannersCome_82 (by decide) ?_
          obtain rfl := Option.some.inj hf
          exact Kl1 _ rfl _ _ _ hW (lv_sub hl [1, 2, 3, 0] rfl)
        · have hf := (if_neg c7).symm.trans hf
          refine lv_aload_n hx hb dX11_mannersCome_66 rfl (lv_at hl 0 rfl) ?_
          refine gf_X11_55 C hW dX11_mannersCome_67 ?_
          refine lv_iload_n hx hb dX11_mannersCome_70 rfl (lv_at hl 3 rfl) ?_
          refine lv_dup2_11 hx hb dX11_mannersCome_71 rfl rfl ?_
          obtain ⟨hi9, hf⟩ := ck_of hf
          refine r_iald (k := ((24, 0) : Ky)) (n := 8) C hW rfl rfl hi9 dX11_mannersCome_72 ?_
          refine lv_iconst (v := 1) hx hb dX11_mannersCome_73 (by decide) ?_
          refine lv_iadd hx hb dX11_mannersCome_74 ?_
          obtain ⟨hi10, hf⟩ := ck_of hf
          refine r_iast (k := ((24, 0) : Ky)) (n := 8) C hW rfl (fun _ => rfl) hi10 dX11_mannersCome_75 (fun H locs hW => ?_)
          refine lv_goto (tgt := 46) hx hb dX11_mannersCome_76 (by decide) ?_
          obtain rfl := Option.some.inj hf
          exact Kl2 _ rfl _ _ _ hW (lv_sub hl [0, 1, 2, 3] rfl)
      exact L46 (mst (mst x35.2 (23, 0) s5.toNatClampNeg x35.1) (24, 0) v3.toNatClampNeg (0 : Int32)) v3 _ _ _ hf hW (lv_sub hl [0, 1, 2, 3] rfl)
    refine lv_iload_n hx hb dX11_mannersCome_2 rfl (lv_at hl 3 rfl) ?_
    refine lv_iconst (v := 2) hx hb dX11_mannersCome_3 (by decide) ?_
    refine lv_aload_n hx hb dX11_mannersCome_4 rfl (lv_at hl 0 rfl) ?_
    obtain ⟨x5, h5, hf⟩ := bd_of hf
    refine r_callV (k := ((0, 0) : Ky)) C hW hl lk_X11_118 (c_X11_values h5) ⟨rfl, rfl⟩ ⟨Nat.le_of_ble_eq_true rfl, Nat.le_of_ble_eq_true rfl⟩ rfl rfl rfl (As := []) (rest := [.int (2 : Int32), .int v3]) rfl rfl (Nat.le_of_ble_eq_true rfl) dX11_mannersCome_5 ⟨Nat.zero_le _, Nat.zero_le _⟩ (fun H locs hW => ?_)
    show W p l e (rmq 5 127) s m args below meth c H locs 0 0 Q (F0 m 8 ls [.int x5, .int (2 : Int32), .int v3])
    refine lv_imul hx hb dX11_mannersCome_8 ?_
    refine lv_icmp_ge (tgt := 85) hx hb dX11_mannersCome_9 (by decide) (fun c12 => ?_) (fun c12 => ?_)
    · have hf := (if_pos c12).symm.trans hf
      obtain ⟨x9029, hf, hx9029⟩ := map_of hf
      have e9029 := (Kr1 _ hx9029.symm).symm
      subst e9029
      refine lv_aload_n hx hb dX11_mannersCome_85 rfl (lv_at hl 0 rfl) ?_
      refine lv_iload_n hx hb dX11_mannersCome_86 rfl (lv_at hl 1 rfl) ?_
      refine lv_iload_n hx hb dX11_mannersCome_87 rfl (lv_at hl 1 rfl) ?_
      obtain ⟨x88, h88, hf⟩ := bd_of hf
      refine r_callV (k := ((0, 0) : Ky)) C hW hl lk_X11_135 (c_X11_lays h88) ⟨rfl, rfl⟩ ⟨Nat.le_of_ble_eq_true rfl, Nat.le_of_ble_eq_true rfl⟩ rfl rfl rfl (As := [.int v1, .int v1]) (rest := []) rfl rfl (Nat.le_of_ble_eq_true rfl) dX11_mannersCome_88 ⟨Nat.zero_le _, Nat.zero_le _⟩ (fun H locs hW => ?_)
      show W p l e (rmq 5 127) s m args below meth c H locs 0 0 Q (F0 m 91 ls [])
      refine lv_iconst (v := 0) hx hb dX11_mannersCome_91 (by decide) ?_
      refine lv_istore_n (lv' := [(3, .int (0 : Int32)), (0, .ref (ad 0)), (1, .int v1), (2, .int v2)]) hx hb dX11_mannersCome_92 rfl hl (by decide) rfl (fun ls hl => ?_)
      have L93 : ∀ (μ : Mm) (v3 : Int32) (H : Heap) (locs : List Loc) (ls : Array Slot), Wh (fun z : Mm × Int32 => f_X11_mannersCome_L93 v1 v2 z.1 z.2) (μ, v3) = some res → Wd D (faM ad) (feM tc ad) A s.heap μ H locs → lv_has ls 4 [(0, .ref (ad 0)), (1, .int v1), (2, .int v2), (3, .int v3)] → W p l e (rmq 5 127) s m args below meth c H locs 0 0 Q (F0 m 93 ls []) := by
        intro μ v3 H locs ls hf hW hl
        refine Wh_rule hf (fun z : Mm × Int32 => ∀ (H : Heap) (locs : List Loc) (ls : Array Slot), Wd D (faM ad) (feM tc ad) A s.heap z.1 H locs → lv_has ls 4 [(0, .ref (ad 0)), (1, .int v1), (2, .int v2), (3, .int z.2)] → W p l e (rmq 5 127) s m args below meth c H locs 0 0 Q (F0 m 93 ls [])) (fun z o1 hf Kl1 Kr1 => ?_) _ _ _ hW hl
        obtain ⟨μ, v3⟩ := z
        intro H locs ls hW hl
        have hf : f_X11_mannersCome_L93 v1 v2 μ v3 = some o1 := hf
        unfold f_X11_mannersCome_L93 at hf
        have hW : Wd D (faM ad) (feM tc ad) A s.heap μ H locs := hW
        have hl : lv_has ls 4 [(0, .ref (ad 0)), (1, .int v1), (2, .int v2), (3, .int v3)] := hl
        refine lv_iload_n hx hb dX11_mannersCome_93 rfl (lv_at hl 3 rfl) ?_
        refine lv_aload_n hx hb dX11_mannersCome_94 rfl (lv_at hl 0 rfl) ?_
        obtain ⟨x95, h95, hf⟩ := bd_of hf
        refine r_callV (k := ((0, 0) : Ky)) C hW hl lk_X11_115 (c_X11_worlds h95) ⟨rfl, rfl⟩ ⟨Nat.le_of_ble_eq_true rfl, Nat.le_of_ble_eq_true rfl⟩ rfl rfl rfl (As := []) (rest := [.int v3]) rfl rfl (Nat.le_of_ble_eq_true rfl) dX11_mannersCome_95 ⟨Nat.zero_le _, Nat.zero_le _⟩ (fun H locs hW => ?_)
        show W p l e (rmq 5 127) s m args below meth c H locs 0 0 Q (F0 m 98 ls [.int x95, .int v3])
        refine lv_icmp_ge (tgt := 161) hx hb dX11_mannersCome_98 (by decide) (fun c15 => ?_) (fun c15 => ?_)
        · have hf := (if_pos c15).symm.trans hf
          obtain ⟨x9016, hf, hx9016⟩ := map_of hf
          have e9016 := (Kr1 _ hx9016.symm).symm
          subst e9016
          obtain rfl := Option.some.inj hf
          rw [hQ]
          exact r_vret C hr hk hW rfl rfl dX11_mannersCome_161
        · have hf := (if_neg c15).symm.trans hf
          refine lv_aload_n hx hb dX11_mannersCome_101 rfl (lv_at hl 0 rfl) ?_
          refine gf_X11_33 C hW dX11_mannersCome_102 ?_
          refine lv_iload_n hx hb dX11_mannersCome_105 rfl (lv_at hl 3 rfl) ?_
          refine lv_aload_n hx hb dX11_mannersCome_106 rfl (lv_at hl 0 rfl) ?_
          refine lv_iload_n hx hb dX11_mannersCome_107 rfl (lv_at hl 3 rfl) ?_
          obtain ⟨x108, h108, hf⟩ := bd_of hf
          refine r_callV (k := ((0, 0) : Ky)) C hW hl lk_X11_128 (c_X11_isLeft h108) ⟨rfl, rfl⟩ ⟨Nat.le_of_ble_eq_true rfl, Nat.le_of_ble_eq_true rfl⟩ rfl rfl rfl (As := [.int v3]) (rest := [.int v3, .ref (ad 9)]) rfl rfl (Nat.le_of_ble_eq_true rfl) dX11_mannersCome_108 ⟨Nat.zero_le _, Nat.zero_le _⟩ (fun H locs hW => ?_)
          show W p l e (rmq 5 127) s m args below meth c H locs 0 0 Q (F0 m 111 ls [.int x108, .int v3, .ref (ad 9)])
          refine lv_if_eq (tgt := 153) hx hb dX11_mannersCome_111 (by decide) (fun c18 => ?_) (fun c18 => ?_)
          · have hf := (if_pos c18).symm.trans hf
            refine lv_iconst (v := 0) hx hb dX11_mannersCome_153 (by decide) ?_
            obtain ⟨hi19, hf⟩ := ck_of hf
            refine r_iast (k := ((9, 0) : Ky)) (n := 512) C hW rfl (fun _ => rfl) hi19 dX11_mannersCome_154 (fun H locs hW => ?_)
            refine lv_iinc (v := (v3 + (1 : Int32))) (lv' := [(3, .int (v3 + (1 : Int32))), (0, .ref (ad 0)), (1, .int v1), (2, .int v2)]) hx hb dX11_mannersCome_155 hl (k := 3) rfl rfl (by decide) rfl (fun ls hl => ?_)
            refine lv_goto (tgt := 93) hx hb dX11_mannersCome_158 (by decide) ?_
            obtain rfl := Option.some.inj hf
            exact Kl1 _ rfl _ _ _ hW (lv_sub hl [1, 2, 3, 0] rfl)
          · have hf := (if_neg c18).symm.trans hf
            refine lv_aload_n hx hb dX11_mannersCome_114 rfl (lv_at hl 0 rfl) ?_
            refine gf_X11_55 C hW dX11_mannersCome_115 ?_
            refine lv_iconst (v := 2) hx hb dX11_mannersCome_118 (by decide) ?_
            refine lv_aload_n hx hb dX11_mannersCome_119 rfl (lv_at hl 0 rfl) ?_
            refine lv_iload_n hx hb dX11_mannersCome_120 rfl (lv_at hl 2 rfl) ?_
            refine lv_iload_n hx hb dX11_mannersCome_121 rfl (lv_at hl 3 rfl) ?_
            obtain ⟨x122, h122, hf⟩ := bd_of hf
            refine r_callV (k := ((0, 0) : Ky)) C hW hl lk_X11_124 (c_X11_noticeIn h122) ⟨rfl, rfl⟩ ⟨Nat.le_of_ble_eq_true rfl, Nat.le_of_ble_eq_true rfl⟩ rfl rfl rfl (As := [.int v2, .int v3]) (rest := [.int (2 : Int32), .ref (ad 24), .int v3, .ref (ad 9)]) rfl rfl (Nat.le_of_ble_eq_true rfl) dX11_mannersCome_122 ⟨Nat.zero_le _, Nat.zero_le _⟩ (fun H locs hW => ?_)
            show W p l e (rmq 5 127) s m args below meth c H locs 0 0 Q (F0 m 125 ls [.int x122, .int (2 : Int32), .ref (ad 24), .int v3, .ref (ad 9)])
            refine lv_imul hx hb dX11_mannersCome_125 ?_
            refine lv_aload_n hx hb dX11_mannersCome_126 rfl (lv_at hl 0 rfl) ?_
            refine gf_X11_30 C hW dX11_mannersCome_127 ?_
            refine lv_aload_n hx hb dX11_mannersCome_130 rfl (lv_at hl 0 rfl) ?_
            refine lv_iload_n hx hb dX11_mannersCome_131 rfl (lv_at hl 1 rfl) ?_
            refine lv_iload_n hx hb dX11_mannersCome_132 rfl (lv_at hl 3 rfl) ?_
            obtain ⟨x133, h133, hf⟩ := bd_of hf
            refine r_callV (k := ((0, 0) : Ky)) C hW hl lk_X11_132 (c_X11_label h133) ⟨rfl, rfl⟩ ⟨Nat.le_of_ble_eq_true rfl, Nat.le_of_ble_eq_true rfl⟩ rfl rfl rfl (As := [.int v1, .int v3]) (rest := [.ref (ad 8), .int ((2 : Int32) * x122), .ref (ad 24), .int v3, .ref (ad 9)]) rfl rfl (Nat.le_of_ble_eq_true rfl) dX11_mannersCome_133 ⟨Nat.zero_le _, Nat.zero_le _⟩ (fun H locs hW => ?_)
            show W p l e (rmq 5 127) s m args below meth c H locs 0 0 Q (F0 m 136 ls [.int x133, .ref (ad 8), .int ((2 : Int32) * x122), .ref (ad 24), .int v3, .ref (ad 9)])
            obtain ⟨hi22, hf⟩ := ck_of hf
            refine r_iald (k := ((8, 0) : Ky)) (n := 512) C hW rfl rfl hi22 dX11_mannersCome_136 ?_
            obtain ⟨x137, h137, hf⟩ := bd_of hf
            refine r_callS C hW hl lk_X11_143 (c_X11_isOne h137) ⟨rfl, rfl⟩ ⟨Nat.le_of_ble_eq_true rfl, Nat.le_of_ble_eq_true rfl⟩ (As := [.int (μ (8, 0) x133.toNatClampNeg)]) (rest := [.int ((2 : Int32) * x122), .ref (ad 24), .int v3, .ref (ad 9)]) rfl rfl (Nat.le_of_ble_eq_true rfl) dX11_mannersCome_137 ⟨Nat.zero_le _, Nat.zero_le _⟩ (fun H locs hW => ?_)
            show W p l e (rmq 5 127) s m args below meth c H locs 0 0 Q (F0 m 140 ls [.int x137, .int ((2 : Int32) * x122), .ref (ad 24), .int v3, .ref (ad 9)])
            refine lv_if_eq (tgt := 147) hx hb dX11_mannersCome_140 (by decide) (fun c24 => ?_) (fun c24 => ?_)
            · have hf := (if_pos c24).symm.trans hf
              refine lv_iconst (v := 0) hx hb dX11_mannersCome_147 (by decide) ?_
              refine lv_iadd hx hb dX11_mannersCome_148 ?_
              obtain ⟨hi25, hf⟩ := ck_of hf
              refine r_iald (k := ((24, 0) : Ky)) (n := 8) C hW rfl rfl hi25 dX11_mannersCome_149 ?_
              refine lv_goto (tgt := 154) hx hb dX11_mannersCome_150 (by decide) ?_
              obtain ⟨hi26, hf⟩ := ck_of hf
              refine r_iast (k := ((9, 0) : Ky)) (n := 512) C hW rfl (fun _ => rfl) hi26 dX11_mannersCome_154 (fun H locs hW => ?_)
              refine lv_iinc (v := (v3 + (1 : Int32))) (lv' := [(3, .int (v3 + (1 : Int32))), (0, .ref (ad 0)), (1, .int v1), (2, .int v2)]) hx hb dX11_mannersCome_155 hl (k := 3) rfl rfl (by decide) rfl (fun ls hl => ?_)
              refine lv_goto (tgt := 93) hx hb dX11_mannersCome_158 (by decide) ?_
              obtain rfl := Option.some.inj hf
              exact Kl1 _ rfl _ _ _ hW (lv_sub hl [1, 2, 3, 0] rfl)
            · have hf := (if_neg c24).symm.trans hf
              refine lv_iconst (v := 1) hx hb dX11_mannersCome_143 (by decide) ?_
              refine lv_goto (tgt := 148) hx hb dX11_mannersCome_144 (by decide) ?_
              refine lv_iadd hx hb dX11_mannersCome_148 ?_
              obtain ⟨hi27, hf⟩ := ck_of hf
              refine r_iald (k := ((24, 0) : Ky)) (n := 8) C hW rfl rfl hi27 dX11_mannersCome_149 ?_
              refine lv_goto (tgt := 154) hx hb dX11_mannersCome_150 (by decide) ?_
              obtain ⟨hi28, hf⟩ := ck_of hf
              refine r_iast (k := ((9, 0) : Ky)) (n := 512) C hW rfl (fun _ => rfl) hi28 dX11_mannersCome_154 (fun H locs hW => ?_)
              refine lv_iinc (v := (v3 + (1 : Int32))) (lv' := [(3, .int (v3 + (1 : Int32))), (0, .ref (ad 0)), (1, .int v1), (2, .int v2)]) hx hb dX11_mannersCome_155 hl (k := 3) rfl rfl (by decide) rfl (fun ls hl => ?_)
              refine lv_goto (tgt := 93) hx hb dX11_mannersCome_158 (by decide) ?_
              obtain rfl := Option.some.inj hf
              exact Kl1 _ rfl _ _ _ hW (lv_sub hl [1, 2, 3, 0] rfl)
      exact L93 x88 (0 : Int32) _ _ _ hf hW (lv_sub hl [1, 2, 3, 0] rfl)
    · have hf := (if_neg c12).symm.trans hf
      refine lv_aload_n hx hb dX11_mannersCome_12 rfl (lv_at hl 0 rfl) ?_
      refine gf_X11_52 C hW dX11_mannersCome_13 ?_
      refine lv_iload_n hx hb dX11_mannersCome_16 rfl (lv_at hl 3 rfl) ?_
      refine lv_aload_n hx hb dX11_mannersCome_17 rfl (lv_at hl 0 rfl) ?_
      refine lv_iload_n hx hb dX11_mannersCome_18 rfl (lv_at hl 1 rfl) ?_
      refine lv_iload_n hx hb dX11_mannersCome_19 rfl (lv_at hl 2 rfl) ?_
      refine lv_iload_n hx hb dX11_mannersCome_20 rfl (lv_at hl 3 rfl) ?_
      refine lv_iconst (v := 2) hx hb dX11_mannersCome_21 (by decide) ?_
      refine lv_idiv hx hb dX11_mannersCome_22 (by decide) ?_
      refine lv_iload_n hx hb dX11_mannersCome_23 rfl (lv_at hl 3 rfl) ?_
      refine lv_iconst (v := 2) hx hb dX11_mannersCome_24 (by decide) ?_
      refine lv_irem hx hb dX11_mannersCome_25 (by decide) ?_
      refine lv_iconst (v := 1) hx hb dX11_mannersCome_26 (by decide) ?_
      refine lv_icmp_ne (tgt := 34) hx hb dX11_mannersCome_27 (by decide) (fun c32 => ?_) (fun c32 => ?_)
      · have hf := (if_neg c32).symm.trans hf
        refine lv_iconst (v := 0) hx hb dX11_mannersCome_34 (by decide) ?_
        exact J35 μ v3 (0 : Int32) (v3 / (2 : Int32)) v2 v1 v3 _ _ _ hf hW (lv_sub hl [0, 1, 2, 3] rfl)
      · have hf := (if_pos c32).symm.trans hf
        refine lv_iconst (v := 1) hx hb dX11_mannersCome_30 (by decide) ?_
        refine lv_goto (tgt := 35) hx hb dX11_mannersCome_31 (by decide) ?_
        exact J35 μ v3 (1 : Int32) (v3 / (2 : Int32)) v2 v1 v3 _ _ _ hf hW (lv_sub hl [0, 1, 2, 3] rfl)
  exact L2 μ (0 : Int32) _ _ _ hf hW (lv_sub hl [1, 2, 3, 0] rfl)
