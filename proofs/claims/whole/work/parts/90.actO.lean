-- past, remember, image, acts: the walks
def INV1 (sh : Sh) (μ : Mm) : Prop := μ (6, 0) 12 = 0 ∨ sh 2 ((μ (6, 0) 12).toNatClampNeg - 1) = 1 ∨ 11 ≤ (μ (6, 0) 12).toNatClampNeg - 1
theorem INV1.ne {sh : Sh} {μ : Mm} {j : Nat} (h : INV1 sh μ) (h0 : sh 2 j = 0) (hj : j < 11) : μ (6, 0) 12 = 0 ∨ (μ (6, 0) 12).toNatClampNeg - 1 ≠ j := by
  rcases h with h | h | h
  · exact Or.inl h
  · exact Or.inr (fun e => by rw [e, h0] at h; cases h)
  · exact Or.inr (by omega)
theorem WfS.new {sh : Sh} {j : Nat} (h : WfS sh) : WfS (shs sh 2 j 1) := fun s => by
  by_cases e : 2 = 2 ∧ s = j
  · exact Or.inr (if_pos e)
  · rcases h s with h | h
    · exact Or.inl ((if_neg e).trans h)
    · exact Or.inr ((if_neg e).trans h)
theorem shs_keep {sh : Sh} {j : Nat} : (∀ s, sh 2 s = 1 → shs sh 2 j 1 2 s = 1) ∧ ∀ s, s ≠ j → shs sh 2 j 1 2 s = sh 2 s := by
  refine ⟨fun s hs => ?_, fun s hs => shs_o (fun e => hs e.2)⟩
  by_cases e : s = j
  · rw [e]; exact if_pos ⟨rfl, rfl⟩
  · rw [shs_o (fun x => e x.2)]; exact hs
theorem pastO_wf {sh : Sh} {lm : Nat → Nat} {μ : Mm} {v1 : Int32} {res : Nat × Sh × Mm} {kc ks : Nat} (hwf : WfS sh) (hf : f_X10_pastAtO sh lm μ v1 = some (res, kc, ks)) : WfS res.2.1 ∧ (∀ s, sh 2 s = 1 → res.2.1 2 s = 1) ∧ ∀ s, 11 ≤ s → res.2.1 2 s = sh 2 s := by
  unfold f_X10_pastAtO at hf
  by_cases c1 : v1 < 0
  · rw [if_pos c1] at hf
    obtain ⟨-, hf⟩ := ce_of hf
    obtain ⟨rfl, -, -⟩ := retA hf
    exact ⟨hwf, fun _ h => h, fun _ _ => rfl⟩
  · rw [if_neg c1] at hf
    by_cases c2 : v1 < (8 : Int32)
    · rw [if_pos c2] at hf
      obtain ⟨hi, hf⟩ := ck_of hf
      have h8 : v1.toNatClampNeg < 8 := Nat.not_le.mp (fun q => hi (Or.inr q))
      by_cases c3 : sh 2 (2 + v1.toNatClampNeg) = 0
      · rw [if_pos c3] at hf
        obtain ⟨-, hf⟩ := ce_of hf
        cases hf
        exact ⟨hwf.new, shs_keep.1, fun s hs => shs_keep.2 s (by omega)⟩
      · rw [if_neg c3] at hf
        obtain ⟨rfl, -, -⟩ := retA hf
        exact ⟨hwf, fun _ h => h, fun _ _ => rfl⟩
    · rw [if_neg c2] at hf
      obtain ⟨-, hf⟩ := ce_of hf
      obtain ⟨rfl, -, -⟩ := retA hf
      exact ⟨hwf, fun _ h => h, fun _ _ => rfl⟩
theorem remO_wf {sh : Sh} {lm : Nat → Nat} {μ : Mm} {res : Sh × (Nat → Nat) × Mm} {kc ks : Nat} (hwf : WfS sh) (hf : f_X10_rememberO sh lm μ = some (res, kc, ks)) : WfS res.1 ∧ (∀ s, sh 2 s = 1 → res.1 2 s = 1) ∧ ∀ s, 11 ≤ s → res.1 2 s = sh 2 s := by
  unfold f_X10_rememberO at hf
  obtain ⟨x5, h5, hf⟩ := bd_of hf
  obtain ⟨kc1, ks1, hf, -, -⟩ := addc_of hf
  obtain ⟨-, hf⟩ := ce_of hf
  obtain ⟨-, hf⟩ := ce_of hf
  obtain ⟨x14, h14, hf⟩ := bd_of hf
  obtain ⟨kc2, ks2, hf, -, -⟩ := addc_of hf
  obtain ⟨m4, -, hf⟩ := bd_of hf
  obtain ⟨-, hf⟩ := ce_of hf
  obtain ⟨rfl, -, -⟩ := retA hf
  exact pastO_wf (res := x5.1) hwf h5
theorem askOne_b {sh : Sh} {lm : Nat → Nat} {j : Nat} {μ : Mm} {v : Int32} {y : (Int32 × (Nat → Nat) × Mm) × Nat × Nat} (hf : f_X0_askOneA sh lm j μ v = some y) : y.1.1 = 0 ∨ y.1.1 = 1 := by
  obtain ⟨y1, kc, ks⟩ := y
  unfold f_X0_askOneA at hf
  obtain ⟨x6, -, hf⟩ := bd_of hf
  obtain ⟨x11, -, hf⟩ := bd_of hf
  obtain ⟨x29, -, hf⟩ := bd_of hf
  obtain ⟨x32, -, hf⟩ := bd_of hf
  obtain ⟨kc1, ks1, hf, -, -⟩ := addc_of hf
  by_cases c : x11.1 = (1 : Int32)
  · rw [if_pos c] at hf
    obtain ⟨rfl, -, -⟩ := retA hf
    exact Or.inr rfl
  · rw [if_neg c] at hf
    obtain ⟨rfl, -, -⟩ := retA hf
    exact Or.inl rfl
set_option maxHeartbeats 4000000 in
set_option maxRecDepth 100000 in
theorem cO_X10_pastAt {l : Launch} {D : va_G} {tc : Nat → ClassId} {ro : Ro} {oa : Ky → Nat} {sh : Sh} {lm : Nat → Nat} {μ : Mm} {v1 : Int32} {res : Nat × Sh × Mm} {kc ks : Nat} (hwf : WfS sh) (h9 : sh 2 ((μ (0, 0) 9).toNatClampNeg) = 1) (h10 : sh 2 ((μ (0, 0) 10).toNatClampNeg) = 1) (hv : INV1 sh μ) (hf : f_X10_pastAtO sh lm μ v1 = some (res, kc, ks)) : CtO l D tc ro oa yX10_pastAt cX10_pastAt 2 (some (.object "BackVillage$State")) (rma 5 130 kc ks) [.ref (oa (0, 0)), .int v1] sh lm μ (fun oa' => some (.ref (oa' (13, res.1)))) res.2.1 lm res.2.2 := by
  refine CtO.of (by decide) (Nat.le_of_ble_eq_true rfl) (fun aa p e s m args below meth c A C hr hk hW ls hl => ?_)
  have hx := C.1.1
  have hb := C.1.2.1
  obtain ⟨Q, hQ⟩ : ∃ Q, Q = MQ below (Cto D tc oa (fun oa' => some (.ref (oa' (13, res.1)))) sh res.2.1 lm res.2.2 A) args s (rma 5 130 kc ks).cells (rma 5 130 kc ks).slots A := ⟨_, rfl⟩
  rw [← hQ]
  have hl : lv_has ls 2 [(0, .ref (oa (0, 0))), (1, .int v1)] := hl
  unfold f_X10_pastAtO at hf
  refine lv_iload_n hx hb dX10_pastAt_0 rfl (lv_at hl 1 rfl) ?_
  refine lv_if_lt (tgt := 13) hx hb dX10_pastAt_1 (by decide) (fun c1 => ?_) (fun c1 => ?_)
  · have hf := (if_pos c1).symm.trans hf
    refine lv_aload_n hx hb dX10_pastAt_13 rfl (lv_at hl 0 rfl) ?_
    refine gf_X10_64 C hW dX10_pastAt_14 ?_
    obtain ⟨hq2, hf⟩ := ce_of hf
    obtain ⟨rfl, rfl, rfl⟩ := retA hf
    rw [hQ]
    exact r_aretO C hr hk AGR.rf hW rfl (Nat.zero_le _) (Nat.zero_le _) dX10_pastAt_17
  · have hf := (if_neg c1).symm.trans hf
    refine lv_iload_n hx hb dX10_pastAt_4 rfl (lv_at hl 1 rfl) ?_
    refine lv_aload_n hx hb dX10_pastAt_5 rfl (lv_at hl 0 rfl) ?_
    refine gf_X10_55 C hW dX10_pastAt_6 ?_
    refine r_alen (k := ((1, 0) : Ky)) (t := 3) (v := (8 : Int32)) C hW rfl rfl rfl rfl dX10_pastAt_9 ?_
    refine lv_icmp_lt (tgt := 18) hx hb dX10_pastAt_10 (by decide) (fun c3 => ?_) (fun c3 => ?_)
    · have hf := (if_pos c3).symm.trans hf
      refine lv_aload_n hx hb dX10_pastAt_18 rfl (lv_at hl 0 rfl) ?_
      refine gf_X10_55 C hW dX10_pastAt_19 ?_
      refine lv_iload_n hx hb dX10_pastAt_22 rfl (lv_at hl 1 rfl) ?_
      obtain ⟨hi4, hf⟩ := ck_of hf
      have h8 : v1.toNatClampNeg < 8 := Nat.not_le.mp (fun q => hi4 (Or.inr q))
      by_cases q4 : sh 2 (2 + v1.toNatClampNeg) = 0
      · have hf := (if_pos q4).symm.trans hf
        refine r_aaldN C hW q4 hi4 dX10_pastAt_23 ?_
        refine lv_ifnonnullN hx hb dX10_pastAt_24 ?_
        refine lv_aload_n hx hb dX10_pastAt_27 rfl (lv_at hl 0 rfl) ?_
        refine gf_X10_55 C hW dX10_pastAt_28 ?_
        refine lv_iload_n hx hb dX10_pastAt_31 rfl (lv_at hl 1 rfl) ?_
        obtain ⟨hfr, hf⟩ := ce_of hf
        obtain ⟨rfl, rfl, rfl⟩ : (2 + v1.toNatClampNeg, shs sh 2 (2 + v1.toNatClampNeg) 1, fresh (2 + v1.toNatClampNeg) μ) = res ∧ 11 = kc ∧ 40 = ks := by cases hf; exact ⟨rfl, rfl, rfl⟩
        refine r_newState (j := 2 + v1.toNatClampNeg) C hW hl q4 hfr (hv.ne q4 (by omega)) dX10_pastAt_32 dX10_pastAt_35 dX10_pastAt_36 ⟨Nat.le_of_ble_eq_true rfl, Nat.le_of_ble_eq_true rfl⟩ (Nat.le_of_ble_eq_true rfl) ⟨Nat.le_of_ble_eq_true rfl, Nat.le_of_ble_eq_true rfl⟩ (fun oa2 aa2 H locs hg hW => ?_)
        rw [← hg.bv] at hl
        have fr00 : fresh (2 + v1.toNatClampNeg) μ (0, 0) = μ (0, 0) := fresh_o (by simp) (by simp)
        refine r_pastStore C hwf hg hW hi4 rfl (by rw [fr00]; exact h9) (by rw [fr00]; exact h10) (hg (1, 0) rfl).symm dX10_pastAt_39 (fun H locs hW => ?_)
        refine lv_aload_n hx hb dX10_pastAt_40 rfl (lv_at hl 0 rfl) ?_
        refine gf_X10_55 C hW dX10_pastAt_41 ?_
        refine lv_iload_n hx hb dX10_pastAt_44 rfl (lv_at hl 1 rfl) ?_
        have q5 : ¬ shs sh 2 (2 + v1.toNatClampNeg) 1 2 (2 + v1.toNatClampNeg) = 0 := by unfold shs; rw [if_pos ⟨rfl, rfl⟩]; omega
        refine r_aald C hW q5 hi4 dX10_pastAt_45 ?_
        rw [hQ]
        exact r_aretO C hr hk hg hW rfl (Nat.le_of_ble_eq_true rfl) (Nat.le_of_ble_eq_true rfl) dX10_pastAt_46
      · have hf := (if_neg q4).symm.trans hf
        refine r_aald C hW q4 hi4 dX10_pastAt_23 ?_
        refine lv_ifnonnull (tgt := 40) hx hb dX10_pastAt_24 (by decide) ?_
        refine lv_aload_n hx hb dX10_pastAt_40 rfl (lv_at hl 0 rfl) ?_
        refine gf_X10_55 C hW dX10_pastAt_41 ?_
        refine lv_iload_n hx hb dX10_pastAt_44 rfl (lv_at hl 1 rfl) ?_
        refine r_aald C hW q4 hi4 dX10_pastAt_45 ?_
        obtain ⟨rfl, rfl, rfl⟩ := retA hf
        rw [hQ]
        exact r_aretO C hr hk AGR.rf hW rfl (Nat.zero_le _) (Nat.zero_le _) dX10_pastAt_46
    · have hf := (if_neg c3).symm.trans hf
      refine lv_aload_n hx hb dX10_pastAt_13 rfl (lv_at hl 0 rfl) ?_
      refine gf_X10_64 C hW dX10_pastAt_14 ?_
      obtain ⟨hq6, hf⟩ := ce_of hf
      obtain ⟨rfl, rfl, rfl⟩ := retA hf
      rw [hQ]
      exact r_aretO C hr hk AGR.rf hW rfl (Nat.zero_le _) (Nat.zero_le _) dX10_pastAt_17
set_option maxHeartbeats 4000000 in
set_option maxRecDepth 100000 in
theorem cO_X10_remember {l : Launch} {D : va_G} {tc : Nat → ClassId} {ro : Ro} {oa : Ky → Nat} {sh : Sh} {lm : Nat → Nat} {μ : Mm} {sh' : Sh} {lm' : Nat → Nat} {μ' : Mm} {KC KS : Nat} (hwf : WfS sh) (h9 : sh 2 ((μ (0, 0) 9).toNatClampNeg) = 1) (h10 : sh 2 ((μ (0, 0) 10).toNatClampNeg) = 1) (hv : INV1 sh μ) (hf : f_X10_rememberO sh lm μ = some ((sh', lm', μ'), KC, KS)) : CtO l D tc ro oa yX10_remember cX10_remember 2 none (rma 8 220 KC KS) [.ref (oa (0, 0))] sh lm μ (fun _ => none) sh' lm' μ' := by
  refine CtO.of (by decide) (Nat.le_of_ble_eq_true rfl) (fun aa p e s m args below meth c A C hr hk hW ls hl => ?_)
  have hx := C.1.1
  have hb := C.1.2.1
  obtain ⟨Q, hQ⟩ : ∃ Q, Q = MQ below (Cto D tc oa (fun _ => none) sh sh' lm' μ' A) args s (rma 8 220 KC KS).cells (rma 8 220 KC KS).slots A := ⟨_, rfl⟩
  rw [← hQ]
  have hl : lv_has ls 2 [(0, .ref (oa (0, 0)))] := hl
  have hcs : 0 + KC ≤ KC ∧ 0 + KS ≤ KS := ⟨by omega, by omega⟩
  unfold f_X10_rememberO at hf
  refine lv_aload_n hx hb dX10_remember_0 rfl (lv_at hl 0 rfl) ?_
  refine lv_aload_n hx hb dX10_remember_1 rfl (lv_at hl 0 rfl) ?_
  refine gf_X10_367 C hW dX10_remember_2 ?_
  obtain ⟨x5, h5, hf⟩ := bd_of hf
  obtain ⟨⟨j5, sh5, μ5⟩, kc5, ks5⟩ := x5
  obtain ⟨kc1, ks1, hf, ek1, es1⟩ := addc_of hf
  have hcs := cs_add hcs ek1 es1
  have hwf2 : WfS sh5 := (pastO_wf (res := (j5, sh5, μ5)) hwf h5).1
  refine r_callO (k := ((0, 0) : Ky)) C hW hl lk_X10_370 (cO_X10_pastAt hwf h9 h10 hv h5) ⟨Nat.le_of_ble_eq_true rfl, Nat.le_of_ble_eq_true rfl⟩ rfl rfl rfl (As := [.int (μ (0, 0) 7)]) (rest := []) rfl rfl (Nat.le_of_ble_eq_true rfl) dX10_remember_5 (ca_le hcs) (fun oa2 aa H locs hg hW => ?_)
  rw [← hg.bv] at hl
  show W p l e (rma 8 220 KC KS) s m args below meth c H locs (0 + kc5) (0 + ks5) Q (F0 m 8 ls [.ref (oa2 (13, j5))])
  obtain ⟨hq1, hf⟩ := ce_of hf
  refine lv_astore_n (lv' := [(1, .ref (oa2 (13, j5))), (0, .ref (oa2 (0, 0)))]) hx hb dX10_remember_8 rfl hl (by decide) rfl (fun ls hl => ?_)
  refine lv_aload_n hx hb dX10_remember_9 rfl (lv_at hl 0 rfl) ?_
  refine lv_aload_n hx hb dX10_remember_10 rfl (lv_at hl 1 rfl) ?_
  refine gf_X10_60 C hW dX10_remember_11 ?_
  obtain ⟨hq2, hf⟩ := ce_of hf
  obtain ⟨x14, h14, hf⟩ := bd_of hf
  obtain ⟨kc2, ks2, hf, ek2, es2⟩ := addc_of hf
  have hcs := cs_add hcs ek2 es2
  refine r_callA (k := ((13, j5) : Ky)) C hW hl lk_X10_89 (cA_X6_become hwf2 hq1 hq2 h14) ⟨Nat.le_of_ble_eq_true rfl, Nat.le_of_ble_eq_true rfl⟩ rfl (faB_13 hq1) rfl (As := [.ref (oa2 (13, (μ5 (0, 0) 9).toNatClampNeg))]) (rest := []) rfl rfl (Nat.le_of_ble_eq_true rfl) dX10_remember_14 (ca_le hcs) (fun aa H locs hW => ?_)
  obtain ⟨Xm, hXm⟩ : ∃ Xm, Xm = x14.1.2.2 := ⟨_, rfl⟩
  rw [← hXm] at hW hf
  show W p l e (rma 8 220 KC KS) s m args below meth c H locs (0 + kc5 + x14.2.1) (0 + ks5 + x14.2.2) Q (F0 m 17 ls [])
  obtain ⟨μ4, hm4, hf⟩ := bd_of hf
  have hm4 := Option.some.inj hm4
  obtain ⟨hq5, hf⟩ := ce_of hf
  obtain ⟨eo, ek3, es3⟩ := retA hf
  obtain ⟨rfl, rfl, rfl⟩ : sh5 = sh' ∧ x14.1.2.1 = lm' ∧ mst μ4 (13, (μ4 (0, 0) 9).toNatClampNeg) 7 (1 : Int32) = μ' := by cases eo; exact ⟨rfl, rfl, rfl⟩
  have tail : ∀ (v : Int32) (H : Heap) (locs : List Loc), v = (if (8 : Int32) ≤ ((Xm (0, 0) 7) + (1 : Int32)) then (0 : Int32) else ((Xm (0, 0) 7) + (1 : Int32))) → Wd D (faB oa2 aa sh5) (feB tc oa2 aa sh5 x14.1.2.1) A s.heap (mst Xm (0, 0) 7 v) H locs → W p l e (rma 8 220 KC KS) s m args below meth c H locs (0 + kc5 + x14.2.1) (0 + ks5 + x14.2.2) Q (F0 m 42 ls []) := by
    intro v H locs hv hW
    refine lv_aload_n hx hb dX10_remember_42 rfl (lv_at hl 1 rfl) ?_
    refine lv_aload_n hx hb dX10_remember_43 rfl (lv_at hl 1 rfl) ?_
    refine gf_X10_364 C hW dX10_remember_44 ?_
    refine lv_iconst (v := 1) hx hb dX10_remember_47 (by decide) ?_
    refine lv_iadd hx hb dX10_remember_48 ?_
    refine lv_bipush (v := 8) hx hb dX10_remember_49 (by decide) ?_
    refine r_mmin C hl kw_581 kw_560 kw_140 kw_561 (Nat.le_of_ble_eq_true rfl) (Nat.le_of_ble_eq_true rfl) (ca_le hcs) dX10_remember_51 ?_
    refine pf_X10_364 C hW dX10_remember_54 (fun H locs hW => ?_)
    have e8 : mst Xm (0, 0) 7 v (0, 0) 8 = Xm (0, 0) 8 := rfl
    have hW : Wd D (faB oa2 aa sh5) (feB tc oa2 aa sh5 x14.1.2.1) A s.heap (mst (mst Xm (0, 0) 7 v) (0, 0) 8 (if (8 : Int32) < ((Xm (0, 0) 8) + (1 : Int32)) then (8 : Int32) else ((Xm (0, 0) 8) + (1 : Int32)))) H locs := hW
    rw [hv, hm4] at hW
    refine lv_aload_n hx hb dX10_remember_57 rfl (lv_at hl 1 rfl) ?_
    refine gf_X10_60 C hW dX10_remember_58 ?_
    refine lv_iconst (v := 1) hx hb dX10_remember_61 (by decide) ?_
    refine pf_X10_374 C hW hq5 rfl rfl dX10_remember_62 (fun H locs hW => ?_)
    rw [hQ]
    exact r_vretO C hr hk hg hW rfl (cs_end hcs).1 (cs_end hcs).2 dX10_remember_65
  refine lv_aload_n hx hb dX10_remember_17 rfl (lv_at hl 1 rfl) ?_
  refine lv_aload_n hx hb dX10_remember_18 rfl (lv_at hl 1 rfl) ?_
  refine gf_X10_367 C hW dX10_remember_19 ?_
  refine lv_iconst (v := 1) hx hb dX10_remember_22 (by decide) ?_
  refine lv_iadd hx hb dX10_remember_23 ?_
  refine lv_bipush (v := 8) hx hb dX10_remember_24 (by decide) ?_
  refine lv_icmp_ge (tgt := 38) hx hb dX10_remember_26 (by decide) (fun c3 => ?_) (fun c3 => ?_)
  · refine lv_iconst (v := 0) hx hb dX10_remember_38 (by decide) ?_
    refine pf_X10_367 C hW dX10_remember_39 (fun H locs hW => ?_)
    exact tail _ _ _ (if_pos c3).symm hW
  · refine lv_aload_n hx hb dX10_remember_29 rfl (lv_at hl 1 rfl) ?_
    refine gf_X10_367 C hW dX10_remember_30 ?_
    refine lv_iconst (v := 1) hx hb dX10_remember_33 (by decide) ?_
    refine lv_iadd hx hb dX10_remember_34 ?_
    refine lv_goto (tgt := 39) hx hb dX10_remember_35 (by decide) ?_
    refine pf_X10_367 C hW dX10_remember_39 (fun H locs hW => ?_)
    exact tail _ _ _ (if_neg c3).symm hW

set_option maxHeartbeats 4000000 in
set_option maxRecDepth 100000 in
theorem cO_X10_treat {l : Launch} {D : va_G} {tc : Nat → ClassId} {ro : Ro} {oa : Ky → Nat} {sh : Sh} {ln : Nat → Nat} {μ : Mm} {v1 v2 v3 : Int32} {x : Int32} {sh' : Sh} {lm' : Nat → Nat} {μ' : Mm} {KC KS : Nat} (hwf : WfS sh) (hd9 : sh 2 ((μ (0, 0) 9).toNatClampNeg) = 1) (hd10 : sh 2 ((μ (0, 0) 10).toNatClampNeg) = 1) (hv : INV1 sh μ) (hf : g_X10_treat sh ln μ v1 v2 v3 = some ((.inl x, sh', lm', μ'), KC, KS)) : CtO l D tc ro oa yX10_treat cX10_treat 4 (some .int) (rma 12 330 KC KS) [.ref (oa (0, 0)), .int v1, .int v2, .int v3] sh ln μ (fun _ => some (.int x)) sh' lm' μ' := by
  refine CtO.of (by decide) (Nat.le_of_ble_eq_true rfl) (fun aa p e s m args below meth c A C hr hk hW ls hl => ?_)
  have hx := C.1.1
  have hb := C.1.2.1
  obtain ⟨Q, hQ⟩ : ∃ Q, Q = MQ below (Cto D tc oa (fun _ => some (.int x)) sh sh' lm' μ' A) args s (rma 12 330 KC KS).cells (rma 12 330 KC KS).slots A := ⟨_, rfl⟩
  rw [← hQ]
  have hl : lv_has ls 4 [(0, .ref (oa (0, 0))), (1, .int v1), (2, .int v2), (3, .int v3)] := hl
  have hcs : 0 + KC ≤ KC ∧ 0 + KS ≤ KS := ⟨by omega, by omega⟩
  unfold g_X10_treat at hf
  refine lv_aload_n hx hb dX10_treat_0 rfl (lv_at hl 0 rfl) ?_
  refine lv_iload_n hx hb dX10_treat_1 rfl (lv_at hl 1 rfl) ?_
  obtain ⟨h2, hf⟩ := xbO_inl hf
  refine r_callV (k := ((0, 0) : Ky)) C hW hl lk_X10_141 (c_X10_needPerson hwf (gn_needPerson h2)) ⟨rfl, rfl⟩ ⟨Nat.le_of_ble_eq_true rfl, Nat.le_of_ble_eq_true rfl⟩ rfl rfl rfl (As := [.int v1]) (rest := []) rfl rfl (Nat.le_of_ble_eq_true rfl) dX10_treat_2 ⟨Nat.zero_le _, Nat.zero_le _⟩ (fun H locs hW => ?_)
  show W p l e (rma 12 330 KC KS) s m args below meth c H locs 0 0 Q (F0 m 5 ls [])
  refine lv_aload_n hx hb dX10_treat_5 rfl (lv_at hl 0 rfl) ?_
  refine lv_iload_n hx hb dX10_treat_6 rfl (lv_at hl 2 rfl) ?_
  obtain ⟨h7, hf⟩ := xbO_inl hf
  refine r_callV (k := ((0, 0) : Ky)) C hW hl lk_X10_141 (c_X10_needPerson hwf (gn_needPerson h7)) ⟨rfl, rfl⟩ ⟨Nat.le_of_ble_eq_true rfl, Nat.le_of_ble_eq_true rfl⟩ rfl rfl rfl (As := [.int v2]) (rest := []) rfl rfl (Nat.le_of_ble_eq_true rfl) dX10_treat_7 ⟨Nat.zero_le _, Nat.zero_le _⟩ (fun H locs hW => ?_)
  show W p l e (rma 12 330 KC KS) s m args below meth c H locs 0 0 Q (F0 m 10 ls [])
  refine lv_aload_n hx hb dX10_treat_10 rfl (lv_at hl 0 rfl) ?_
  refine lv_iload_n hx hb dX10_treat_11 rfl (lv_at hl 1 rfl) ?_
  refine lv_iload_n hx hb dX10_treat_12 rfl (lv_at hl 2 rfl) ?_
  obtain ⟨h13, hf⟩ := xbO_inl hf
  refine r_callV (k := ((0, 0) : Ky)) C hW hl lk_X10_194 (c_X10_needTwo (gn_needTwo h13)) ⟨rfl, rfl⟩ ⟨Nat.le_of_ble_eq_true rfl, Nat.le_of_ble_eq_true rfl⟩ rfl rfl rfl (As := [.int v1, .int v2]) (rest := []) rfl rfl (Nat.le_of_ble_eq_true rfl) dX10_treat_13 ⟨Nat.zero_le _, Nat.zero_le _⟩ (fun H locs hW => ?_)
  show W p l e (rma 12 330 KC KS) s m args below meth c H locs 0 0 Q (F0 m 16 ls [])
  refine lv_aload_n hx hb dX10_treat_16 rfl (lv_at hl 0 rfl) ?_
  refine lv_iload_n hx hb dX10_treat_17 rfl (lv_at hl 1 rfl) ?_
  refine lv_iload_n hx hb dX10_treat_18 rfl (lv_at hl 2 rfl) ?_
  obtain ⟨h19, hf⟩ := xbO_inl hf
  refine r_callV (k := ((0, 0) : Ky)) C hW hl lk_X10_198 (c_X10_needSight hwf (gn_needSight h19)) ⟨rfl, rfl⟩ ⟨Nat.le_of_ble_eq_true rfl, Nat.le_of_ble_eq_true rfl⟩ rfl rfl rfl (As := [.int v1, .int v2]) (rest := []) rfl rfl (Nat.le_of_ble_eq_true rfl) dX10_treat_19 ⟨Nat.zero_le _, Nat.zero_le _⟩ (fun H locs hW => ?_)
  show W p l e (rma 12 330 KC KS) s m args below meth c H locs 0 0 Q (F0 m 22 ls [])
  refine lv_aload_n hx hb dX10_treat_22 rfl (lv_at hl 0 rfl) ?_
  unfold actO at hf
  obtain ⟨z9, hz9, hf⟩ := bd_of hf
  obtain ⟨⟨sh9, ln9, μ9⟩, kc9, ks9⟩ := z9
  obtain ⟨kc1, ks1, hf, ek1, es1⟩ := addc_of hf
  have hcs := cs_add hcs ek1 es1
  have hwf2 : WfS sh9 := (remO_wf hwf hz9).1
  refine r_callO (k := ((0, 0) : Ky)) C hW hl lk_X10_208 (cO_X10_remember hwf hd9 hd10 hv hz9) ⟨Nat.le_of_ble_eq_true rfl, Nat.le_of_ble_eq_true rfl⟩ rfl rfl rfl (As := []) (rest := []) rfl rfl (Nat.le_of_ble_eq_true rfl) dX10_treat_23 (ca_le hcs) (fun oa2 aa H locs hg hW => ?_)
  rw [← hg.bv] at hl
  show W p l e (rma 12 330 KC KS) s m args below meth c H locs (0 + kc9) (0 + ks9) Q (F0 m 26 ls [])
  obtain ⟨hq9, hf⟩ := ce_of hf
  refine lv_aload_n hx hb dX10_treat_26 rfl (lv_at hl 0 rfl) ?_
  refine gf_X10_28 C hW dX10_treat_27 ?_
  refine lv_aload_n hx hb dX10_treat_30 rfl (lv_at hl 0 rfl) ?_
  refine gf_X10_60 C hW dX10_treat_31 ?_
  refine lv_iload_n hx hb dX10_treat_34 rfl (lv_at hl 1 rfl) ?_
  refine lv_iload_n hx hb dX10_treat_35 rfl (lv_at hl 2 rfl) ?_
  refine lv_iload_n hx hb dX10_treat_36 rfl (lv_at hl 3 rfl) ?_
  obtain ⟨y9, hy9, hf⟩ := bd_of hf
  obtain ⟨kc2, ks2, hf, ek2, es2⟩ := addc_of hf
  have hcs := cs_add hcs ek2 es2
  refine r_callA (k := ((4, 0) : Ky)) C hW hl lk_X10_211 (cA_X0_treatOne hwf2 hq9 hy9) ⟨Nat.le_of_ble_eq_true rfl, Nat.le_of_ble_eq_true rfl⟩ rfl rfl rfl (As := [.ref (oa2 (13, (μ9 (0, 0) 9).toNatClampNeg)), .int v1, .int v2, .int v3]) (rest := []) rfl rfl (Nat.le_of_ble_eq_true rfl) dX10_treat_37 (ca_le hcs) (fun aa H locs hW => ?_)
  obtain ⟨eo, ek3, es3⟩ := retA hf
  obtain ⟨rfl, rfl, rfl, rfl⟩ : y9.1.1 = x ∧ sh9 = sh' ∧ y9.1.2.1 = lm' ∧ y9.1.2.2 = μ' := by cases eo; exact ⟨rfl, rfl, rfl, rfl⟩
  rw [hQ]
  exact r_iretO C hr hk hg hW rfl (cs_end hcs).1 (cs_end hcs).2 dX10_treat_40
set_option maxHeartbeats 4000000 in
set_option maxRecDepth 100000 in
theorem cO_X10_turn {l : Launch} {D : va_G} {tc : Nat → ClassId} {ro : Ro} {oa : Ky → Nat} {sh : Sh} {ln : Nat → Nat} {μ : Mm} {v1 v2 : Int32} {x : Int32} {sh' : Sh} {lm' : Nat → Nat} {μ' : Mm} {KC KS : Nat} (hwf : WfS sh) (hd9 : sh 2 ((μ (0, 0) 9).toNatClampNeg) = 1) (hd10 : sh 2 ((μ (0, 0) 10).toNatClampNeg) = 1) (hv : INV1 sh μ) (hf : g_X10_turn sh ln μ v1 v2 = some ((.inl x, sh', lm', μ'), KC, KS)) : CtO l D tc ro oa yX10_turn cX10_turn 3 (some .int) (rma 12 330 KC KS) [.ref (oa (0, 0)), .int v1, .int v2] sh ln μ (fun _ => some (.int x)) sh' lm' μ' := by
  refine CtO.of (by decide) (Nat.le_of_ble_eq_true rfl) (fun aa p e s m args below meth c A C hr hk hW ls hl => ?_)
  have hx := C.1.1
  have hb := C.1.2.1
  obtain ⟨Q, hQ⟩ : ∃ Q, Q = MQ below (Cto D tc oa (fun _ => some (.int x)) sh sh' lm' μ' A) args s (rma 12 330 KC KS).cells (rma 12 330 KC KS).slots A := ⟨_, rfl⟩
  rw [← hQ]
  have hl : lv_has ls 3 [(0, .ref (oa (0, 0))), (1, .int v1), (2, .int v2)] := hl
  have hcs : 0 + KC ≤ KC ∧ 0 + KS ≤ KS := ⟨by omega, by omega⟩
  unfold g_X10_turn at hf
  refine lv_aload_n hx hb dX10_turn_0 rfl (lv_at hl 0 rfl) ?_
  refine lv_iload_n hx hb dX10_turn_1 rfl (lv_at hl 1 rfl) ?_
  obtain ⟨h2, hf⟩ := xbO_inl hf
  refine r_callV (k := ((0, 0) : Ky)) C hW hl lk_X10_141 (c_X10_needPerson hwf (gn_needPerson h2)) ⟨rfl, rfl⟩ ⟨Nat.le_of_ble_eq_true rfl, Nat.le_of_ble_eq_true rfl⟩ rfl rfl rfl (As := [.int v1]) (rest := []) rfl rfl (Nat.le_of_ble_eq_true rfl) dX10_turn_2 ⟨Nat.zero_le _, Nat.zero_le _⟩ (fun H locs hW => ?_)
  show W p l e (rma 12 330 KC KS) s m args below meth c H locs 0 0 Q (F0 m 5 ls [])
  refine lv_aload_n hx hb dX10_turn_5 rfl (lv_at hl 0 rfl) ?_
  refine lv_iload_n hx hb dX10_turn_6 rfl (lv_at hl 2 rfl) ?_
  obtain ⟨h7, hf⟩ := xbO_inl hf
  refine r_callV (k := ((0, 0) : Ky)) C hW hl lk_X10_141 (c_X10_needPerson hwf (gn_needPerson h7)) ⟨rfl, rfl⟩ ⟨Nat.le_of_ble_eq_true rfl, Nat.le_of_ble_eq_true rfl⟩ rfl rfl rfl (As := [.int v2]) (rest := []) rfl rfl (Nat.le_of_ble_eq_true rfl) dX10_turn_7 ⟨Nat.zero_le _, Nat.zero_le _⟩ (fun H locs hW => ?_)
  show W p l e (rma 12 330 KC KS) s m args below meth c H locs 0 0 Q (F0 m 10 ls [])
  refine lv_aload_n hx hb dX10_turn_10 rfl (lv_at hl 0 rfl) ?_
  unfold actO at hf
  obtain ⟨z9, hz9, hf⟩ := bd_of hf
  obtain ⟨⟨sh9, ln9, μ9⟩, kc9, ks9⟩ := z9
  obtain ⟨kc1, ks1, hf, ek1, es1⟩ := addc_of hf
  have hcs := cs_add hcs ek1 es1
  have hwf2 : WfS sh9 := (remO_wf hwf hz9).1
  refine r_callO (k := ((0, 0) : Ky)) C hW hl lk_X10_208 (cO_X10_remember hwf hd9 hd10 hv hz9) ⟨Nat.le_of_ble_eq_true rfl, Nat.le_of_ble_eq_true rfl⟩ rfl rfl rfl (As := []) (rest := []) rfl rfl (Nat.le_of_ble_eq_true rfl) dX10_turn_11 (ca_le hcs) (fun oa2 aa H locs hg hW => ?_)
  rw [← hg.bv] at hl
  show W p l e (rma 12 330 KC KS) s m args below meth c H locs (0 + kc9) (0 + ks9) Q (F0 m 14 ls [])
  obtain ⟨hq9, hf⟩ := ce_of hf
  refine lv_aload_n hx hb dX10_turn_14 rfl (lv_at hl 0 rfl) ?_
  refine gf_X10_28 C hW dX10_turn_15 ?_
  refine lv_aload_n hx hb dX10_turn_18 rfl (lv_at hl 0 rfl) ?_
  refine gf_X10_60 C hW dX10_turn_19 ?_
  refine lv_iload_n hx hb dX10_turn_22 rfl (lv_at hl 1 rfl) ?_
  refine lv_iload_n hx hb dX10_turn_23 rfl (lv_at hl 2 rfl) ?_
  obtain ⟨y9, hy9, hf⟩ := bd_of hf
  obtain ⟨kc2, ks2, hf, ek2, es2⟩ := addc_of hf
  have hcs := cs_add hcs ek2 es2
  refine r_callA (k := ((4, 0) : Ky)) C hW hl lk_X10_215 (cA_X0_turnTo hwf2 hq9 hy9) ⟨Nat.le_of_ble_eq_true rfl, Nat.le_of_ble_eq_true rfl⟩ rfl rfl rfl (As := [.ref (oa2 (13, (μ9 (0, 0) 9).toNatClampNeg)), .int v1, .int v2]) (rest := []) rfl rfl (Nat.le_of_ble_eq_true rfl) dX10_turn_24 (ca_le hcs) (fun aa H locs hW => ?_)
  obtain ⟨eo, ek3, es3⟩ := retA hf
  obtain ⟨rfl, rfl, rfl, rfl⟩ : y9.1.1 = x ∧ sh9 = sh' ∧ y9.1.2.1 = lm' ∧ y9.1.2.2 = μ' := by cases eo; exact ⟨rfl, rfl, rfl, rfl⟩
  rw [hQ]
  exact r_iretO C hr hk hg hW rfl (cs_end hcs).1 (cs_end hcs).2 dX10_turn_27
set_option maxHeartbeats 4000000 in
set_option maxRecDepth 100000 in
theorem cO_X10_ask {l : Launch} {D : va_G} {tc : Nat → ClassId} {ro : Ro} {oa : Ky → Nat} {sh : Sh} {ln : Nat → Nat} {μ : Mm} {v1 : Int32} {x : Int32} {sh' : Sh} {lm' : Nat → Nat} {μ' : Mm} {KC KS : Nat} (hwf : WfS sh) (hd9 : sh 2 ((μ (0, 0) 9).toNatClampNeg) = 1) (hd10 : sh 2 ((μ (0, 0) 10).toNatClampNeg) = 1) (hv : INV1 sh μ) (hf : g_X10_ask sh ln μ v1 = some ((.inl x, sh', lm', μ'), KC, KS)) : CtO l D tc ro oa yX10_ask cX10_ask 2 (some .boolean) (rma 12 330 KC KS) [.ref (oa (0, 0)), .int v1] sh ln μ (fun _ => some (.int x)) sh' lm' μ' := by
  refine CtO.of (by decide) (Nat.le_of_ble_eq_true rfl) (fun aa p e s m args below meth c A C hr hk hW ls hl => ?_)
  have hx := C.1.1
  have hb := C.1.2.1
  obtain ⟨Q, hQ⟩ : ∃ Q, Q = MQ below (Cto D tc oa (fun _ => some (.int x)) sh sh' lm' μ' A) args s (rma 12 330 KC KS).cells (rma 12 330 KC KS).slots A := ⟨_, rfl⟩
  rw [← hQ]
  have hl : lv_has ls 2 [(0, .ref (oa (0, 0))), (1, .int v1)] := hl
  have hcs : 0 + KC ≤ KC ∧ 0 + KS ≤ KS := ⟨by omega, by omega⟩
  unfold g_X10_ask at hf
  refine lv_aload_n hx hb dX10_ask_0 rfl (lv_at hl 0 rfl) ?_
  refine lv_iload_n hx hb dX10_ask_1 rfl (lv_at hl 1 rfl) ?_
  obtain ⟨h2, hf⟩ := xbO_inl hf
  refine r_callV (k := ((0, 0) : Ky)) C hW hl lk_X10_141 (c_X10_needPerson hwf (gn_needPerson h2)) ⟨rfl, rfl⟩ ⟨Nat.le_of_ble_eq_true rfl, Nat.le_of_ble_eq_true rfl⟩ rfl rfl rfl (As := [.int v1]) (rest := []) rfl rfl (Nat.le_of_ble_eq_true rfl) dX10_ask_2 ⟨Nat.zero_le _, Nat.zero_le _⟩ (fun H locs hW => ?_)
  show W p l e (rma 12 330 KC KS) s m args below meth c H locs 0 0 Q (F0 m 5 ls [])
  refine lv_aload_n hx hb dX10_ask_5 rfl (lv_at hl 0 rfl) ?_
  unfold actO at hf
  obtain ⟨z9, hz9, hf⟩ := bd_of hf
  obtain ⟨⟨sh9, ln9, μ9⟩, kc9, ks9⟩ := z9
  obtain ⟨kc1, ks1, hf, ek1, es1⟩ := addc_of hf
  have hcs := cs_add hcs ek1 es1
  have hwf2 : WfS sh9 := (remO_wf hwf hz9).1
  refine r_callO (k := ((0, 0) : Ky)) C hW hl lk_X10_208 (cO_X10_remember hwf hd9 hd10 hv hz9) ⟨Nat.le_of_ble_eq_true rfl, Nat.le_of_ble_eq_true rfl⟩ rfl rfl rfl (As := []) (rest := []) rfl rfl (Nat.le_of_ble_eq_true rfl) dX10_ask_6 (ca_le hcs) (fun oa2 aa H locs hg hW => ?_)
  rw [← hg.bv] at hl
  show W p l e (rma 12 330 KC KS) s m args below meth c H locs (0 + kc9) (0 + ks9) Q (F0 m 9 ls [])
  obtain ⟨hq9, hf⟩ := ce_of hf
  refine lv_aload_n hx hb dX10_ask_9 rfl (lv_at hl 0 rfl) ?_
  refine gf_X10_28 C hW dX10_ask_10 ?_
  refine lv_aload_n hx hb dX10_ask_13 rfl (lv_at hl 0 rfl) ?_
  refine gf_X10_60 C hW dX10_ask_14 ?_
  refine lv_iload_n hx hb dX10_ask_17 rfl (lv_at hl 1 rfl) ?_
  obtain ⟨y9, hy9, hf⟩ := bd_of hf
  obtain ⟨kc2, ks2, hf, ek2, es2⟩ := addc_of hf
  have hcs := cs_add hcs ek2 es2
  refine r_callA (k := ((4, 0) : Ky)) C hW hl lk_X10_219 (cA_X0_askOne hwf2 hq9 hy9) ⟨Nat.le_of_ble_eq_true rfl, Nat.le_of_ble_eq_true rfl⟩ rfl rfl rfl (As := [.ref (oa2 (13, (μ9 (0, 0) 9).toNatClampNeg)), .int v1]) (rest := []) rfl rfl (Nat.le_of_ble_eq_true rfl) dX10_ask_18 (ca_le hcs) (fun aa H locs hW => ?_)
  obtain ⟨eo, ek3, es3⟩ := retA hf
  obtain ⟨rfl, rfl, rfl, rfl⟩ : y9.1.1 = x ∧ sh9 = sh' ∧ y9.1.2.1 = lm' ∧ y9.1.2.2 = μ' := by cases eo; exact ⟨rfl, rfl, rfl, rfl⟩
  rw [hQ]
  exact r_zretO C hr hk hg hW (askOne_b hy9) rfl (cs_end hcs).1 (cs_end hcs).2 dX10_ask_21
set_option maxHeartbeats 4000000 in
set_option maxRecDepth 100000 in
theorem cO_X10_day {l : Launch} {D : va_G} {tc : Nat → ClassId} {ro : Ro} {oa : Ky → Nat} {sh : Sh} {ln : Nat → Nat} {μ : Mm} {x : Int32} {sh' : Sh} {lm' : Nat → Nat} {μ' : Mm} {KC KS : Nat} (hwf : WfS sh) (hd9 : sh 2 ((μ (0, 0) 9).toNatClampNeg) = 1) (hd10 : sh 2 ((μ (0, 0) 10).toNatClampNeg) = 1) (hv : INV1 sh μ) (hf : g_X10_day sh ln μ = some ((.inl x, sh', lm', μ'), KC, KS)) : CtO l D tc ro oa yX10_day cX10_day 1 (some .int) (rma 12 330 KC KS) [.ref (oa (0, 0))] sh ln μ (fun _ => some (.int x)) sh' lm' μ' := by
  refine CtO.of (by decide) (Nat.le_of_ble_eq_true rfl) (fun aa p e s m args below meth c A C hr hk hW ls hl => ?_)
  have hx := C.1.1
  have hb := C.1.2.1
  obtain ⟨Q, hQ⟩ : ∃ Q, Q = MQ below (Cto D tc oa (fun _ => some (.int x)) sh sh' lm' μ' A) args s (rma 12 330 KC KS).cells (rma 12 330 KC KS).slots A := ⟨_, rfl⟩
  rw [← hQ]
  have hl : lv_has ls 1 [(0, .ref (oa (0, 0)))] := hl
  have hcs : 0 + KC ≤ KC ∧ 0 + KS ≤ KS := ⟨by omega, by omega⟩
  unfold g_X10_day at hf
  refine lv_aload_n hx hb dX10_day_0 rfl (lv_at hl 0 rfl) ?_
  unfold actO at hf
  obtain ⟨z9, hz9, hf⟩ := bd_of hf
  obtain ⟨⟨sh9, ln9, μ9⟩, kc9, ks9⟩ := z9
  obtain ⟨kc1, ks1, hf, ek1, es1⟩ := addc_of hf
  have hcs := cs_add hcs ek1 es1
  have hwf2 : WfS sh9 := (remO_wf hwf hz9).1
  refine r_callO (k := ((0, 0) : Ky)) C hW hl lk_X10_208 (cO_X10_remember hwf hd9 hd10 hv hz9) ⟨Nat.le_of_ble_eq_true rfl, Nat.le_of_ble_eq_true rfl⟩ rfl rfl rfl (As := []) (rest := []) rfl rfl (Nat.le_of_ble_eq_true rfl) dX10_day_1 (ca_le hcs) (fun oa2 aa H locs hg hW => ?_)
  rw [← hg.bv] at hl
  show W p l e (rma 12 330 KC KS) s m args below meth c H locs (0 + kc9) (0 + ks9) Q (F0 m 4 ls [])
  obtain ⟨hq9, hf⟩ := ce_of hf
  refine lv_aload_n hx hb dX10_day_4 rfl (lv_at hl 0 rfl) ?_
  refine gf_X10_28 C hW dX10_day_5 ?_
  refine lv_aload_n hx hb dX10_day_8 rfl (lv_at hl 0 rfl) ?_
  refine gf_X10_60 C hW dX10_day_9 ?_
  obtain ⟨y9, hy9, hf⟩ := bd_of hf
  obtain ⟨kc2, ks2, hf, ek2, es2⟩ := addc_of hf
  have hcs := cs_add hcs ek2 es2
  refine r_callA (k := ((4, 0) : Ky)) C hW hl lk_X10_223 (cA_X0_askAll hwf2 hq9 hy9) ⟨Nat.le_of_ble_eq_true rfl, Nat.le_of_ble_eq_true rfl⟩ rfl rfl rfl (As := [.ref (oa2 (13, (μ9 (0, 0) 9).toNatClampNeg))]) (rest := []) rfl rfl (Nat.le_of_ble_eq_true rfl) dX10_day_12 (ca_le hcs) (fun aa H locs hW => ?_)
  obtain ⟨eo, ek3, es3⟩ := retA hf
  obtain ⟨rfl, rfl, rfl, rfl⟩ : y9.1.1 = x ∧ sh9 = sh' ∧ y9.1.2.1 = lm' ∧ y9.1.2.2 = μ' := by cases eo; exact ⟨rfl, rfl, rfl, rfl⟩
  rw [hQ]
  exact r_iretO C hr hk hg hW rfl (cs_end hcs).1 (cs_end hcs).2 dX10_day_15
set_option maxHeartbeats 4000000 in
set_option maxRecDepth 100000 in
theorem cO_X10_read {l : Launch} {D : va_G} {tc : Nat → ClassId} {ro : Ro} {oa : Ky → Nat} {sh : Sh} {ln : Nat → Nat} {μ : Mm} {v1 : Int32} {x : Int32} {sh' : Sh} {lm' : Nat → Nat} {μ' : Mm} {KC KS : Nat} (hwf : WfS sh) (hd9 : sh 2 ((μ (0, 0) 9).toNatClampNeg) = 1) (hd10 : sh 2 ((μ (0, 0) 10).toNatClampNeg) = 1) (hv : INV1 sh μ) (hf : g_X10_read sh ln μ v1 = some ((.inl x, sh', lm', μ'), KC, KS)) : CtO l D tc ro oa yX10_read cX10_read 2 (some .int) (rma 12 330 KC KS) [.ref (oa (0, 0)), .int v1] sh ln μ (fun _ => some (.int x)) sh' lm' μ' := by
  refine CtO.of (by decide) (Nat.le_of_ble_eq_true rfl) (fun aa p e s m args below meth c A C hr hk hW ls hl => ?_)
  have hx := C.1.1
  have hb := C.1.2.1
  obtain ⟨Q, hQ⟩ : ∃ Q, Q = MQ below (Cto D tc oa (fun _ => some (.int x)) sh sh' lm' μ' A) args s (rma 12 330 KC KS).cells (rma 12 330 KC KS).slots A := ⟨_, rfl⟩
  rw [← hQ]
  have hl : lv_has ls 2 [(0, .ref (oa (0, 0))), (1, .int v1)] := hl
  have hcs : 0 + KC ≤ KC ∧ 0 + KS ≤ KS := ⟨by omega, by omega⟩
  unfold g_X10_read at hf
  refine lv_aload_n hx hb dX10_read_0 rfl (lv_at hl 0 rfl) ?_
  refine lv_iload_n hx hb dX10_read_1 rfl (lv_at hl 1 rfl) ?_
  obtain ⟨h2, hf⟩ := xbO_inl hf
  refine r_callV (k := ((0, 0) : Ky)) C hW hl lk_X10_141 (c_X10_needPerson hwf (gn_needPerson h2)) ⟨rfl, rfl⟩ ⟨Nat.le_of_ble_eq_true rfl, Nat.le_of_ble_eq_true rfl⟩ rfl rfl rfl (As := [.int v1]) (rest := []) rfl rfl (Nat.le_of_ble_eq_true rfl) dX10_read_2 ⟨Nat.zero_le _, Nat.zero_le _⟩ (fun H locs hW => ?_)
  show W p l e (rma 12 330 KC KS) s m args below meth c H locs 0 0 Q (F0 m 5 ls [])
  refine lv_aload_n hx hb dX10_read_5 rfl (lv_at hl 0 rfl) ?_
  unfold actO at hf
  obtain ⟨z9, hz9, hf⟩ := bd_of hf
  obtain ⟨⟨sh9, ln9, μ9⟩, kc9, ks9⟩ := z9
  obtain ⟨kc1, ks1, hf, ek1, es1⟩ := addc_of hf
  have hcs := cs_add hcs ek1 es1
  have hwf2 : WfS sh9 := (remO_wf hwf hz9).1
  refine r_callO (k := ((0, 0) : Ky)) C hW hl lk_X10_208 (cO_X10_remember hwf hd9 hd10 hv hz9) ⟨Nat.le_of_ble_eq_true rfl, Nat.le_of_ble_eq_true rfl⟩ rfl rfl rfl (As := []) (rest := []) rfl rfl (Nat.le_of_ble_eq_true rfl) dX10_read_6 (ca_le hcs) (fun oa2 aa H locs hg hW => ?_)
  rw [← hg.bv] at hl
  show W p l e (rma 12 330 KC KS) s m args below meth c H locs (0 + kc9) (0 + ks9) Q (F0 m 9 ls [])
  obtain ⟨hq9, hf⟩ := ce_of hf
  refine lv_aload_n hx hb dX10_read_9 rfl (lv_at hl 0 rfl) ?_
  refine gf_X10_28 C hW dX10_read_10 ?_
  refine lv_aload_n hx hb dX10_read_13 rfl (lv_at hl 0 rfl) ?_
  refine gf_X10_60 C hW dX10_read_14 ?_
  refine lv_iload_n hx hb dX10_read_17 rfl (lv_at hl 1 rfl) ?_
  obtain ⟨y9, hy9, hf⟩ := bd_of hf
  obtain ⟨kc2, ks2, hf, ek2, es2⟩ := addc_of hf
  have hcs := cs_add hcs ek2 es2
  refine r_callA (k := ((4, 0) : Ky)) C hW hl lk_X10_227 (cA_X0_readOut hwf2 hq9 hy9) ⟨Nat.le_of_ble_eq_true rfl, Nat.le_of_ble_eq_true rfl⟩ rfl rfl rfl (As := [.ref (oa2 (13, (μ9 (0, 0) 9).toNatClampNeg)), .int v1]) (rest := []) rfl rfl (Nat.le_of_ble_eq_true rfl) dX10_read_18 (ca_le hcs) (fun aa H locs hW => ?_)
  obtain ⟨eo, ek3, es3⟩ := retA hf
  obtain ⟨rfl, rfl, rfl, rfl⟩ : y9.1.1 = x ∧ sh9 = sh' ∧ y9.1.2.1 = lm' ∧ y9.1.2.2 = μ' := by cases eo; exact ⟨rfl, rfl, rfl, rfl⟩
  rw [hQ]
  exact r_iretO C hr hk hg hW rfl (cs_end hcs).1 (cs_end hcs).2 dX10_read_21
set_option maxHeartbeats 4000000 in
set_option maxRecDepth 100000 in
theorem cO_X10_claim {l : Launch} {D : va_G} {tc : Nat → ClassId} {ro : Ro} {oa : Ky → Nat} {sh : Sh} {ln : Nat → Nat} {μ : Mm} {v1 v2 : Int32} {x : Int32} {sh' : Sh} {lm' : Nat → Nat} {μ' : Mm} {KC KS : Nat} (hwf : WfS sh) (hd9 : sh 2 ((μ (0, 0) 9).toNatClampNeg) = 1) (hd10 : sh 2 ((μ (0, 0) 10).toNatClampNeg) = 1) (hv : INV1 sh μ) (hf : g_X10_claim sh ln μ v1 v2 = some ((.inl x, sh', lm', μ'), KC, KS)) : CtO l D tc ro oa yX10_claim cX10_claim 3 (some .int) (rma 12 330 KC KS) [.ref (oa (0, 0)), .int v1, .int v2] sh ln μ (fun _ => some (.int x)) sh' lm' μ' := by
  refine CtO.of (by decide) (Nat.le_of_ble_eq_true rfl) (fun aa p e s m args below meth c A C hr hk hW ls hl => ?_)
  have hx := C.1.1
  have hb := C.1.2.1
  obtain ⟨Q, hQ⟩ : ∃ Q, Q = MQ below (Cto D tc oa (fun _ => some (.int x)) sh sh' lm' μ' A) args s (rma 12 330 KC KS).cells (rma 12 330 KC KS).slots A := ⟨_, rfl⟩
  rw [← hQ]
  have hl : lv_has ls 3 [(0, .ref (oa (0, 0))), (1, .int v1), (2, .int v2)] := hl
  have hcs : 0 + KC ≤ KC ∧ 0 + KS ≤ KS := ⟨by omega, by omega⟩
  unfold g_X10_claim at hf
  refine lv_aload_n hx hb dX10_claim_0 rfl (lv_at hl 0 rfl) ?_
  refine lv_iload_n hx hb dX10_claim_1 rfl (lv_at hl 2 rfl) ?_
  obtain ⟨h2, hf⟩ := xbO_inl hf
  refine r_callV (k := ((0, 0) : Ky)) C hW hl lk_X10_230 (c_X10_needNotice hwf (gn_needNotice h2)) ⟨rfl, rfl⟩ ⟨Nat.le_of_ble_eq_true rfl, Nat.le_of_ble_eq_true rfl⟩ rfl rfl rfl (As := [.int v2]) (rest := []) rfl rfl (Nat.le_of_ble_eq_true rfl) dX10_claim_2 ⟨Nat.zero_le _, Nat.zero_le _⟩ (fun H locs hW => ?_)
  show W p l e (rma 12 330 KC KS) s m args below meth c H locs 0 0 Q (F0 m 5 ls [])
  refine lv_aload_n hx hb dX10_claim_5 rfl (lv_at hl 0 rfl) ?_
  refine lv_iload_n hx hb dX10_claim_6 rfl (lv_at hl 1 rfl) ?_
  refine lv_iconst (v := 0) hx hb dX10_claim_7 (by decide) ?_
  refine lv_bipush (v := 9) hx hb dX10_claim_8 (by decide) ?_
  obtain ⟨h10, hf⟩ := xbO_inl hf
  refine r_callV (k := ((0, 0) : Ky)) C hW hl lk_X10_233 (c_X10_needNumber (gn_needNumber h10)) ⟨rfl, rfl⟩ ⟨Nat.le_of_ble_eq_true rfl, Nat.le_of_ble_eq_true rfl⟩ rfl rfl rfl (As := [.int v1, .int (0 : Int32), .int (9 : Int32)]) (rest := []) rfl rfl (Nat.le_of_ble_eq_true rfl) dX10_claim_10 ⟨Nat.zero_le _, Nat.zero_le _⟩ (fun H locs hW => ?_)
  show W p l e (rma 12 330 KC KS) s m args below meth c H locs 0 0 Q (F0 m 13 ls [])
  refine lv_aload_n hx hb dX10_claim_13 rfl (lv_at hl 0 rfl) ?_
  refine gf_X10_60 C hW dX10_claim_14 ?_
  obtain ⟨hq1, hf⟩ := ce_of hf
  refine lv_aload_n hx hb dX10_claim_17 rfl (lv_at hl 0 rfl) ?_
  refine gf_X10_60 C hW dX10_claim_18 ?_
  have hq2 := hq1
  refine gf_X10_144 C hW hq2 dX10_claim_21 ?_
  refine lv_iload_n hx hb dX10_claim_24 rfl (lv_at hl 2 rfl) ?_
  obtain ⟨x25, h25, hf⟩ := bd_of hf
  refine r_callV (k := ((13, (μ (0, 0) 9).toNatClampNeg) : Ky)) C hW hl lk_X10_237 (c_X6_many hwf hq1 h25) ⟨rfl, rfl⟩ ⟨Nat.le_of_ble_eq_true rfl, Nat.le_of_ble_eq_true rfl⟩ rfl (faB_13 hq1) rfl (As := [.int (μ (13, (μ (0, 0) 9).toNatClampNeg) 3), .int v2]) (rest := []) rfl rfl (Nat.le_of_ble_eq_true rfl) dX10_claim_25 ⟨Nat.zero_le _, Nat.zero_le _⟩ (fun H locs hW => ?_)
  show W p l e (rma 12 330 KC KS) s m args below meth c H locs 0 0 Q (F0 m 28 ls [.int x25])
  refine lv_iload_n hx hb dX10_claim_28 rfl (lv_at hl 1 rfl) ?_
  refine lv_icmp_ge (tgt := 42) hx hb dX10_claim_29 (by decide) (fun c3 => ?_) (fun c3 => ?_)
  · have hf := (if_pos c3).symm.trans hf
    refine lv_aload_n hx hb dX10_claim_42 rfl (lv_at hl 0 rfl) ?_
    unfold actO at hf
    obtain ⟨z9, hz9, hf⟩ := bd_of hf
    obtain ⟨⟨sh9, ln9, μ9⟩, kc9, ks9⟩ := z9
    obtain ⟨kc1, ks1, hf, ek1, es1⟩ := addc_of hf
    have hcs := cs_add hcs ek1 es1
    have hwf2 : WfS sh9 := (remO_wf hwf hz9).1
    refine r_callO (k := ((0, 0) : Ky)) C hW hl lk_X10_208 (cO_X10_remember hwf hd9 hd10 hv hz9) ⟨Nat.le_of_ble_eq_true rfl, Nat.le_of_ble_eq_true rfl⟩ rfl rfl rfl (As := []) (rest := []) rfl rfl (Nat.le_of_ble_eq_true rfl) dX10_claim_43 (ca_le hcs) (fun oa2 aa H locs hg hW => ?_)
    rw [← hg.bv] at hl
    show W p l e (rma 12 330 KC KS) s m args below meth c H locs (0 + kc9) (0 + ks9) Q (F0 m 46 ls [])
    obtain ⟨hq9, hf⟩ := ce_of hf
    refine lv_aload_n hx hb dX10_claim_46 rfl (lv_at hl 0 rfl) ?_
    refine gf_X10_28 C hW dX10_claim_47 ?_
    refine lv_aload_n hx hb dX10_claim_50 rfl (lv_at hl 0 rfl) ?_
    refine gf_X10_60 C hW dX10_claim_51 ?_
    refine lv_iload_n hx hb dX10_claim_54 rfl (lv_at hl 1 rfl) ?_
    refine lv_iload_n hx hb dX10_claim_55 rfl (lv_at hl 2 rfl) ?_
    obtain ⟨y9, hy9, hf⟩ := bd_of hf
    obtain ⟨kc2, ks2, hf, ek2, es2⟩ := addc_of hf
    have hcs := cs_add hcs ek2 es2
    refine r_callA (k := ((4, 0) : Ky)) C hW hl lk_X10_245 (cA_X0_claimMany hwf2 hq9 hy9) ⟨Nat.le_of_ble_eq_true rfl, Nat.le_of_ble_eq_true rfl⟩ rfl rfl rfl (As := [.ref (oa2 (13, (μ9 (0, 0) 9).toNatClampNeg)), .int v1, .int v2]) (rest := []) rfl rfl (Nat.le_of_ble_eq_true rfl) dX10_claim_56 (ca_le hcs) (fun aa H locs hW => ?_)
    obtain ⟨eo, ek3, es3⟩ := retA hf
    obtain ⟨rfl, rfl, rfl, rfl⟩ : y9.1.1 = x ∧ sh9 = sh' ∧ y9.1.2.1 = lm' ∧ y9.1.2.2 = μ' := by cases eo; exact ⟨rfl, rfl, rfl, rfl⟩
    rw [hQ]
    exact r_iretO C hr hk hg hW rfl (cs_end hcs).1 (cs_end hcs).2 dX10_claim_59
  · have hf := (if_neg c3).symm.trans hf
    cases hf
set_option maxHeartbeats 4000000 in
set_option maxRecDepth 100000 in
theorem cO_X10_query {l : Launch} {D : va_G} {tc : Nat → ClassId} {ro : Ro} {oa : Ky → Nat} {sh : Sh} {ln : Nat → Nat} {μ : Mm} {v1 v2 v3 : Int32} {x : Int32} {sh' : Sh} {lm' : Nat → Nat} {μ' : Mm} {KC KS : Nat} (hwf : WfS sh) (hd9 : sh 2 ((μ (0, 0) 9).toNatClampNeg) = 1) (hd10 : sh 2 ((μ (0, 0) 10).toNatClampNeg) = 1) (hv : INV1 sh μ) (hf : g_X10_query sh ln μ v1 v2 v3 = some ((.inl x, sh', lm', μ'), KC, KS)) : CtO l D tc ro oa yX10_query cX10_query 4 (some .int) (rma 12 330 KC KS) [.ref (oa (0, 0)), .int v1, .int v2, .int v3] sh ln μ (fun _ => some (.int x)) sh' lm' μ' := by
  refine CtO.of (by decide) (Nat.le_of_ble_eq_true rfl) (fun aa p e s m args below meth c A C hr hk hW ls hl => ?_)
  have hx := C.1.1
  have hb := C.1.2.1
  obtain ⟨Q, hQ⟩ : ∃ Q, Q = MQ below (Cto D tc oa (fun _ => some (.int x)) sh sh' lm' μ' A) args s (rma 12 330 KC KS).cells (rma 12 330 KC KS).slots A := ⟨_, rfl⟩
  rw [← hQ]
  have hl : lv_has ls 4 [(0, .ref (oa (0, 0))), (1, .int v1), (2, .int v2), (3, .int v3)] := hl
  have hcs : 0 + KC ≤ KC ∧ 0 + KS ≤ KS := ⟨by omega, by omega⟩
  unfold g_X10_query at hf
  refine lv_aload_n hx hb dX10_query_0 rfl (lv_at hl 0 rfl) ?_
  refine lv_iload_n hx hb dX10_query_1 rfl (lv_at hl 1 rfl) ?_
  obtain ⟨h2, hf⟩ := xbO_inl hf
  refine r_callV (k := ((0, 0) : Ky)) C hW hl lk_X10_141 (c_X10_needPerson hwf (gn_needPerson h2)) ⟨rfl, rfl⟩ ⟨Nat.le_of_ble_eq_true rfl, Nat.le_of_ble_eq_true rfl⟩ rfl rfl rfl (As := [.int v1]) (rest := []) rfl rfl (Nat.le_of_ble_eq_true rfl) dX10_query_2 ⟨Nat.zero_le _, Nat.zero_le _⟩ (fun H locs hW => ?_)
  show W p l e (rma 12 330 KC KS) s m args below meth c H locs 0 0 Q (F0 m 5 ls [])
  refine lv_aload_n hx hb dX10_query_5 rfl (lv_at hl 0 rfl) ?_
  refine lv_iload_n hx hb dX10_query_6 rfl (lv_at hl 2 rfl) ?_
  obtain ⟨h7, hf⟩ := xbO_inl hf
  refine r_callV (k := ((0, 0) : Ky)) C hW hl lk_X10_141 (c_X10_needPerson hwf (gn_needPerson h7)) ⟨rfl, rfl⟩ ⟨Nat.le_of_ble_eq_true rfl, Nat.le_of_ble_eq_true rfl⟩ rfl rfl rfl (As := [.int v2]) (rest := []) rfl rfl (Nat.le_of_ble_eq_true rfl) dX10_query_7 ⟨Nat.zero_le _, Nat.zero_le _⟩ (fun H locs hW => ?_)
  show W p l e (rma 12 330 KC KS) s m args below meth c H locs 0 0 Q (F0 m 10 ls [])
  refine lv_aload_n hx hb dX10_query_10 rfl (lv_at hl 0 rfl) ?_
  refine lv_iload_n hx hb dX10_query_11 rfl (lv_at hl 3 rfl) ?_
  obtain ⟨h12, hf⟩ := xbO_inl hf
  refine r_callV (k := ((0, 0) : Ky)) C hW hl lk_X10_230 (c_X10_needNotice hwf (gn_needNotice h12)) ⟨rfl, rfl⟩ ⟨Nat.le_of_ble_eq_true rfl, Nat.le_of_ble_eq_true rfl⟩ rfl rfl rfl (As := [.int v3]) (rest := []) rfl rfl (Nat.le_of_ble_eq_true rfl) dX10_query_12 ⟨Nat.zero_le _, Nat.zero_le _⟩ (fun H locs hW => ?_)
  show W p l e (rma 12 330 KC KS) s m args below meth c H locs 0 0 Q (F0 m 15 ls [])
  refine lv_aload_n hx hb dX10_query_15 rfl (lv_at hl 0 rfl) ?_
  unfold actO at hf
  obtain ⟨z9, hz9, hf⟩ := bd_of hf
  obtain ⟨⟨sh9, ln9, μ9⟩, kc9, ks9⟩ := z9
  obtain ⟨kc1, ks1, hf, ek1, es1⟩ := addc_of hf
  have hcs := cs_add hcs ek1 es1
  have hwf2 : WfS sh9 := (remO_wf hwf hz9).1
  refine r_callO (k := ((0, 0) : Ky)) C hW hl lk_X10_208 (cO_X10_remember hwf hd9 hd10 hv hz9) ⟨Nat.le_of_ble_eq_true rfl, Nat.le_of_ble_eq_true rfl⟩ rfl rfl rfl (As := []) (rest := []) rfl rfl (Nat.le_of_ble_eq_true rfl) dX10_query_16 (ca_le hcs) (fun oa2 aa H locs hg hW => ?_)
  rw [← hg.bv] at hl
  show W p l e (rma 12 330 KC KS) s m args below meth c H locs (0 + kc9) (0 + ks9) Q (F0 m 19 ls [])
  obtain ⟨hq9, hf⟩ := ce_of hf
  refine lv_aload_n hx hb dX10_query_19 rfl (lv_at hl 0 rfl) ?_
  refine gf_X10_28 C hW dX10_query_20 ?_
  refine lv_aload_n hx hb dX10_query_23 rfl (lv_at hl 0 rfl) ?_
  refine gf_X10_60 C hW dX10_query_24 ?_
  refine lv_iload_n hx hb dX10_query_27 rfl (lv_at hl 1 rfl) ?_
  refine lv_iload_n hx hb dX10_query_28 rfl (lv_at hl 2 rfl) ?_
  refine lv_iload_n hx hb dX10_query_29 rfl (lv_at hl 3 rfl) ?_
  obtain ⟨y9, hy9, hf⟩ := bd_of hf
  obtain ⟨kc2, ks2, hf, ek2, es2⟩ := addc_of hf
  have hcs := cs_add hcs ek2 es2
  refine r_callA (k := ((4, 0) : Ky)) C hW hl lk_X10_248 (cA_X0_queryOne hwf2 hq9 hy9) ⟨Nat.le_of_ble_eq_true rfl, Nat.le_of_ble_eq_true rfl⟩ rfl rfl rfl (As := [.ref (oa2 (13, (μ9 (0, 0) 9).toNatClampNeg)), .int v1, .int v2, .int v3]) (rest := []) rfl rfl (Nat.le_of_ble_eq_true rfl) dX10_query_30 (ca_le hcs) (fun aa H locs hW => ?_)
  obtain ⟨eo, ek3, es3⟩ := retA hf
  obtain ⟨rfl, rfl, rfl, rfl⟩ : y9.1.1 = x ∧ sh9 = sh' ∧ y9.1.2.1 = lm' ∧ y9.1.2.2 = μ' := by cases eo; exact ⟨rfl, rfl, rfl, rfl⟩
  rw [hQ]
  exact r_iretO C hr hk hg hW rfl (cs_end hcs).1 (cs_end hcs).2 dX10_query_33
set_option maxHeartbeats 4000000 in
set_option maxRecDepth 100000 in
theorem cO_X10_stroll {l : Launch} {D : va_G} {tc : Nat → ClassId} {ro : Ro} {oa : Ky → Nat} {sh : Sh} {ln : Nat → Nat} {μ : Mm} {v1 : Int32} {x : Int32} {sh' : Sh} {lm' : Nat → Nat} {μ' : Mm} {KC KS : Nat} (hwf : WfS sh) (hd9 : sh 2 ((μ (0, 0) 9).toNatClampNeg) = 1) (hd10 : sh 2 ((μ (0, 0) 10).toNatClampNeg) = 1) (hv : INV1 sh μ) (hf : g_X10_stroll sh ln μ v1 = some ((.inl x, sh', lm', μ'), KC, KS)) : CtO l D tc ro oa yX10_stroll cX10_stroll 2 (some .int) (rma 12 330 KC KS) [.ref (oa (0, 0)), .int v1] sh ln μ (fun _ => some (.int x)) sh' lm' μ' := by
  refine CtO.of (by decide) (Nat.le_of_ble_eq_true rfl) (fun aa p e s m args below meth c A C hr hk hW ls hl => ?_)
  have hx := C.1.1
  have hb := C.1.2.1
  obtain ⟨Q, hQ⟩ : ∃ Q, Q = MQ below (Cto D tc oa (fun _ => some (.int x)) sh sh' lm' μ' A) args s (rma 12 330 KC KS).cells (rma 12 330 KC KS).slots A := ⟨_, rfl⟩
  rw [← hQ]
  have hl : lv_has ls 2 [(0, .ref (oa (0, 0))), (1, .int v1)] := hl
  have hcs : 0 + KC ≤ KC ∧ 0 + KS ≤ KS := ⟨by omega, by omega⟩
  unfold g_X10_stroll at hf
  refine lv_aload_n hx hb dX10_stroll_0 rfl (lv_at hl 0 rfl) ?_
  refine lv_iload_n hx hb dX10_stroll_1 rfl (lv_at hl 1 rfl) ?_
  refine lv_iconst (v := 1) hx hb dX10_stroll_2 (by decide) ?_
  refine lv_bipush (v := 30) hx hb dX10_stroll_3 (by decide) ?_
  obtain ⟨h5, hf⟩ := xbO_inl hf
  refine r_callV (k := ((0, 0) : Ky)) C hW hl lk_X10_233 (c_X10_needNumber (gn_needNumber h5)) ⟨rfl, rfl⟩ ⟨Nat.le_of_ble_eq_true rfl, Nat.le_of_ble_eq_true rfl⟩ rfl rfl rfl (As := [.int v1, .int (1 : Int32), .int (30 : Int32)]) (rest := []) rfl rfl (Nat.le_of_ble_eq_true rfl) dX10_stroll_5 ⟨Nat.zero_le _, Nat.zero_le _⟩ (fun H locs hW => ?_)
  show W p l e (rma 12 330 KC KS) s m args below meth c H locs 0 0 Q (F0 m 8 ls [])
  refine lv_aload_n hx hb dX10_stroll_8 rfl (lv_at hl 0 rfl) ?_
  unfold actO at hf
  obtain ⟨z9, hz9, hf⟩ := bd_of hf
  obtain ⟨⟨sh9, ln9, μ9⟩, kc9, ks9⟩ := z9
  obtain ⟨kc1, ks1, hf, ek1, es1⟩ := addc_of hf
  have hcs := cs_add hcs ek1 es1
  have hwf2 : WfS sh9 := (remO_wf hwf hz9).1
  refine r_callO (k := ((0, 0) : Ky)) C hW hl lk_X10_208 (cO_X10_remember hwf hd9 hd10 hv hz9) ⟨Nat.le_of_ble_eq_true rfl, Nat.le_of_ble_eq_true rfl⟩ rfl rfl rfl (As := []) (rest := []) rfl rfl (Nat.le_of_ble_eq_true rfl) dX10_stroll_9 (ca_le hcs) (fun oa2 aa H locs hg hW => ?_)
  rw [← hg.bv] at hl
  show W p l e (rma 12 330 KC KS) s m args below meth c H locs (0 + kc9) (0 + ks9) Q (F0 m 12 ls [])
  obtain ⟨hq9, hf⟩ := ce_of hf
  refine lv_aload_n hx hb dX10_stroll_12 rfl (lv_at hl 0 rfl) ?_
  refine gf_X10_28 C hW dX10_stroll_13 ?_
  refine lv_aload_n hx hb dX10_stroll_16 rfl (lv_at hl 0 rfl) ?_
  refine gf_X10_60 C hW dX10_stroll_17 ?_
  refine lv_iload_n hx hb dX10_stroll_20 rfl (lv_at hl 1 rfl) ?_
  obtain ⟨y9, hy9, hf⟩ := bd_of hf
  obtain ⟨kc2, ks2, hf, ek2, es2⟩ := addc_of hf
  have hcs := cs_add hcs ek2 es2
  refine r_callA (k := ((4, 0) : Ky)) C hW hl lk_X10_252 (cA_X0_strollBy hwf2 hq9 hy9) ⟨Nat.le_of_ble_eq_true rfl, Nat.le_of_ble_eq_true rfl⟩ rfl rfl rfl (As := [.ref (oa2 (13, (μ9 (0, 0) 9).toNatClampNeg)), .int v1]) (rest := []) rfl rfl (Nat.le_of_ble_eq_true rfl) dX10_stroll_21 (ca_le hcs) (fun aa H locs hW => ?_)
  obtain ⟨eo, ek3, es3⟩ := retA hf
  obtain ⟨rfl, rfl, rfl, rfl⟩ : y9.1.1 = x ∧ sh9 = sh' ∧ y9.1.2.1 = lm' ∧ y9.1.2.2 = μ' := by cases eo; exact ⟨rfl, rfl, rfl, rfl⟩
  rw [hQ]
  exact r_iretO C hr hk hg hW rfl (cs_end hcs).1 (cs_end hcs).2 dX10_stroll_24
