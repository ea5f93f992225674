-- the kept State, made where there was none: the walk
theorem arrV_eq {cA : ClassId} {n : Nat} {f g : Nat → Value} (h : ∀ i, i < n → f i = g i) : arrV cA n f = arrV cA n g := by
  have e : (fun j : Fin n => f j.val) = (fun j : Fin n => g j.val) := funext fun j => h j.val j.isLt
  unfold arrV
  rw [e]
theorem keptO_ex {sh : Sh} {lm : Nat → Nat} {μ : Mm} {res : Sh × Mm} {kc ks : Nat} (hwf : WfS sh) (hf : keptO sh lm μ = some (res, kc, ks)) : WfS res.1 ∧ res.1 2 10 = 1 ∧ (∀ s, sh 2 s = 1 → res.1 2 s = 1) ∧ ∀ s, 11 ≤ s → res.1 2 s = sh 2 s := by
  unfold keptO at hf
  by_cases c : sh 2 10 = 0
  · rw [if_pos c] at hf
    obtain ⟨-, hf⟩ := ce_of hf
    cases hf
    exact ⟨hwf.new, (if_pos ⟨rfl, rfl⟩ : (if (2 = 2 ∧ 10 = 10) then 1 else sh 2 10) = 1), shs_keep.1, fun s hs => shs_keep.2 s (by omega)⟩
  · rw [if_neg c] at hf
    cases hf
    exact ⟨hwf, kept_ex hwf c, fun _ h => h, fun _ _ => rfl⟩
section ROWKEPT
variable {p : Program} {l : Launch} {e : Env} {R : Room} {s : State} {m : MethodId} {args : Array Value} {below : List Frame} {meth : Method} {c : Code} {H : Heap} {locs : List Loc} {cells slots : Nat} {Q : State → Prop}
variable {ccx : ByteArray} {pc nL : Nat} {ls : Array Slot} {rest : List Value} {D : va_G} {tc : Nat → ClassId} {ro : Ro} {oa oa' : Ky → Nat} {aa aa' : Nat → Nat} {sh : Sh} {ln : Nat → Nat} {A : Nat → Prop} {μ : Mm}
/-- kept = the State -/
theorem r_keptPut {a0 : Nat} (C : Cx p s m args c RX10 ccx nL D tc ro A) (hwf : WfS sh) (hg : AGR sh oa oa') (h0 : sh 2 10 = 0) (hW : Wd D (faB oa' aa' (shs sh 2 10 1)) (feO tc oa oa' aa' sh (shs sh 2 10 1) ln) A s.heap μ H locs)
    (h9 : sh 2 ((μ (0, 0) 9).toNatClampNeg) = 1) (h10 : sh 2 ((μ (0, 0) 10).toNatClampNeg) = 1) (ha0 : a0 = oa' (0, 0)) (hdg : decode ccx pc = .ok (.putfield 378, 3))
    (kk : ∀ (H1 : Heap) (locs1 : List Loc), Wd D (faB oa' aa' (shs sh 2 10 1)) (feB tc oa' aa' (shs sh 2 10 1) ln) A s.heap μ H1 locs1 → W p l e R s m args below meth c H1 locs1 cells slots Q (F0 m (pc + 3) ls rest)) : W p l e R s m args below meth c H locs cells slots Q (F0 m pc ls (.ref (oa' (13, 10)) :: .ref a0 :: rest)) := by
  subst ha0
  have hs1 : shs sh 2 10 1 2 10 = 1 := if_pos ⟨rfl, rfl⟩
  refine r_putG (k := ((0, 0) : Ky)) (fs := fsBV oa sh (μ (0, 0))) (T := TX10) (N := 13) (f := 11) (μ' := μ) (fe' := fun k r => if k = (1, 0) then feB tc oa aa' sh ln (1, 0) r else feB tc oa' aa' (shs sh 2 10 1) ln k r) C hW rfl (Nat.le_of_ble_eq_true rfl) kin_X10 tyX10_ok nmX10 kw_481 (Or.inl rfl) rfl (ty := .object RX6) (by decide +kernel) rfl rfl (Nat.le_of_ble_eq_true rfl) rfl rfl ?_ (fun k hk => ?_) hdg (fun H1 locs1 hW1 => kk H1 locs1 ⟨?_, hW1.2⟩)
  · rw [if_neg (by simp)]
    show (Sum.inr (10, fsBV oa' (shs sh 2 10 1) (μ (0, 0))) : va_E) = _
    refine congrArg (fun f => (Sum.inr (10, f) : va_E)) ?_
    unfold fsBV
    rw [hg (2, 0) rfl, hg (3, 0) rfl, hg (4, 0) rfl, hg (5, 0) rfl, hg (6, 0) rfl, hg (6, 1) rfl, hg (1, 0) rfl, hg.st h9, hg.st h10, hs1]
    rfl
  · by_cases e : k = (1, 0)
    · subst e
      rfl
    · rw [feO_o hk e, if_neg e]
  · refine hW1.1.alt hW1.2.2.2.2 (k := ((1, 0) : Ky)) (a := oa' (1, 0)) rfl (fun hv => ?_) (fun k hk _ => by rw [if_neg hk])
    rw [if_pos rfl] at hv
    have hv : H1[oa' (1, 0)]? = some (arrV (tc 3) 8 (fun x => va_rf (if sh 2 (2 + x) = 0 then none else some (oa (13, 2 + x))))) := hv
    show H1[oa' (1, 0)]? = some (arrV (tc 3) 8 (fun x => va_rf (if shs sh 2 10 1 2 (2 + x) = 0 then none else some (oa' (13, 2 + x)))))
    rw [hv]
    refine congrArg some (arrV_eq (fun x hx => ?_))
    rw [shs_o (by omega)]
    by_cases e2 : sh 2 (2 + x) = 0
    · rw [if_pos e2, if_pos e2]
    · rw [if_neg e2, if_neg e2, hg.st ((hwf _).resolve_left e2)]
end ROWKEPT
set_option maxHeartbeats 4000000 in
set_option maxRecDepth 100000 in
theorem cO_X10_image {l : Launch} {D : va_G} {tc : Nat → ClassId} {ro : Ro} {oa : Ky → Nat} {sh : Sh} {lm : Nat → Nat} {μ : Mm} {x : Int32} {sh' : Sh} {lm' : Nat → Nat} {μ' : Mm} {KC KS : Nat} (hwf : WfS sh) (h9 : sh 2 ((μ (0, 0) 9).toNatClampNeg) = 1) (h10 : sh 2 ((μ (0, 0) 10).toNatClampNeg) = 1) (hv : INV1 sh μ) (hf : g_X10_image sh lm μ = some ((.inl x, sh', lm', μ'), KC, KS)) : CtO l D tc ro oa yX10_image cX10_image 1 none (rma 8 220 KC KS) [.ref (oa (0, 0))] sh lm μ (fun _ => none) sh' lm' μ' := by
  refine CtO.of (by decide) (Nat.le_of_ble_eq_true rfl) (fun aa p e s m args below meth c A C hr hk hW ls hl => ?_)
  have hx := C.1.1
  have hb := C.1.2.1
  obtain ⟨Q, hQ⟩ : ∃ Q, Q = MQ below (Cto D tc oa (fun _ => none) sh sh' lm' μ' A) args s (rma 8 220 KC KS).cells (rma 8 220 KC KS).slots A := ⟨_, rfl⟩
  rw [← hQ]
  have hl : lv_has ls 1 [(0, .ref (oa (0, 0)))] := hl
  have hcs : 0 + KC ≤ KC ∧ 0 + KS ≤ KS := ⟨by omega, by omega⟩
  unfold g_X10_image at hf
  obtain ⟨x1, h1, hf⟩ := bd_of hf
  obtain ⟨⟨sh1, μ1⟩, k1, k2⟩ := x1
  obtain ⟨kc1, ks1, hf, ek1, es1⟩ := addc_of hf
  have hcs := cs_add hcs ek1 es1
  obtain ⟨hwf1, hkx, -, -⟩ := keptO_ex (res := (sh1, μ1)) hwf h1
  have hkx : sh1 2 10 = 1 := hkx
  have tail : ∀ (oa2 : Ky → Nat) (aa2 : Nat → Nat) (H : Heap) (locs : List Loc), AGR sh oa oa2 → lv_has ls 1 [(0, .ref (oa2 (0, 0)))] → Wd D (faB oa2 aa2 sh1) (feB tc oa2 aa2 sh1 lm) A s.heap μ1 H locs → W p l e (rma 8 220 KC KS) s m args below meth c H locs (0 + k1) (0 + k2) Q (F0 m 18 ls []) := by
    intro oa2 aa2 H locs hg hl hW
    refine lv_aload_n hx hb dX10_image_18 rfl (lv_at hl 0 rfl) ?_
    refine gf_X10_378 C hW (by omega) dX10_image_19 ?_
    refine lv_aload_n hx hb dX10_image_22 rfl (lv_at hl 0 rfl) ?_
    refine gf_X10_60 C hW dX10_image_23 ?_
    obtain ⟨hq4, hf⟩ := ce_of hf
    obtain ⟨x26, h26, hf⟩ := bd_of hf
    obtain ⟨kc2, ks2, hf, ek2, es2⟩ := addc_of hf
    have hcs := cs_add hcs ek2 es2
    refine r_callA (k := ((13, 10) : Ky)) C hW hl lk_X10_89 (cA_X6_become hwf1 hkx hq4 h26) ⟨Nat.le_of_ble_eq_true rfl, Nat.le_of_ble_eq_true rfl⟩ rfl (faB_13 hkx) rfl (As := [.ref (oa2 (13, (μ1 (0, 0) 9).toNatClampNeg))]) (rest := []) rfl rfl (Nat.le_of_ble_eq_true rfl) dX10_image_26 (ca_le hcs) (fun aa H locs hW => ?_)
    show W p l e (rma 8 220 KC KS) s m args below meth c H locs (0 + k1 + x26.2.1) (0 + k2 + x26.2.2) Q (F0 m 29 ls [])
    obtain ⟨eo, ek3, es3⟩ := retA hf
    obtain ⟨rfl, rfl, rfl⟩ : sh1 = sh' ∧ x26.1.2.1 = lm' ∧ x26.1.2.2 = μ' := by cases eo; exact ⟨rfl, rfl, rfl⟩
    rw [hQ]
    exact r_vretO C hr hk hg hW rfl (cs_end hcs).1 (cs_end hcs).2 dX10_image_29
  refine lv_aload_n hx hb dX10_image_0 rfl (lv_at hl 0 rfl) ?_
  by_cases q1 : sh 2 10 = 0
  · refine gn_X10_378 C hW q1 dX10_image_1 ?_
    refine lv_ifnonnullN hx hb dX10_image_4 ?_
    refine lv_aload_n hx hb dX10_image_7 rfl (lv_at hl 0 rfl) ?_
    unfold keptO at h1
    rw [if_pos q1] at h1
    obtain ⟨hfr, h1⟩ := ce_of h1
    obtain ⟨rfl, rfl, rfl, rfl⟩ : shs sh 2 10 1 = sh1 ∧ fresh 10 μ = μ1 ∧ 11 = k1 ∧ 40 = k2 := by cases h1; exact ⟨rfl, rfl, rfl, rfl⟩
    refine r_newState (j := 10) C hW hl q1 hfr (hv.ne q1 (by omega)) dX10_image_8 dX10_image_11 dX10_image_12 ⟨Nat.le_of_ble_eq_true rfl, Nat.le_of_ble_eq_true rfl⟩ (Nat.le_of_ble_eq_true rfl) (ca_le hcs) (fun oa2 aa2 H locs hg hW => ?_)
    have hl2 := hl
    rw [← hg.bv] at hl2
    have fr00 : fresh 10 μ (0, 0) = μ (0, 0) := fresh_o (by simp) (by simp)
    refine r_keptPut C hwf hg q1 hW (by rw [fr00]; exact h9) (by rw [fr00]; exact h10) hg.bv.symm dX10_image_15 (fun H locs hW => ?_)
    exact tail oa2 aa2 H locs hg hl2 hW
  · refine gf_X10_378 C hW q1 dX10_image_1 ?_
    refine lv_ifnonnull (tgt := 18) hx hb dX10_image_4 (by decide) ?_
    unfold keptO at h1
    rw [if_neg q1] at h1
    obtain ⟨rfl, rfl, rfl, rfl⟩ : sh = sh1 ∧ μ = μ1 ∧ 0 = k1 ∧ 0 = k2 := by cases h1; exact ⟨rfl, rfl, rfl, rfl⟩
    exact tail oa aa _ _ AGR.rf hl hW
