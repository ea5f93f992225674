-- what exists beyond the eleventh State: nothing, ever; the law's reader leaves the States alone
def HS (sh : Sh) (gk : Option (((Int32 ⊕ Nat) × Sh × (Nat → Nat) × Mm) × Nat × Nat)) : Prop := ∀ r sh' ln' b kc ks, gk = some ((r, sh', ln', b), kc, ks) → ∀ s, 11 ≤ s → sh' 2 s = sh 2 s
section HSS
variable {sh : Sh} {ln lm : Nat → Nat} {μ : Mm}
theorem HS.lf0 {x : Option ((Int32 ⊕ Nat) × Mm)} : HS sh (lf0 sh ln x) := fun r sh' ln' b kc ks h => by
  obtain ⟨-, rfl, -⟩ := lf0_of h
  exact fun _ _ => rfl
theorem HS.lfn {x : Option (Int32 × Mm)} : HS sh (lfn sh ln x) := fun r sh' ln' b kc ks h => by
  obtain ⟨-, -, -, rfl, -⟩ := lfn_of h
  exact fun _ _ => rfl
theorem HS.lfA {x : Option ((Int32 × (Nat → Nat) × Mm) × Nat × Nat)} : HS sh (lfA sh x) := fun r sh' ln' b kc ks h => by
  obtain ⟨-, -, -, rfl⟩ := lfA_of h
  exact fun _ _ => rfl
theorem HS.lfV {x : Option (((Int32 ⊕ Nat) × (Nat → Nat) × Mm) × Nat × Nat)} : HS sh (lfV sh x) := fun r sh' ln' b kc ks h => by
  obtain ⟨-, rfl⟩ := lfV_of h
  exact fun _ _ => rfl
theorem HS.nd {need : Option (Unit ⊕ Nat)} {k : Option (((Int32 ⊕ Nat) × Sh × (Nat → Nat) × Mm) × Nat × Nat)} (hk : HS sh k) : HS sh (xbO need sh lm μ k) := fun r sh' ln' b kc ks h => by
  unfold xbO at h
  obtain ⟨z, h1, h2⟩ := bd_of h
  rcases z with z | z
  · exact hk _ _ _ _ _ _ h2
  · cases h2
    exact fun _ _ => rfl
theorem HS.act {F : Sh → (Nat → Nat) → Nat → Mm → Option ((Int32 × (Nat → Nat) × Mm) × Nat × Nat)} (hwf : WfS sh) : HS sh (actO sh lm μ F) := fun r sh' ln' b kc ks h => by
  unfold actO at h
  obtain ⟨z9, hz9, h⟩ := bd_of h
  obtain ⟨⟨sh9, ln9, μ9⟩, kc9, ks9⟩ := z9
  obtain ⟨kc1, ks1, h, -, -⟩ := addc_of h
  obtain ⟨-, h⟩ := ce_of h
  obtain ⟨y, -, h⟩ := bd_of h
  obtain ⟨kc2, ks2, h, -, -⟩ := addc_of h
  cases h
  exact (remO_wf hwf hz9).2.2
theorem HS.treat (hwf : WfS sh) {v1 v2 v3 : Int32} : HS sh (g_X10_treat sh lm μ v1 v2 v3) := .nd (.nd (.nd (.nd (.act hwf))))
theorem HS.turn (hwf : WfS sh) {v1 v2 : Int32} : HS sh (g_X10_turn sh lm μ v1 v2) := .nd (.nd (.act hwf))
theorem HS.ask (hwf : WfS sh) {v1 : Int32} : HS sh (g_X10_ask sh lm μ v1) := .nd (.act hwf)
theorem HS.day (hwf : WfS sh) : HS sh (g_X10_day sh lm μ) := .act hwf
theorem HS.read (hwf : WfS sh) {v1 : Int32} : HS sh (g_X10_read sh lm μ v1) := .nd (.act hwf)
theorem HS.query (hwf : WfS sh) {v1 v2 v3 : Int32} : HS sh (g_X10_query sh lm μ v1 v2 v3) := .nd (.nd (.nd (.act hwf)))
theorem HS.stroll (hwf : WfS sh) {v1 : Int32} : HS sh (g_X10_stroll sh lm μ v1) := .nd (.act hwf)
theorem HS.trial {v1 : Int32} : HS sh (g_X10_trial sh lm μ v1) := .nd .lfA
theorem HS.span {v1 v2 : Int32} : HS sh (g_X10_span sh lm μ v1 v2) := .nd .lfA
theorem HS.claim (hwf : WfS sh) {v1 v2 : Int32} : HS sh (g_X10_claim sh lm μ v1 v2) := by
  refine .nd (.nd (fun r sh' ln' b kc ks h => ?_))
  obtain ⟨-, h⟩ := ce_of h
  obtain ⟨x25, -, h⟩ := bd_of h
  by_cases c : v1 ≤ x25
  · rw [if_pos c] at h
    exact HS.act hwf _ _ _ _ _ _ h
  · rw [if_neg c] at h
    cases h
    exact fun _ _ => rfl
theorem HS.image (hwf : WfS sh) : HS sh (g_X10_image sh lm μ) := fun r sh' ln' b kc ks h => by
  unfold g_X10_image at h
  obtain ⟨z9, hz9, h⟩ := bd_of h
  obtain ⟨⟨sh9, μ9⟩, kc9, ks9⟩ := z9
  obtain ⟨kc1, ks1, h, -, -⟩ := addc_of h
  obtain ⟨-, h⟩ := ce_of h
  obtain ⟨y, -, h⟩ := bd_of h
  obtain ⟨kc2, ks2, h, -, -⟩ := addc_of h
  cases h
  exact (keptO_ex hwf hz9).2.2.2
theorem HS.law : HS sh (lfL ln (g_X10_law sh ln μ)) := fun r sh' ln' b kc ks h => by
  obtain ⟨h, -⟩ := lfL_of h
  unfold g_X10_law at h
  obtain ⟨x4, -, h⟩ := bd_of h
  obtain ⟨x12, -, h⟩ := bd_of h
  obtain ⟨x16, -, h⟩ := bd_of h
  obtain ⟨x22, -, h⟩ := bd_of h
  obtain ⟨x30, -, h⟩ := bd_of h
  by_cases c : x22.1 = (-1 : Int32)
  · rw [if_pos c] at h
    cases h
    exact fun _ _ => rfl
  · rw [if_neg c] at h
    obtain ⟨-, h⟩ := ce_of h
    obtain ⟨x55, h55, h⟩ := bd_of h
    obtain ⟨kc1, ks1, h, -, -⟩ := addc_of h
    obtain ⟨x62, -, h⟩ := bd_of h
    cases h
    obtain ⟨-, e2, -⟩ := madeO_e h55
    intro s _
    rw [e2, shW_2]
theorem law_nol {μq : Mm} {V n N w0 : Nat} {r : Nat → Int32} {Λo : Option LW} {j d t c z : Nat} {T : Nat → Nat} (h : RLL sh ln μq μ V n N w0 r Λo j d t c T z) (hNF : NF sh μ) (h4 : sh 4 2 < 600) : ∀ x4 x12 x16 x22, f_X7_use sh ln μ = some x4 → f_X8_open_1 sh ln x4.2 x4.1 = some x12 → f_X3_startAnew sh ln x12 = some x16 → f_X8_readLines_1 sh ln x16 (12 : Int32) = some x22 → NOL sh x22.2 := by
  intro x4 x12 x16 x22 h1 h2 h3 h5
  obtain ⟨-, -, ⟨hL, -, -⟩, ⟨hz, h256, t2, t12, tk12, tq11⟩, -⟩ := h
  obtain ⟨m0, hm0⟩ : ∃ m0, m0 = mst μ (2, 0) 1 (0 : Int32) := ⟨_, rfl⟩
  have hm0r : m0 = mrow μ (2, 0) (upd (μ (2, 0)) 1 (nI 0)) := by rw [hm0, mst_row]; rfl
  obtain ⟨m2, e2, k2, p2, w2, K2⟩ := k_open1 (sh := sh) (ln := ln) (μ := m0) (T := T) (z := z) (fun i hi => by rw [hm0r, mrow_neA (by omega)]; exact tk12 i hi) h256 hz hL.1
  obtain ⟨m3, hm3⟩ : ∃ m3, m3 = mst m2 (6, 1) 12 (0 : Int32) := ⟨_, rfl⟩
  have hm3r : m3 = mrow m2 (6, 1) (upd (m2 (6, 1)) 12 (nI 0)) := by rw [hm3, mst_row]; rfl
  have K3 : KC 1 ln m3 T z (nb T z 0) := by rw [hm3r]; exact K2.to (fun q hq _ => mrow_ne hq) (fun i _ _ _ h12 => by rw [mrow_self, q_upd, if_neg (by omega)])
  have k3 : ∀ q : Ky, ¬ (6 ≤ q.1 ∧ q.1 < 10) → q ≠ (2, 0) → m3 q = μ q := fun q hq h2 => by
    rw [hm3r, mrow_ne (fun y => by rw [y] at hq; simp at hq), k2 q (fun y => by rw [y] at hq; simp at hq) (fun y => by rw [y] at hq; simp at hq) (fun y => by rw [y] at hq; simp at hq) (fun y => by rw [y] at hq; simp at hq), hm0r, mrow_ne h2]
  obtain ⟨μ1, o1, ⟨o2, o3, o4⟩, hLO⟩ := v_lawall (sh := sh) (ln := ln) (μq := μq) (μk := m3) t12 hz h256 tq11 K3 (by rw [hm3r, mrow_self, q_upd, if_pos rfl])
  have e4 : x4 = (nI z, m0) := by
    rw [f_X7_use] at h1
    have h1 := Option.some.inj h1
    rw [← h1, hm0, t2]
  rw [e4] at h2
  have h2 : f_X8_open_1 sh ln m0 (nI z) = some x12 := h2
  rw [e2] at h2
  have e12 := Option.some.inj h2
  rw [← e12, f_X3_startAnew] at h3
  have h3 : some (mst m2 (6, 1) 12 (0 : Int32)) = some x16 := h3
  rw [← hm3] at h3
  have e16 := Option.some.inj h3
  rw [← e16] at h5
  have hN := hNF.nol h4
  rcases hLO with ⟨m, aq, ak, b, s, S, M, A, F, B, f1, f2', hLT, qw, fv⟩ | ⟨aq, ak, x, f1, f2', f15, f7, qw, fw⟩
  · rw [f2'] at h5
    cases h5
    intro s hs
    show ak (13, s) 8 = 0 ∨ (ak (13, s) 8).toNatClampNeg - 1 ≠ sh 4 2
    rw [fv.1 _ (by simp) (by simp), k3 _ (by simp) (by simp)]
    exact hN s hs
  · rw [f2'] at h5
    cases h5
    intro s hs
    show ak (13, s) 8 = 0 ∨ (ak (13, s) 8).toNatClampNeg - 1 ≠ sh 4 2
    rw [fw _ (by simp) (by simp), k3 _ (by simp) (by simp)]
    exact hN s hs
end HSS
