-- strolls
def sdn (s : Int32) : Int32 := (1103515245 : Int32) * s + (12345 : Int32)
def drN (s : Int32) : Nat := ((s >>> ((16 : Int32) &&& 31)).toBitVec.toNat) &&& 32767
theorem drN_lt (s : Int32) : drN s < 32768 := by
  have : drN s ≤ 32767 := Nat.and_le_right
  omega
theorem and_nI (x : Int32) : x &&& (32767 : Int32) = nI (x.toBitVec.toNat &&& 32767) := by
  apply Int32.toBitVec_inj.1
  rw [Int32.toBitVec_and]
  apply BitVec.eq_of_toNat_eq
  rw [BitVec.toNat_and]
  have h1 : x.toBitVec.toNat &&& 32767 ≤ 32767 := Nat.and_le_right
  have h2 : (nI (x.toBitVec.toNat &&& 32767)).toBitVec = BitVec.ofNat 32 (x.toBitVec.toNat &&& 32767) := rfl
  rw [h2, BitVec.toNat_ofNat, Nat.mod_eq_of_lt (by omega)]
  rfl
theorem drw_q (s : Int32) : (s >>> ((16 : Int32) &&& 31)) &&& (32767 : Int32) = nI (drN s) := and_nI _
theorem drw_k (s : Int32) : (s.toUInt32 >>> ((16 : Int32).toUInt32 &&& Int32.toUInt32 31)).toInt32 &&& (32767 : Int32) = nI (drN s) := by
  rw [← drw_q]
  apply Int32.toBitVec_inj.1
  rw [Int32.toBitVec_and, Int32.toBitVec_and]
  have e1 : (s.toUInt32 >>> ((16 : Int32).toUInt32 &&& Int32.toUInt32 31)).toInt32.toBitVec = s.toBitVec >>> 16 := by
    show s.toBitVec >>> _ = _
    rfl
  have e2 : (s >>> ((16 : Int32) &&& 31)).toBitVec = s.toBitVec.sshiftRight 16 := by
    rfl
  rw [e1, e2]
  apply BitVec.eq_of_getLsbD_eq
  intro i hi
  rw [BitVec.getLsbD_and, BitVec.getLsbD_and, BitVec.getLsbD_ushiftRight, BitVec.getLsbD_sshiftRight]
  by_cases h : i < 16
  · simp [show ¬ 32 ≤ i by omega, show 16 + i < 32 by omega]
  · have e3 : (32767 : Int32).toBitVec.getLsbD i = false := by
      show (32767#32).getLsbD i = false
      rw [BitVec.getLsbD_ofNat]
      have : Nat.testBit 32767 i = false := Nat.testBit_lt_two_pow (Nat.lt_of_lt_of_le (by decide : 32767 < 2 ^ 16) (Nat.pow_le_pow_right (by decide) (by omega)))
      simp [this]
    rw [e3, Bool.and_false, Bool.and_false]
theorem sed_WF {V n N w0 : Nat} {r : Nat → Int32} (h : WF V n N w0 r) (x : Int32) : WF V n N w0 (upd r 5 x) := by
  have eu : ∀ i, i ≠ 5 → upd r 5 x i = r i := fun i hi => by rw [q_upd, if_neg hi]
  have hlg := h.hlg
  exact h.chg (fun i h0 _ => eu i (by omega)) (eu _ (by omega)) (eu _ (by omega)) (eu _ (by omega)) ⟨lgd r, hlg.2, by rw [eu _ (by omega)]; exact hlg.1⟩ (by rw [eu _ (by omega)]; exact h.2.2.2.2.2.2.2.1) (by rw [eu _ (by omega)]; exact h.2.2.2.2.2.2.2.2.1) (by rw [eu _ (by omega)]; exact h.2.2.2.2.2.2.2.2.2)
theorem LRw.sed {r : Nat → Int32} {Λo : Option LW} (h : LRw r Λo) (x : Int32) : LRw (upd r 5 x) Λo := by
  have eu : ∀ i, i ≠ 5 → upd r 5 x i = r i := fun i hi => by rw [q_upd, if_neg hi]
  cases Λo with
  | none => show upd r 5 x 3 = nI 0; rw [eu _ (by omega)]; exact h
  | some Λ =>
    obtain ⟨h1, h2, h3⟩ := h
    refine ⟨by rw [eu _ (by omega)]; exact h1, ⟨by rw [eu _ (by omega)]; exact h2.1, fun k hk => ?_, fun i hi => ?_⟩, h3⟩
    · rw [eu _ (by omega), eu _ (by omega), eu _ (by omega)]; exact h2.2.1 k hk
    · rw [eu _ (by omega), eu _ (by omega)]; exact h2.2.2 i hi
theorem RS.sed {μ : Mm} {V n N w0 : Nat} {r : Nat → Int32} (h : RS μ V n N w0 r) (x : Int32) : RS (mrow μ (1, 0) (upd r 5 x)) V n N w0 (upd r 5 x) := RS.set (sed_WF h.2 x) μ
theorem STR.sed {sh : Sh} {ln : Nat → Nat} {μ : Mm} {j V n N w0 : Nat} {r : Nat → Int32} {Λo : Option LW} (h : STR sh ln μ j V n N w0 r Λo) (x : Int32) : STR sh ln (mrow μ (13, j) (upd (μ (13, j)) 5 x)) j V n N w0 (upd r 5 x) Λo := by
  obtain ⟨g1, g2, g3, g4, g5, g6, g7, g8⟩ := h
  have eu : ∀ i, i ≠ 5 → upd r 5 x i = r i := fun i hi => by rw [q_upd, if_neg hi]
  have em : ∀ i, i ≠ 5 → mrow μ (13, j) (upd (μ (13, j)) 5 x) (13, j) i = μ (13, j) i := fun i hi => by rw [mrow_self, q_upd, if_neg hi]
  have hlg := g1.1.hlg
  refine ⟨g1.to (sed_WF g1.1 x) (fun i h0 h1 => eu i (by omega)) (fun i hi => em i (by omega)) (fun i hi => by rw [mrow_neA (by omega)]), g2.kp ⟨em _ (by omega), em _ (by omega)⟩ (by rw [mrow_neA (by omega)]) (eu _ (by omega)) (fun i h0 h1 => eu i (by omega)) hlg.2, g3.to (em _ (by omega)) (fun q hq =>
    mrow_ne (fun y => by rw [y] at hq; rcases hq with hq | hq <;> injection hq <;> contradiction)), g4.sed x, ?_, ?_, ?_, ?_⟩
  · rw [em _ (by omega), eu _ (by omega)]; exact g5
  · rw [mrow_self, q_upd, if_pos rfl, q_upd, if_pos rfl]
  · rw [em _ (by omega), eu _ (by omega)]; exact g7
  · rw [em _ (by omega), eu _ (by omega), eu _ (by omega)]; exact g8
/-- one step of a stroll: the row, how many were treated -/
def sst (V n N w0 : Nat) (Λo : Option LW) (z : (Nat → Int32) × Nat) : (Nat → Int32) × Nat :=
  if drN (sdn (z.1 5)) % n = drN (sdn (sdn (z.1 5))) % n ∨ (se z.1 (drN (sdn (z.1 5)) % n)).testBit (drN (sdn (sdn (z.1 5))) % n) = false then (upd z.1 5 (sdn (sdn (z.1 5))), z.2)
  else (trtR V n N w0 Λo false (drN (sdn (z.1 5)) % n) (drN (sdn (sdn (z.1 5))) % n) (upd z.1 5 (sdn (sdn (z.1 5)))), z.2 + 1)
def srl (V n N w0 : Nat) (Λo : Option LW) (r : Nat → Int32) : Nat → (Nat → Int32) × Nat
  | 0 => (r, 0)
  | k + 1 => if n = 0 then (r, 0) else sst V n N w0 Λo (srl V n N w0 Λo r k)
theorem srl_cnt {V n N w0 : Nat} {Λo : Option LW} {r : Nat → Int32} (k : Nat) : (srl V n N w0 Λo r k).2 ≤ k := by
  induction k with
  | zero => exact Nat.le_refl _
  | succ k ih =>
    unfold srl
    by_cases c : n = 0
    · rw [if_pos c]; omega
    · rw [if_neg c]
      unfold sst
      split
      · exact Nat.le_succ_of_le ih
      · exact Nat.succ_le_succ ih
theorem se_sed {r : Nat → Int32} {x : Int32} {p : Nat} : se (upd r 5 x) p = se r p := by
  unfold se
  rw [q_upd, if_neg (by omega)]
theorem upd_upd {r : Nat → Int32} {i : Nat} {x y : Int32} : upd (upd r i x) i y = upd r i y := by
  funext k
  rw [q_upd, q_upd, q_upd]
  by_cases e : k = i
  · rw [if_pos e, if_pos e]
  · rw [if_neg e, if_neg e, if_neg e]
section SRL
variable {sh : Sh} {ln : Nat → Nat} {μ : Mm} {j V n N w0 : Nat} {r : Nat → Int32} {Λo : Option LW}
theorem q_draw (h : RS μ V n N w0 r) (hn : 0 < n) : f_X11_draw μ (nI n) = some (nI (drN (sdn (r 5)) % n), mrow μ (1, 0) (upd r 5 (sdn (r 5)))) := by
  have hb := h.2.b
  have hd := drN_lt (sdn (r 5))
  have eck : ∀ x : Option (Int32 × Mm), ck 7114 (5 : Int32) x = x := fun x => by rw [show (5 : Int32) = nI 5 from rfl, q_ck (by omega) (by omega)]
  have em : mst μ (1, 0) (5 : Int32).toNatClampNeg ((1103515245 : Int32) * μ (1, 0) (5 : Int32).toNatClampNeg + (12345 : Int32)) = mrow μ (1, 0) (upd r 5 (sdn (r 5))) := by
    rw [show (5 : Int32).toNatClampNeg = 5 from rfl, mst_row, h.1]; rfl
  have ev : mrow μ (1, 0) (upd r 5 (sdn (r 5))) (1, 0) (5 : Int32).toNatClampNeg = sdn (r 5) := by
    rw [mrow_self, show (5 : Int32).toNatClampNeg = 5 from rfl, q_upd, if_pos rfl]
  rw [f_X11_draw, eck, eck, eck, q_cd hn (by omega), em, ev, drw_q, q_div (by omega) hn (by omega), pk_mul, q_rem]
theorem q_strolls (h : RS μ V n N w0 r) (hRL : LRw r Λo) {m : Nat} (hm : m < 31) :
    RACT (f_X11_strolls μ (nI m)) μ V n N w0 (srl V n N w0 Λo r m).1 (nI (srl V n N w0 Λo r m).2) ∧ LRw (srl V n N w0 Λo r m).1 Λo := by
  have hb := h.2.b
  by_cases hn : n = 0
  · have e0 : srl V n N w0 Λo r m = (r, 0) := by
      cases m with
      | zero => rfl
      | succ m => unfold srl; rw [if_pos hn]
    rw [e0]
    refine ⟨⟨μ, ?_, h, Fr.rf⟩, hRL⟩
    refine Wh_end ?_
    show f_X11_strolls_L4 (nI m) μ (nI 0) (nI 0) = _
    subst hn
    by_cases c : m = 0
    · subst c
      simp (disch := omega) only [Option.bind_some, Option.map_some, Option.bind_none, q_lit, nI_add, pk_mul, q_sub, q_addn, q_cl, q_le, q_lt, q_eq, q_ck, q_cd, q_cb0, q_cb1, q_div, q_rem, q_shl1, q_shr, q_and, q_or, q_tb, if_pos, if_neg, if_true, if_false, not_true, not_false_iff, eq_self, Bool.true_eq_false, Bool.false_eq_true, q_bI0, q_bI1, q_cbI, Nat.or_zero, mst_row, mrow_neA, mrow_neB, mrow_self, q_upd, f_X11_strolls_L4, Nat.le_refl]
    · simp (disch := omega) only [Option.bind_some, Option.map_some, Option.bind_none, q_lit, nI_add, pk_mul, q_sub, q_addn, q_cl, q_le, q_lt, q_eq, q_ck, q_cd, q_cb0, q_cb1, q_div, q_rem, q_shl1, q_shr, q_and, q_or, q_tb, if_pos, if_neg, if_true, if_false, not_true, not_false_iff, eq_self, Bool.true_eq_false, Bool.false_eq_true, q_bI0, q_bI1, q_cbI, Nat.or_zero, mst_row, mrow_neA, mrow_neB, mrow_self, q_upd, f_X11_strolls_L4, q_people h, Nat.le_refl]
  · have hn0 : 0 < n := by omega
    have hh : ∃ x, f_X11_strolls μ (nI m) = some x ∧ ∃ a, x = (nI (srl V n N w0 Λo r m).2, a) ∧ RS a V n N w0 (srl V n N w0 Λo r m).1 ∧ Fr AS μ a ∧ LRw (srl V n N w0 Λo r m).1 Λo := by
      unfold f_X11_strolls
      refine Wh_inv1 m (fun k s => ∃ a, s = (a, nI (srl V n N w0 Λo r k).2, nI k) ∧ RS a V n N w0 (srl V n N w0 Λo r k).1 ∧ Fr AS μ a ∧ LRw (srl V n N w0 Λo r k).1 Λo) _ ⟨μ, rfl, h, Fr.rf, hRL⟩ ?_ ?_
      · rintro k _ hk ⟨a, rfl, hS, hF, hLR⟩
        have hcn := srl_cnt (V := V) (n := n) (N := N) (w0 := w0) (Λo := Λo) (r := r) k
        have es : srl V n N w0 Λo r (k + 1) = sst V n N w0 Λo (srl V n N w0 Λo r k) := by
          show (if n = 0 then _ else _) = _
          rw [if_neg hn]
        obtain ⟨ρ, hρ⟩ : ∃ ρ, ρ = (srl V n N w0 Λo r k).1 := ⟨_, rfl⟩
        obtain ⟨t, ht⟩ : ∃ t, t = (srl V n N w0 Λo r k).2 := ⟨_, rfl⟩
        have ez : srl V n N w0 Λo r k = (ρ, t) := by rw [hρ, ht]
        rw [es, ez]
        rw [← hρ] at hS hLR
        rw [← ht] at hcn
        have d1 := q_draw hS hn0
        have h1 := hS.sed (sdn (ρ 5))
        have d2 := q_draw h1 hn0
        have e5 : upd ρ 5 (sdn (ρ 5)) 5 = sdn (ρ 5) := by rw [q_upd, if_pos rfl]
        rw [e5, upd_upd, mrow_mrow] at d2
        have h2 := hS.sed (sdn (sdn (ρ 5)))
        have hF2 : Fr AS μ (mrow a (1, 0) (upd ρ 5 (sdn (sdn (ρ 5))))) := hF.mr (by decide)
        obtain ⟨p, hp⟩ : ∃ p, p = drN (sdn (ρ 5)) % n := ⟨_, rfl⟩
        obtain ⟨q, hq⟩ : ∃ q, q = drN (sdn (sdn (ρ 5))) % n := ⟨_, rfl⟩
        have hpn : p < n := by rw [hp]; exact Nat.mod_lt _ hn0
        have hqn : q < n := by rw [hq]; exact Nat.mod_lt _ hn0
        have eS : sst V n N w0 Λo (ρ, t) = if p = q ∨ (se ρ p).testBit q = false then (upd ρ 5 (sdn (sdn (ρ 5))), t) else (trtR V n N w0 Λo false p q (upd ρ 5 (sdn (sdn (ρ 5)))), t + 1) := by
          rw [hp, hq]; rfl
        rw [eS]
        rw [← hp] at d1
        rw [← hq] at d2
        have es2 := q_isSeeing h2 hpn hqn
        rw [se_sed] at es2
        by_cases c1 : p = q
        · rw [if_pos (Or.inl c1)]
          refine ⟨(mrow a (1, 0) (upd ρ 5 (sdn (sdn (ρ 5)))), nI t, nI (k + 1)), ?_, _, rfl, h2, hF2, hLR.sed _⟩
          show f_X11_strolls_L4 (nI m) a (nI t) (nI k) = _
          rw [c1] at d1
          simp (disch := omega) only [Option.bind_some, Option.map_some, Option.bind_none, q_lit, nI_add, pk_mul, q_sub, q_addn, q_cl, q_le, q_lt, q_eq, q_ck, q_cd, q_cb0, q_cb1, q_div, q_rem, q_shl1, q_shr, q_and, q_or, q_tb, if_pos, if_neg, if_true, if_false, not_true, not_false_iff, eq_self, Bool.true_eq_false, Bool.false_eq_true, q_bI0, q_bI1, q_cbI, Nat.or_zero, mst_row, mrow_neA, mrow_neB, mrow_self, q_upd, f_X11_strolls_L4, q_people hS, q_people h1, d1, d2]
        · cases c2 : (se ρ p).testBit q
          · rw [if_pos (Or.inr rfl)]
            rw [c2] at es2
            refine ⟨(mrow a (1, 0) (upd ρ 5 (sdn (sdn (ρ 5)))), nI t, nI (k + 1)), ?_, _, rfl, h2, hF2, hLR.sed _⟩
            show f_X11_strolls_L4 (nI m) a (nI t) (nI k) = _
            simp (disch := omega) only [Option.bind_some, Option.map_some, Option.bind_none, q_lit, nI_add, pk_mul, q_sub, q_addn, q_cl, q_le, q_lt, q_eq, q_ck, q_cd, q_cb0, q_cb1, q_div, q_rem, q_shl1, q_shr, q_and, q_or, q_tb, if_pos, if_neg, if_true, if_false, not_true, not_false_iff, eq_self, Bool.true_eq_false, Bool.false_eq_true, q_bI0, q_bI1, q_cbI, Nat.or_zero, mst_row, mrow_neA, mrow_neB, mrow_self, q_upd, f_X11_strolls_L4, q_people hS, q_people h1, d1, d2, c1, es2, bI_f]
          · rw [if_neg (fun e => by rcases e with e | e; exact c1 e; exact absurd e (by decide))]
            rw [c2] at es2
            obtain ⟨a3, e3, h3, hF3⟩ := q_treats h2 (hLR.sed _) hpn hqn false
            have e3' : f_X11_treats (mrow a (1, 0) (upd ρ 5 (sdn (sdn (ρ 5))))) (nI p) (nI q) (nI 0) = _ := e3
            have hSL : SL (upd ρ 5 (sdn (sdn (ρ 5)))) (trtR V n N w0 Λo false p q (upd ρ 5 (sdn (sdn (ρ 5))))) := (rtp_ok h2.2 n (Nat.le_refl n)).2.1.tr SL.tel
            refine ⟨(a3, nI (t + 1), nI (k + 1)), ?_, a3, rfl, h3, hF2.tr hF3, (hLR.sed _).sl hSL⟩
            show f_X11_strolls_L4 (nI m) a (nI t) (nI k) = _
            simp (disch := omega) only [Option.bind_some, Option.map_some, Option.bind_none, q_lit, nI_add, pk_mul, q_sub, q_addn, q_cl, q_le, q_lt, q_eq, q_ck, q_cd, q_cb0, q_cb1, q_div, q_rem, q_shl1, q_shr, q_and, q_or, q_tb, if_pos, if_neg, if_true, if_false, not_true, not_false_iff, eq_self, Bool.true_eq_false, Bool.false_eq_true, q_bI0, q_bI1, q_cbI, Nat.or_zero, mst_row, mrow_neA, mrow_neB, mrow_self, q_upd, f_X11_strolls_L4, q_people hS, q_people h1, d1, d2, c1, es2, e3', bI_t]
      · rintro _ ⟨a, rfl, hS, hF, hLR⟩
        refine ⟨_, ?_, a, rfl, hS, hF, hLR⟩
        show f_X11_strolls_L4 (nI m) a (nI (srl V n N w0 Λo r m).2) (nI m) = _
        simp (disch := omega) only [Option.bind_some, Option.map_some, Option.bind_none, q_lit, nI_add, pk_mul, q_sub, q_addn, q_cl, q_le, q_lt, q_eq, q_ck, q_cd, q_cb0, q_cb1, q_div, q_rem, q_shl1, q_shr, q_and, q_or, q_tb, if_pos, if_neg, if_true, if_false, not_true, not_false_iff, eq_self, Bool.true_eq_false, Bool.false_eq_true, q_bI0, q_bI1, q_cbI, Nat.or_zero, mst_row, mrow_neA, mrow_neB, mrow_self, q_upd, f_X11_strolls_L4, Nat.le_refl]
    obtain ⟨_, e, a, rfl, hS, hF, hLR⟩ := hh
    exact ⟨⟨a, e, hS, hF⟩, hLR⟩
theorem k_draw (h : STR sh ln μ j V n N w0 r Λo) : f_X6_draw sh ln j μ = some (nI (drN (sdn (r 5))), mrow μ (13, j) (upd (μ (13, j)) 5 (sdn (r 5)))) := by
  have e5 := h.2.2.2.2.2.1
  have em : mst μ (13, j) 5 ((1103515245 : Int32) * μ (13, j) 5 + (12345 : Int32)) = mrow μ (13, j) (upd (μ (13, j)) 5 (sdn (r 5))) := by
    rw [mst_row, e5]; rfl
  rw [f_X6_draw, em, mrow_self, show upd (μ (13, j)) 5 (sdn (r 5)) 5 = sdn (r 5) by rw [q_upd, if_pos rfl], drw_k]
theorem k_strollBy (h : STR sh ln μ j V n N w0 r Λo) (hL : LN ln) (hB : LB ln) (hj : j < 11) {m : Nat} (hm : m < 31) :
    ACT (f_X0_strollByA sh ln j μ (nI m)) sh ln μ j V n N w0 (srl V n N w0 Λo r m).1 Λo (nI (srl V n N w0 Λo r m).2) := by
  have hb := h.1.1.b
  by_cases hn : n = 0
  · have e0 : srl V n N w0 Λo r m = (r, 0) := by
      cases m with
      | zero => rfl
      | succ m => unfold srl; rw [if_pos hn]
    rw [e0]
    refine ⟨ln, μ, 0, 0, ?_, GR.rf, h, FrS.rf⟩
    have e1 := h.1.c1
    rw [f_X0_strollByA, e1, if_neg (by rw [hn]; decide)]
    rfl
  · have hn0 : 0 < n := by omega
    have hle : (1 : Int32) ≤ μ (13, j) 1 := by
      rw [h.1.c1, show (1 : Int32) = nI 1 from rfl, q_le (by omega) (by omega)]; omega
    have hh : ∃ z kc ks, WhC (fun z : (Nat → Nat) × Mm × Int32 × Int32 => f_X0_strollByA_L15 sh z.1 j (nI m) z.2.1 z.2.2.1 z.2.2.2) (ln, μ, (0 : Int32), (0 : Int32)) = some (z, kc, ks) ∧
        ∃ ln' m', z = (nI (srl V n N w0 Λo r m).2, ln', m') ∧ GR j ln ln' kc ks ∧ STR sh ln' m' j V n N w0 (srl V n N w0 Λo r m).1 Λo ∧ FrS j μ m' := by
      refine WhC_inv m (fun k s kc ks => ∃ l a, s = (l, a, nI (srl V n N w0 Λo r k).2, nI k) ∧ GR j ln l kc ks ∧ STR sh l a j V n N w0 (srl V n N w0 Λo r k).1 Λo ∧ FrS j μ a) _ ⟨ln, μ, rfl, GR.rf, h, FrS.rf⟩ ?_ ?_
      · rintro k _ kc ks hk ⟨l, a, rfl, hG, hS, hF⟩
        have hcn := srl_cnt (V := V) (n := n) (N := N) (w0 := w0) (Λo := Λo) (r := r) k
        have es : srl V n N w0 Λo r (k + 1) = sst V n N w0 Λo (srl V n N w0 Λo r k) := by
          show (if n = 0 then _ else _) = _
          rw [if_neg hn]
        obtain ⟨ρ, hρ⟩ : ∃ ρ, ρ = (srl V n N w0 Λo r k).1 := ⟨_, rfl⟩
        obtain ⟨t, ht⟩ : ∃ t, t = (srl V n N w0 Λo r k).2 := ⟨_, rfl⟩
        have ez : srl V n N w0 Λo r k = (ρ, t) := by rw [hρ, ht]
        rw [es, ez]
        rw [← hρ] at hS
        rw [← ht] at hcn
        have d1 := k_draw hS
        have h1 := hS.sed (sdn (ρ 5))
        have d2 := k_draw h1
        have e5 : upd ρ 5 (sdn (ρ 5)) 5 = sdn (ρ 5) := by rw [q_upd, if_pos rfl]
        rw [e5, mrow_mrow, mrow_self, upd_upd] at d2
        have h2 := hS.sed (sdn (sdn (ρ 5)))
        have hFm : ∀ f, FrS j a (mrow a (13, j) f) := fun f q _ _ _ e3 => mrow_ne e3
        have hF2 := hF.tr (hFm (upd (a (13, j)) 5 (sdn (sdn (ρ 5)))))
        obtain ⟨p, hp⟩ : ∃ p, p = drN (sdn (ρ 5)) % n := ⟨_, rfl⟩
        obtain ⟨q, hq⟩ : ∃ q, q = drN (sdn (sdn (ρ 5))) % n := ⟨_, rfl⟩
        have hpn : p < n := by rw [hp]; exact Nat.mod_lt _ hn0
        have hqn : q < n := by rw [hq]; exact Nat.mod_lt _ hn0
        have eS : sst V n N w0 Λo (ρ, t) = if p = q ∨ (se ρ p).testBit q = false then (upd ρ 5 (sdn (sdn (ρ 5))), t) else (trtR V n N w0 Λo false p q (upd ρ 5 (sdn (sdn (ρ 5)))), t + 1) := by
          rw [hp, hq]; rfl
        rw [eS]
        have hd1 := drN_lt (sdn (ρ 5))
        have hd2 := drN_lt (sdn (sdn (ρ 5)))
        have ep : nI (drN (sdn (ρ 5))) - nI (drN (sdn (ρ 5))) / nI n * nI n = nI p := by rw [q_div (by omega) hn0 (by omega), pk_mul, q_rem, hp]
        have eq : nI (drN (sdn (sdn (ρ 5)))) - nI (drN (sdn (sdn (ρ 5)))) / nI n * nI n = nI q := by rw [q_div (by omega) hn0 (by omega), pk_mul, q_rem, hq]
        have es2 := k_hasSight (sh := sh) h2.1 hpn hqn
        rw [se_sed] at es2
        have hstep : ∀ X, (if nI p = nI q then some (.inl (l, mrow a (13, j) (upd (a (13, j)) 5 (sdn (sdn (ρ 5)))), nI t, nI k + (1 : Int32)), 0, 0) else ((f_X6_hasSight sh l j (mrow a (13, j) (upd (a (13, j)) 5 (sdn (sdn (ρ 5))))) (nI p) (nI q)).bind fun x55 => if x55 = 0 then some (.inl (l, mrow a (13, j) (upd (a (13, j)) 5 (sdn (sdn (ρ 5)))), nI t, nI k + (1 : Int32)), 0, 0) else ((f_X0_treatOneA sh l j (mrow a (13, j) (upd (a (13, j)) 5 (sdn (sdn (ρ 5))))) (nI p) (nI q) (0 : Int32)).bind fun x68 => addc x68.2.1 x68.2.2 (some (.inl (x68.1.2.1, x68.1.2.2, (nI t + (1 : Int32)), (nI k + (1 : Int32))), 0, 0)))) : Option ((((Nat → Nat) × Mm × Int32 × Int32) ⊕ (Int32 × (Nat → Nat) × Mm)) × Nat × Nat)) = X →
            f_X0_strollByA_L15 sh l j (nI m) a (nI t) (nI k) = X := by
          intro X hX
          rw [← hX, f_X0_strollByA_L15, if_neg (by rw [q_le (by omega) (by omega)]; omega), d1, Option.bind_some]
          have c1 := h1.1.c1
          have c2 := h2.1.c1
          simp only [c1, d2, Option.bind_some, c2, ep, eq]
          rw [q_cd hn0 (by omega), q_cd hn0 (by omega)]
        have hpq : (nI p = nI q) = (p = q) := q_eq (by omega) (by omega)
        by_cases c1 : p = q
        · rw [if_pos (Or.inl c1)]
          refine ⟨(l, mrow a (13, j) (upd (a (13, j)) 5 (sdn (sdn (ρ 5)))), nI t, nI (k + 1)), 0, 0, hstep _ ?_, l, _, rfl, hG, h2, hF2⟩
          rw [if_pos (hpq.mpr c1), show (1 : Int32) = nI 1 from rfl, nI_add]
        · cases c2 : (se ρ p).testBit q
          · rw [if_pos (Or.inr rfl)]
            rw [c2] at es2
            refine ⟨(l, mrow a (13, j) (upd (a (13, j)) 5 (sdn (sdn (ρ 5)))), nI t, nI (k + 1)), 0, 0, hstep _ ?_, l, _, rfl, hG, h2, hF2⟩
            rw [if_neg (fun e => c1 (hpq.mp e)), es2, Option.bind_some, if_pos (show bI false = 0 from rfl), show (1 : Int32) = nI 1 from rfl, nI_add]
          · rw [if_neg (fun e => by rcases e with e | e; exact c1 e; exact absurd e (by decide))]
            rw [c2] at es2
            obtain ⟨l3, a3, kc3, ks3, e3, hG3, h3, hF3⟩ := k_treatOne h2 (hL.gr hG) (hB.gr hG) hj hpn hqn false
            have e3' : f_X0_treatOneA sh l j (mrow a (13, j) (upd (a (13, j)) 5 (sdn (sdn (ρ 5))))) (nI p) (nI q) (0 : Int32) = _ := e3
            refine ⟨(l3, a3, nI (t + 1), nI (k + 1)), kc3, ks3, hstep _ ?_, l3, a3, rfl, hG.tr hG3, h3, hF2.tr hF3⟩
            rw [if_neg (fun e => c1 (hpq.mp e)), es2, Option.bind_some, if_neg (show ¬ bI true = 0 by decide), e3', Option.bind_some, show (1 : Int32) = nI 1 from rfl, nI_add, nI_add]
            rfl
      · rintro _ kc ks ⟨l, a, rfl, hG, hS, hF⟩
        refine ⟨(nI (srl V n N w0 Λo r m).2, l, a), 0, 0, ?_, l, a, rfl, hG, hS, hF⟩
        show f_X0_strollByA_L15 sh l j (nI m) a (nI (srl V n N w0 Λo r m).2) (nI m) = _
        rw [f_X0_strollByA_L15, if_pos (Int32.le_refl _)]
        rfl
    obtain ⟨_, kc, ks, e, ln', m', rfl, hG, hS, hF⟩ := hh
    refine ⟨ln', m', kc, ks, ?_, hG, hS, hF⟩
    rw [f_X0_strollByA, if_pos hle]
    exact e
end SRL
