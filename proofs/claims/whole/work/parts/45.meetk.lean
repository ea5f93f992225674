-- the manners of one to another one: the class
/-- the law of the State j -/
def LRk (sh : Sh) (μ : Mm) (j : Nat) (Λo : Option LW) : Prop := match Λo with
  | none => μ (13, j) 8 = nI 0
  | some Λ => ∃ i b, μ (13, j) 8 = nI (i + 1) ∧ i < sh 4 2 ∧ i + 1 < 2147483647 ∧ LWk sh μ i Λ b ∧ LWt Λ
theorem LRk.fr {sh : Sh} {P : Nat → Prop} {μ a : Mm} {j : Nat} {Λo : Option LW} (h : LRk sh μ j Λo) (hF : FrC P μ a) : LRk sh a j Λo := by
  unfold LRk at *
  cases Λo with
  | none => rw [hF.st (by omega)]; exact h
  | some Λ =>
    obtain ⟨i, b, h1, h2, h3, h4, h5⟩ := h
    refine ⟨i, b, by rw [hF.st (by omega)]; exact h1, h2, h3, ?_, h5⟩
    unfold LWk at *
    rw [hF.st (by omega), hF.st (by omega)]
    exact h4
theorem bit1 : ∀ c, c < 8 → nI (c &&& 1) = bI (decide (c % 2 = 1)) := by decide +kernel
theorem shr1 : ∀ c, c < 8 → nI c >>> ((1 : Int32) &&& 31) = nI (c / 2) := by decide +kernel
theorem and1 : ∀ c, c < 8 → nI c &&& (1 : Int32) = bI (decide (c % 2 = 1)) := by decide +kernel
theorem sho : ∀ f, f < 4 → ∀ b : Bool, (nI f <<< ((1 : Int32) &&& 31)) ||| bI b = nI (2 * f + (if b = true then 1 else 0)) := by decide +kernel
section MEETK
variable {sh : Sh} {ln : Nat → Nat} {μ : Mm} {j V n N w0 : Nat} {r : Nat → Int32} {Λo : Option LW}
theorem k_firstLike (hL : LN ln) {m : Nat → Int32} {c : Nat} (hc : c < 8) (hm : ∀ i, i ≤ c → μ (12, 6) i = m i) : f_X4_firstLike sh ln μ (nI c) = some (nI (alk m c)) := by
  have hl6 : ln 6 = 8 := hL.2.2.2.2.2.2.1
  obtain ⟨k1, k2, k3⟩ := alk_spec m c
  unfold f_X4_firstLike
  refine Wh_it (alk m c) (fun i => nI i) rfl (fun i hi => ?_) ?_
  · show f_X4_firstLike_L2 sh ln (nI c) μ (nI i) = _
    have h1 := k3 i hi
    simp (disch := omega) only [Option.bind_some, Option.map_some, Option.bind_none, q_lit, nI_add, pk_mul, q_sub, q_addn, q_cl, q_le, q_lt, q_eq, q_ck, q_cd, q_cb0, q_cb1, q_div, q_rem, q_shl1, q_shr, q_and, q_or, q_tb, if_pos, if_neg, if_true, if_false, not_true, not_false_iff, eq_self, Bool.true_eq_false, Bool.false_eq_true, q_bI0, q_bI1, q_cbI, Nat.or_zero, mst_row, mrow_neA, mrow_neB, mrow_self, q_upd, f_X4_firstLike_L2, k_at (sh := sh) (μ := μ) (show i < ln 6 by omega) (by omega), k_at (sh := sh) (μ := μ) (show c < ln 6 by omega) (by omega), hm i (by omega), hm c (Nat.le_refl c), h1]
  · show f_X4_firstLike_L2 sh ln (nI c) μ (nI (alk m c)) = _
    by_cases e : alk m c = c
    · rw [e]
      simp (disch := omega) only [Option.bind_some, Option.map_some, Option.bind_none, q_lit, nI_add, pk_mul, q_sub, q_addn, q_cl, q_le, q_lt, q_eq, q_ck, q_cd, q_cb0, q_cb1, q_div, q_rem, q_shl1, q_shr, q_and, q_or, q_tb, if_pos, if_neg, if_true, if_false, not_true, not_false_iff, eq_self, Bool.true_eq_false, Bool.false_eq_true, q_bI0, q_bI1, q_cbI, Nat.or_zero, mst_row, mrow_neA, mrow_neB, mrow_self, q_upd, f_X4_firstLike_L2, Nat.le_refl]
    · simp (disch := omega) only [Option.bind_some, Option.map_some, Option.bind_none, q_lit, nI_add, pk_mul, q_sub, q_addn, q_cl, q_le, q_lt, q_eq, q_ck, q_cd, q_cb0, q_cb1, q_div, q_rem, q_shl1, q_shr, q_and, q_or, q_tb, if_pos, if_neg, if_true, if_false, not_true, not_false_iff, eq_self, Bool.true_eq_false, Bool.false_eq_true, q_bI0, q_bI1, q_cbI, Nat.or_zero, mst_row, mrow_neA, mrow_neB, mrow_self, q_upd, f_X4_firstLike_L2, k_at (sh := sh) (μ := μ) (show alk m c < ln 6 by omega) (by omega), k_at (sh := sh) (μ := μ) (show c < ln 6 by omega) (by omega), hm (alk m c) k1, hm c (Nat.le_refl c), k2]
/-- what is put before the causes are gone through -/
def FCT (μ : Mm) (r : Nat → Int32) (p q : Nat) : Prop := μ (12, 8) 1 = nI p ∧ μ (12, 8) 2 = nI q ∧ μ (12, 8) 3 = r 4 ∧ μ (12, 8) 5 = bI ((se r q).testBit p)
theorem k_cause (hL : LN ln) (hK : LRk sh μ j Λo) {p q c : Nat} (hc : c < 8) (hf : FCT μ r p q) (hM : ∀ i, i < c → μ (12, 6) i = mnn r Λo p q i) :
    ∃ a, f_X4_meet_L55 sh ln j (nI p) (nI q) μ (nI c) = some (.inl (a, nI (c + 1))) ∧ FrC (fun c => 6 ≤ c ∧ c < 10) μ a ∧ FCT a r p q ∧ a (12, 6) = upd (μ (12, 6)) c (mnn r Λo p q c) ∧ a (12, 7) = upd (μ (12, 7)) c (nI (alk (mnn r Λo p q) c)) := by
  have hl6 : ln 6 = 8 := hL.2.2.2.2.2.2.1
  have hl7 : ln 7 = 8 := hL.2.2.2.2.2.2.2.1
  have hl8 : ln 8 = 6 := hL.2.2.2.2.2.2.2.2.1
  obtain ⟨F, hF⟩ : ∃ F, F = upd (upd (μ (12, 8)) 0 (nI (c / 2))) 4 (bI (decide (c % 2 = 1))) := ⟨_, rfl⟩
  have hFE : ∀ i, i < 6 → F i = evF r p q (c / 2) (decide (c % 2 = 1)) i := fun i hi => by
    rw [hF, q_upd, q_upd]
    have : i = 0 ∨ i = 1 ∨ i = 2 ∨ i = 3 ∨ i = 4 ∨ i = 5 := by omega
    rcases this with rfl | rfl | rfl | rfl | rfl | rfl
    · rfl
    · exact hf.1
    · exact hf.2.1
    · exact hf.2.2.1
    · rfl
    · exact hf.2.2.2
  have e1 : f_X1_put sh ln 8 μ (0 : Int32) (nI c >>> ((1 : Int32) &&& 31)) = some (mrow μ (12, 8) (upd (μ (12, 8)) 0 (nI (c / 2)))) := by rw [shr1 c hc, show (0 : Int32) = nI 0 from rfl, k_put (by omega) (by omega)]
  have e2 : f_X1_put sh ln 8 (mrow μ (12, 8) (upd (μ (12, 8)) 0 (nI (c / 2)))) (4 : Int32) (nI c &&& (1 : Int32)) = some (mrow μ (12, 8) F) := by rw [and1 c hc, show (4 : Int32) = nI 4 from rfl, k_put (by omega) (by omega), mrow_mrow, mrow_self, ← hF]
  -- behind the total
  have hend : ∀ R, ∃ a, ((f_X1_put sh ln 6 (mrow (mrow μ (12, 8) F) (12, 9) R) (nI c) (mnn r Λo p q c)).bind fun x118 => (f_X4_firstLike sh ln x118 (nI c)).bind fun x130 => (f_X1_put sh ln 7 x118 (nI c) x130).bind fun x133 => some (.inl (x133, nI c + (1 : Int32))) : Option ((Mm × Int32) ⊕ Mm)) = some (.inl (a, nI (c + 1))) ∧ FrC (fun c => 6 ≤ c ∧ c < 10) μ a ∧ FCT a r p q ∧ a (12, 6) = upd (μ (12, 6)) c (mnn r Λo p q c) ∧ a (12, 7) = upd (μ (12, 7)) c (nI (alk (mnn r Λo p q) c)) := by
    intro R
    obtain ⟨M, hMM⟩ : ∃ M, M = upd (μ (12, 6)) c (mnn r Λo p q c) := ⟨_, rfl⟩
    have e3 : f_X1_put sh ln 6 (mrow (mrow μ (12, 8) F) (12, 9) R) (nI c) (mnn r Λo p q c) = some (mrow (mrow (mrow μ (12, 8) F) (12, 9) R) (12, 6) M) := by rw [k_put (by omega) (by omega), mrow_neB (by omega), mrow_neB (by omega), ← hMM]
    have e4 : f_X4_firstLike sh ln (mrow (mrow (mrow μ (12, 8) F) (12, 9) R) (12, 6) M) (nI c) = some (nI (alk (mnn r Λo p q) c)) := k_firstLike hL hc (fun i hi => by
      rw [mrow_self, hMM, q_upd]
      by_cases e : i = c
      · rw [if_pos e, e]
      · rw [if_neg e]; exact hM i (by omega))
    have e5 : f_X1_put sh ln 7 (mrow (mrow (mrow μ (12, 8) F) (12, 9) R) (12, 6) M) (nI c) (nI (alk (mnn r Λo p q) c)) = some (mrow (mrow (mrow (mrow μ (12, 8) F) (12, 9) R) (12, 6) M) (12, 7) (upd (μ (12, 7)) c (nI (alk (mnn r Λo p q) c)))) := by
      rw [k_put (by omega) (by omega), mrow_neB (by omega), mrow_neB (by omega), mrow_neB (by omega)]
    refine ⟨mrow (mrow (mrow (mrow μ (12, 8) F) (12, 9) R) (12, 6) M) (12, 7) (upd (μ (12, 7)) c (nI (alk (mnn r Λo p q) c))), ?_, ?_, ?_, ?_, ?_⟩
    · rw [e3, Option.bind_some, e4, Option.bind_some, e5, Option.bind_some, show (1 : Int32) = nI 1 from rfl, nI_add]
    · exact (((FrC.rf.mr (by omega)).mr (by omega)).mr (by omega)).mr (by omega)
    · unfold FCT
      rw [mrow_neB (by omega), mrow_neB (by omega), mrow_neB (by omega), mrow_self, hF]
      exact hf
    · rw [mrow_neB (by omega), mrow_self, hMM]
    · rw [mrow_self]
  have em : mnn r Λo p q c = MB Λo (evF r p q (c / 2) (decide (c % 2 = 1))) := rfl
  cases Λo with
  | none =>
    have h8 : μ (13, j) 8 = nI 0 := hK
    obtain ⟨a, ea, hr⟩ := hend (μ (12, 9))
    have eR : mrow (mrow μ (12, 8) F) (12, 9) (μ (12, 9)) = mrow μ (12, 8) F := by
      rw [show μ (12, 9) = mrow μ (12, 8) F (12, 9) from (mrow_neB (by omega)).symm, mrow_id]
    rw [eR] at ea
    refine ⟨a, ?_, hr⟩
    have h8' : mrow μ (12, 8) F (13, j) 8 = 0 := by rw [mrow_neA (by omega)]; exact h8
    rw [f_X4_meet_L55, if_neg (by rw [show (8 : Int32) = nI 8 from rfl, q_le (by omega) (by omega)]; omega), e1, Option.bind_some, e2, Option.bind_some, if_pos h8']
    exact ea
  | some Λ =>
    obtain ⟨i, b, h8, hi, hi2, hW, hT⟩ := hK
    have h8n : ¬ mrow μ (12, 8) F (13, j) 8 = 0 := by
      rw [mrow_neA (by omega), h8, show (0 : Int32) = nI 0 from rfl, q_eq (by omega) (by omega)]; omega
    have h8i : (mrow μ (12, 8) F (13, j) 8).toNatClampNeg - 1 = i := by
      rw [mrow_neA (by omega), h8, q_cl (by omega)]; omega
    have hW' : LWk sh (mrow μ (12, 8) F) i Λ b := by
      unfold LWk at *
      rw [mrow_neA (by omega), mrow_neA (by omega)]
      exact hW
    obtain ⟨R, et⟩ := k_total (E := evF r p q (c / 2) (decide (c % 2 = 1))) hL hW' hT (fun x hx => by rw [mrow_self]; exact hFE x hx) (is01_b _) (is01_b _)
    obtain ⟨a, ea, hr⟩ := hend R
    refine ⟨a, ?_, hr⟩
    rw [f_X4_meet_L55, if_neg (by rw [show (8 : Int32) = nI 8 from rfl, q_le (by omega) (by omega)]; omega), e1, Option.bind_some, e2, Option.bind_some, if_neg h8n, h8i, if_neg h8n, et, Option.bind_some]
    unfold ce
    rw [if_pos hi, if_pos hi]
    exact ea
theorem k_meet (h : CS ln μ j V n N w0 r) (hL : LN ln) (hK : LRk sh μ j Λo) (hd : μ (13, j) 4 = r 4) {p q : Nat} (hp : p < n) (hq : q < n) :
    ∃ a, f_X4_meet sh ln j μ (nI p) (nI q) = some a ∧ FrC (fun c => 2 ≤ c ∧ c < 10) μ a ∧ (∀ w, w < N → a (12, 3) w = nI (cmm r Λo V n N p q w)) ∧ ∀ i, i < 8 → a (12, 6) i = mnn r Λo p q i := by
  have hb := h.1.b
  have hl3 : ln 3 = 512 := hL.2.2.2.1
  have hl7 : ln 7 = 8 := hL.2.2.2.2.2.2.2.1
  have hl8 : ln 8 = 6 := hL.2.2.2.2.2.2.2.2.1
  obtain ⟨F, hF⟩ : ∃ F, F = upd (upd (upd (μ (12, 8)) 1 (nI p)) 2 (nI q)) 3 (r 4) := ⟨_, rfl⟩
  have e1 : f_X1_put sh ln 8 μ (1 : Int32) (nI p) = some (mrow μ (12, 8) (upd (μ (12, 8)) 1 (nI p))) := by rw [show (1 : Int32) = nI 1 from rfl, k_put (by omega) (by omega)]
  have e2 : f_X1_put sh ln 8 (mrow μ (12, 8) (upd (μ (12, 8)) 1 (nI p))) (2 : Int32) (nI q) = some (mrow μ (12, 8) (upd (upd (μ (12, 8)) 1 (nI p)) 2 (nI q))) := by rw [show (2 : Int32) = nI 2 from rfl, k_put (by omega) (by omega), mrow_mrow, mrow_self]
  have e3 : f_X1_put sh ln 8 (mrow μ (12, 8) (upd (upd (μ (12, 8)) 1 (nI p)) 2 (nI q))) (3 : Int32) (mrow μ (12, 8) (upd (upd (μ (12, 8)) 1 (nI p)) 2 (nI q)) (13, j) 4) = some (mrow μ (12, 8) F) := by
    rw [mrow_neA (by omega), hd, show (3 : Int32) = nI 3 from rfl, k_put (by omega) (by omega), mrow_mrow, mrow_self, ← hF]
  have h1 := h.rowS (a := 12) (b := 8) F (by omega) (by omega)
  have e4 : f_X6_hasSight sh ln j (mrow μ (12, 8) F) (nI q) (nI p) = some (bI ((se r q).testBit p)) := k_hasSight h1 hq hp
  obtain ⟨G, hG⟩ : ∃ G, G = upd F 5 (bI ((se r q).testBit p)) := ⟨_, rfl⟩
  have e5 : f_X1_put sh ln 8 (mrow μ (12, 8) F) (5 : Int32) (bI ((se r q).testBit p)) = some (mrow μ (12, 8) G) := by
    rw [show (5 : Int32) = nI 5 from rfl, k_put (by omega) (by omega), mrow_mrow, mrow_self, ← hG]
  have hG1 : FCT (mrow μ (12, 8) G) r p q := by
    unfold FCT
    rw [mrow_self, hG, hF]
    exact ⟨rfl, rfl, rfl, rfl⟩
  have hF0 : FrC (fun c => 2 ≤ c ∧ c < 10) μ (mrow μ (12, 8) G) := FrC.rf.mr (by omega)
  have hh : ∃ a, Wh (fun z : Mm × Int32 => f_X4_meet_L55 sh ln j (nI p) (nI q) z.1 z.2) (mrow μ (12, 8) G, (0 : Int32)) = some a ∧ FrC (fun c => 2 ≤ c ∧ c < 10) μ a ∧ (∀ w, w < N → a (12, 3) w = nI (cmm r Λo V n N p q w)) ∧ ∀ i, i < 8 → a (12, 6) i = mnn r Λo p q i := by
    refine Wh_inv1 8 (fun k s => ∃ a, s = (a, nI k) ∧ FrC (fun c => 2 ≤ c ∧ c < 10) μ a ∧ FCT a r p q ∧ ∀ i, i < k → a (12, 6) i = mnn r Λo p q i ∧ a (12, 7) i = nI (alk (mnn r Λo p q) i)) _ ⟨_, rfl, hF0, hG1, fun i hi => by omega⟩ ?_ ?_
    · rintro k _ hk ⟨a, rfl, hFa, hFc, hI⟩
      obtain ⟨a', e, hF', hFc', hM, hA⟩ := k_cause (sh := sh) hL (hK.fr hFa) hk hFc (fun i hi => (hI i hi).1)
      refine ⟨_, e, a', rfl, hFa.tr (hF'.mono (fun c hc => ⟨by omega, hc.2⟩)), hFc', fun i hi => ?_⟩
      rw [hM, hA, q_upd, q_upd]
      by_cases e : i = k
      · rw [if_pos e, if_pos e, e]; exact ⟨rfl, rfl⟩
      · rw [if_neg e, if_neg e]; exact hI i (by omega)
    · rintro _ ⟨a, rfl, hFa, hFc, hI⟩
      have ha : CS ln a j V n N w0 r := h.scr (hFa.mono (fun c hc => by omega))
      obtain ⟨R, e, hR⟩ := k_spot (sh := sh) ha hL ha.stl (by omega) ha.stay hp hp
      have hh : ∃ x, Wh (fun z : Mm × Int32 => f_X4_meet_L156 sh ln j (nI p) (nI q) z.1 z.2) (mrow a (12, 2) R, nI 0) = some x ∧ ∃ C, x = mrow (mrow a (12, 2) R) (12, 3) C ∧ ∀ w, w < N → C w = nI (cmm r Λo V n N p q w) := by
        refine Wh_inv1 N (fun k s => ∃ C, s = (mrow (mrow a (12, 2) R) (12, 3) C, nI k) ∧ ∀ w, w < k → C w = nI (cmm r Λo V n N p q w)) _ ⟨a (12, 3), by rw [show a (12, 3) = mrow a (12, 2) R (12, 3) from (mrow_neB (by omega)).symm, mrow_id], fun w hw => by omega⟩ ?_ ?_
        · rintro k _ hk ⟨C, rfl, hC⟩
          have h' := (ha.rowS (a := 12) (b := 2) R (by omega) (by omega)).rowS (a := 12) (b := 3) C (by omega) (by omega)
          have hl := (h.1.hb hp hk).2
          have hRl := hR (lab r p k) hl
          have h16 : poss (lf r) (lab r p) (fig V n p) N (lab r p k) < 16 := poss_16 ⟨hb.1, hb.2.1⟩
          have e2 : f_X4_spotted sh ln j (mrow (mrow a (12, 2) R) (12, 3) C) (nI p) (nI k) = some (nI (poss (lf r) (lab r p) (fig V n p) N (lab r p k))) := by
            rw [k_spotted h' hL hp hk, mrow_neB (by omega), mrow_self, hRl]
          have hm1 := oo_m1 (show poss (lf r) (lab r p) (fig V n p) N (lab r p k) < 512 by omega)
          have hsd : sur (poss (lf r) (lab r p) (fig V n p) N (lab r p k)) = suR r V n N p k := rfl
          have hf := fig_lt hb.1 n q k
          have hcl := cau_lt (r := r) (n := n) (N := N) (p := p) (q := q) (w := k) ⟨hb.1, hb.2.1⟩
          have hA := (hI _ (show cau r V n N p q k < 8 by omega)).2
          have eA : alk (mnn r Λo p q) (cau r V n N p q k) = cmm r Λo V n N p q k := rfl
          rw [eA] at hA
          have eJ : f_X4_meet_J186 sh ln j (mrow (mrow a (12, 2) R) (12, 3) C) (nI p) (nI q) (nI k) (bI (suR r V n N p k)) = some (.inl (mrow (mrow a (12, 2) R) (12, 3) (upd C k (nI (cmm r Λo V n N p q k))), nI (k + 1))) := by
            rw [f_X4_meet_J186, k_figure h' hq hk, Option.bind_some, sho _ (by omega)]
            show (f_X1_at sh ln 7 _ (nI (cau r V n N p q k))).bind _ = _
            rw [k_at (by omega) (by omega), Option.bind_some, mrow_neB (by omega), mrow_neB (by omega), hA, k_put (by omega) (by omega), Option.bind_some, mrow_mrow, mrow_self, show (1 : Int32) = nI 1 from rfl, nI_add]
          refine ⟨(mrow (mrow a (12, 2) R) (12, 3) (upd C k (nI (cmm r Λo V n N p q k))), nI (k + 1)), ?_, _, rfl, fun w hw => ?_⟩
          · show f_X4_meet_L156 sh ln j (nI p) (nI q) (mrow (mrow a (12, 2) R) (12, 3) C) (nI k) = _
            cases c1 : suR r V n N p k
            · rw [c1] at eJ hsd
              rw [hsd] at hm1
              simp (disch := omega) only [f_X4_meet_L156, h'.c2, q_le, e2, Option.bind_some, k_onlyOne (show poss (lf r) (lab r p) (fig V n p) N (lab r p k) < 512 by omega), q_lit, hm1, if_neg, if_true]
              exact eJ
            · rw [c1] at eJ hsd
              rw [hsd] at hm1
              simp (disch := omega) only [f_X4_meet_L156, h'.c2, q_le, e2, Option.bind_some, k_onlyOne (show poss (lf r) (lab r p) (fig V n p) N (lab r p k) < 512 by omega), q_lit, hm1, if_neg, Bool.true_eq_false, if_false]
              exact eJ
          · rw [q_upd]
            by_cases e : w = k
            · rw [if_pos e, e]
            · rw [if_neg e]; exact hC w (by omega)
        · rintro _ ⟨C, rfl, hC⟩
          have h' := (ha.rowS (a := 12) (b := 2) R (by omega) (by omega)).rowS (a := 12) (b := 3) C (by omega) (by omega)
          refine ⟨_, ?_, C, rfl, hC⟩
          show f_X4_meet_L156 sh ln j (nI p) (nI q) (mrow (mrow a (12, 2) R) (12, 3) C) (nI N) = _
          simp (disch := omega) only [Option.bind_some, Option.map_some, Option.bind_none, q_lit, nI_add, pk_mul, q_sub, q_addn, q_cl, q_le, q_lt, q_eq, q_ck, q_cd, q_cb0, q_cb1, q_div, q_rem, q_shl1, q_shr, q_and, q_or, q_tb, if_pos, if_neg, if_true, if_false, not_true, not_false_iff, eq_self, Bool.true_eq_false, Bool.false_eq_true, q_bI0, q_bI1, q_cbI, Nat.or_zero, mst_row, mrow_neA, mrow_neB, mrow_self, q_upd, f_X4_meet_L156, h'.c2, Nat.le_refl]
      obtain ⟨_, e2, C, rfl, hC⟩ := hh
      refine ⟨mrow (mrow a (12, 2) R) (12, 3) C, ?_, (hFa.mr (by omega)).mr (by omega), fun w hw => by rw [mrow_self]; exact hC w hw, fun i hi => by rw [mrow_neB (by omega), mrow_neB (by omega)]; exact (hI i hi).1⟩
      show f_X4_meet_L55 sh ln j (nI p) (nI q) a (nI 8) = _
      rw [f_X4_meet_L55, if_pos (by decide), e, Option.bind_some]
      rw [show (0 : Int32) = nI 0 from rfl, e2]
      rfl
  obtain ⟨a, e, hr⟩ := hh
  refine ⟨a, ?_, hr⟩
  rw [f_X4_meet, e1, Option.bind_some, e2, Option.bind_some, e3, Option.bind_some, e4, Option.bind_some]
  cases hs : (se r q).testBit p
  · rw [hs] at e5
    rw [if_pos (show bI false = 0 from rfl), f_X4_meet_J49, show (0 : Int32) = bI false from rfl, e5, Option.bind_some]
    exact e
  · rw [hs] at e5
    rw [if_neg (show ¬ bI true = 0 by decide), f_X4_meet_J49, show (1 : Int32) = bI true from rfl, e5, Option.bind_some]
    exact e
end MEETK
