-- loops that count cost
theorem WhC_inv {S R : Type} {f : S → Option ((S ⊕ R) × Nat × Nat)} {s0 : S} (m : Nat) (I : Nat → S → Nat → Nat → Prop) (Q : R → Nat → Nat → Prop) (h0 : I 0 s0 0 0)
    (hs : ∀ k s a b, k < m → I k s a b → ∃ s' c d, f s = some (.inl s', c, d) ∧ I (k + 1) s' (a + c) (b + d)) (he : ∀ s a b, I m s a b → ∃ r c d, f s = some (.inr r, c, d) ∧ Q r (a + c) (b + d)) :
    ∃ r kc ks, WhC f s0 = some (r, kc, ks) ∧ Q r kc ks := by
  obtain ⟨⟨r, kc, ks⟩, e, hQ⟩ := Wh_inv1 (f := whc f) (s0 := (s0, 0, 0)) m (fun k z => I k z.1 z.2.1 z.2.2) (fun z => Q z.1 z.2.1 z.2.2) h0 (fun k z hk hI => by
    obtain ⟨s', c, d, e, hI'⟩ := hs k z.1 z.2.1 z.2.2 hk hI
    refine ⟨(s', z.2.1 + c, z.2.2 + d), ?_, hI'⟩
    unfold whc
    rw [e]
    rfl) (fun z hI => by
    obtain ⟨r, c, d, e, hQ⟩ := he z.1 z.2.1 z.2.2 hI
    refine ⟨(r, z.2.1 + c, z.2.2 + d), ?_, hQ⟩
    unfold whc
    rw [e]
    rfl)
  exact ⟨r, kc, ks, e, hQ⟩
/-- the labels behind being treated -/
def rtp (b : Bool) (q N : Nat) (cm : Nat → Nat) (r : Nat → Int32) : Nat → Nat → Int32
  | 0 => r
  | k + 1 => if b = true ∨ k = q then rpt cm N k (rtp b q N cm r k) else rtp b q N cm r k
theorem rtp_ok {V n N w0 : Nat} {r : Nat → Int32} (h : WF V n N w0 r) {b : Bool} {q : Nat} {cm : Nat → Nat} : ∀ k, k ≤ n → WF V n N w0 (rtp b q N cm r k) ∧ SL r (rtp b q N cm r k) ∧ (∀ i, i < 532 ∨ 5140 ≤ i → rtp b q N cm r k i = r i) := by
  have hb := h.b
  intro k
  induction k with
  | zero => exact fun _ => ⟨h, SL.rf, fun _ _ => rfl⟩
  | succ k ih =>
    intro hk
    obtain ⟨h1, h2, h3⟩ := ih (by omega)
    unfold rtp
    by_cases c : b = true ∨ k = q
    · rw [if_pos c]
      refine ⟨rpt_WF h1 (by omega) cm, h2.tr (SL.rpt (by omega) hb.2.2.2.1), fun i hi => ?_⟩
      rw [← h3 i hi]
      exact rlr_ne (by omega)
    · rw [if_neg c]; exact ⟨h1, h2, h3⟩
theorem rtp_lf {V n N w0 : Nat} {r : Nat → Int32} (h : WF V n N w0 r) {b : Bool} {q : Nat} {cm : Nat → Nat} {k : Nat} (hk : k ≤ n) {w : Nat} (hw : w < 512) : lf (rtp b q N cm r k) w = lf r w := by
  unfold lf
  rw [(rtp_ok h k hk).2.2 _ (by omega)]
section TRT
variable {sh : Sh} {ln : Nat → Nat} {μ : Mm} {j V n N w0 : Nat} {r : Nat → Int32} {Λo : Option LW}
theorem CS.see (h : CS ln μ j V n N w0 r) {p q : Nat} (hp : p < n) (hq : q < n) : CS ln (mrow μ (12, 15 + 5 * j + 1) (upd (μ (12, 15 + 5 * j + 1)) p (nI (se r p ||| 2 ^ q)))) j V n N w0 (rse p q r) := by
  have hb := h.1.b
  refine ⟨rse_WF h.1 hp hq, by rw [mrow_neA (by omega)]; exact h.2.1, h.2.2.1, fun a ha => ?_, fun w hw => ?_, fun a w ha hw => ?_⟩
  · rw [mrow_neB (by omega), mrow_self]
    refine ⟨(h.2.2.2.1 a ha).1, ?_⟩
    rw [q_upd]
    by_cases e : a = p
    · subst e
      rw [if_pos rfl]
      show _ = upd r (11 + a) _ (11 + a)
      rw [q_upd, if_pos rfl]
    · rw [if_neg e, rse_ne (by omega)]; exact (h.2.2.2.1 a ha).2
  · rw [mrow_neB (by omega), rse_ne (by omega)]; exact h.2.2.2.2.1 w hw
  · rw [mrow_neB (by omega), rse_ne (by omega)]; exact h.2.2.2.2.2 a w ha hw
theorem k_turnTo (h : STR sh ln μ j V n N w0 r Λo) (hL : LN ln) (hB : LB ln) (hj : j < 11) {p q : Nat} (hp : p < n) (hq : q < n) :
    ACT (f_X0_turnToA sh ln j μ (nI p) (nI q)) sh ln μ j V n N w0 (TL V n N w0 (nI 2) (nI p) (nI q) (nI (fig V n q w0)) (rpt (fig V n q) N p (rse p q r))) Λo (nI (fig V n q w0)) := by
  have hC := h.1
  have hb := hC.1.b
  have hl3 : ln 3 = 512 := hL.2.2.2.1
  have hgl := hC.2.2.1
  obtain ⟨a0, ha0⟩ : ∃ a0, a0 = mrow μ (12, 15 + 5 * j + 1) (upd (μ (12, 15 + 5 * j + 1)) p (nI (se r p ||| 2 ^ q))) := ⟨_, rfl⟩
  have h0 := hC.see hp hq
  rw [← ha0] at h0
  have e1 : f_X1_addBits sh ln (15 + 5 * j + 1) μ (nI p) (nI (2 ^ q)) = some a0 := by
    rw [k_addBits (by omega) (hgl.2 1 (by omega)), (hC.2.2.2.1 p hp).2, (hC.1.hs hp).1, q_or, ← ha0]
  have e1' : (1 : Int32) <<< (nI q &&& 31) = nI (2 ^ q) := q_shl1' _ (by omega)
  have hh : ∃ x, Wh (fun z : Mm × Int32 => f_X4_look_L14 sh ln j (nI p) (nI q) z.1 z.2) (a0, nI 0) = some x ∧ CS ln x j V n N w0 (rpt (fig V n q) N p (rse p q r)) ∧ FrC (fun c => c = 1 ∨ c = 3 ∨ c = 15 + 5 * j + 3) a0 x := by
    refine Wh_inv1 N (fun k s => ∃ C, s = (mrow a0 (12, 3) C, nI k) ∧ ∀ w, w < k → C w = nI (fig V n q w)) _ ⟨a0 (12, 3), by rw [mrow_id], fun w hw => by omega⟩ ?_ ?_
    · rintro k _ hk ⟨C, rfl, hCC⟩
      have h' := h0.rowS (a := 12) (b := 3) C (by omega) (by omega)
      have ep : f_X1_put sh ln 3 (mrow a0 (12, 3) C) (nI k) (nI (fig V n q k)) = some (mrow a0 (12, 3) (upd C k (nI (fig V n q k)))) := by rw [k_put (by omega) (by omega), mrow_mrow, mrow_self]
      refine ⟨(mrow a0 (12, 3) (upd C k (nI (fig V n q k))), nI (k + 1)), ?_, _, rfl, fun w hw => ?_⟩
      · show f_X4_look_L14 sh ln j (nI p) (nI q) (mrow a0 (12, 3) C) (nI k) = _
        simp (disch := omega) only [Option.bind_some, Option.map_some, Option.bind_none, q_lit, nI_add, pk_mul, q_sub, q_addn, q_cl, q_le, q_lt, q_eq, q_ck, q_cd, q_cb0, q_cb1, q_div, q_rem, q_shl1, q_shr, q_and, q_or, q_tb, if_pos, if_neg, if_true, if_false, not_true, not_false_iff, eq_self, Bool.true_eq_false, Bool.false_eq_true, q_bI0, q_bI1, q_cbI, Nat.or_zero, mst_row, mrow_neA, mrow_neB, mrow_self, q_upd, f_X4_look_L14, h'.c2, k_figure h' hq hk, ep]
      · rw [q_upd]
        by_cases e : w = k
        · rw [if_pos e, e]
        · rw [if_neg e]; exact hCC w (by omega)
    · rintro _ ⟨C, rfl, hCC⟩
      have h' := h0.rowS (a := 12) (b := 3) C (by omega) (by omega)
      obtain ⟨x, e, hx, hF⟩ := k_split (sh := sh) h' hL hp (cm := fig V n q) (fun w hw _ => by rw [mrow_self]; exact hCC w hw) (fun w _ => by have := fig_lt hb.1 n q w; omega)
      refine ⟨x, ?_, hx, (FrC.rf.mr (Or.inr (Or.inl rfl))).tr (hF.mono (fun c hc => by omega))⟩
      show f_X4_look_L14 sh ln j (nI p) (nI q) (mrow a0 (12, 3) C) (nI N) = _
      simp (disch := omega) only [Option.bind_some, Option.map_some, Option.bind_none, q_lit, nI_add, pk_mul, q_sub, q_addn, q_cl, q_le, q_lt, q_eq, q_ck, q_cd, q_cb0, q_cb1, q_div, q_rem, q_shl1, q_shr, q_and, q_or, q_tb, if_pos, if_neg, if_true, if_false, not_true, not_false_iff, eq_self, Bool.true_eq_false, Bool.false_eq_true, q_bI0, q_bI1, q_cbI, Nat.or_zero, mst_row, mrow_neA, mrow_neB, mrow_self, q_upd, f_X4_look_L14, h'.c2, Nat.le_refl, e]
  obtain ⟨x, e2, hx, hF⟩ := hh
  have hF2 : FrC (fun c => c = 1 ∨ c = 3 ∨ c = 15 + 5 * j + 1 ∨ c = 15 + 5 * j + 3) μ x := by
    have : FrC (fun c => c = 1 ∨ c = 3 ∨ c = 15 + 5 * j + 1 ∨ c = 15 + 5 * j + 3) μ a0 := by rw [ha0]; exact FrC.rf.mr (by omega)
    exact this.tr (hF.mono (fun c hc => by omega))
  have eR : ∀ i, i < 11 ∨ 5140 ≤ i → rpt (fig V n q) N p (rse p q r) i = r i := fun i hi => (show rlr _ p N (rse p q r) i = r i by rw [rlr_ne (by omega), rse_ne (by omega)])
  have hS : STR sh ln x j V n N w0 (rpt (fig V n q) N p (rse p q r)) Λo := h.ch hx ((SL.rse (by omega)).tr (SL.rpt (by omega) hb.2.2.2.1)) (eR _ (by omega)) (eR _ (by omega)) (fun i _ _ => eR i (by omega)) (hF2.mono (fun c hc => by omega))
  have e3 : f_X4_look sh ln j μ (nI p) (nI q) = some x := by
    rw [f_X4_look, e1', e1, Option.bind_some]; exact e2
  rw [f_X0_turnToA, e3, Option.bind_some, hx.c3, k_figure hx hq hb.2.2.2.2.2, Option.bind_some]
  exact k_fin hS hB hj (hF2.S (fun c hc => by omega)) (nI 2) (nI p) (nI q) (nI (fig V n q w0)) (nI (fig V n q w0))
/-- the row behind a treatment -/
def trtR (V n N w0 : Nat) (Λo : Option LW) (b : Bool) (p q : Nat) (r : Nat → Int32) : Nat → Int32 := TL V n N w0 (bI b) (nI p) (nI q) (mnn r Λo p q (cmm r Λo V n N p q w0)) (rtp b q N (cmm r Λo V n N p q) r n)
theorem k_treatOne (h : STR sh ln μ j V n N w0 r Λo) (hL : LN ln) (hB : LB ln) (hj : j < 11) {p q : Nat} (hp : p < n) (hq : q < n) (b : Bool) :
    ACT (f_X0_treatOneA sh ln j μ (nI p) (nI q) (bI b)) sh ln μ j V n N w0 (trtR V n N w0 Λo b p q r) Λo (mnn r Λo p q (cmm r Λo V n N p q w0)) := by
  have hC := h.1
  have hb := hC.1.b
  have hl3 : ln 3 = 512 := hL.2.2.2.1
  have hl6 : ln 6 = 8 := hL.2.2.2.2.2.2.1
  obtain ⟨a0, e0, hF0, hM, hm6⟩ := k_meet (sh := sh) hC hL h.2.2.1 h.2.2.2.2.1 hp hq
  have hX : FrX μ a0 := hF0.Xs (fun c hc => by omega)
  have h0 := h.X hX
  have h8 : cmm r Λo V n N p q w0 < 8 := cmm_lt ⟨hb.1, hb.2.1⟩
  have em : f_X4_mannerIn sh ln a0 (a0 (13, j) 3) = some (mnn r Λo p q (cmm r Λo V n N p q w0)) := by
    rw [h0.1.c3, f_X4_mannerIn, k_at (by omega) (by omega), Option.bind_some, hM w0 hb.2.2.2.2.2, k_at (by omega) (by omega), Option.bind_some, hm6 _ h8]
  have hh : ∃ z kc ks, WhC (fun z : (Nat → Nat) × Mm × Int32 => f_X0_treatOneA_L26 sh z.1 j (nI p) (nI q) (bI b) (mnn r Λo p q (cmm r Λo V n N p q w0)) z.2.1 z.2.2) (ln, a0, (0 : Int32)) = some (z, kc, ks) ∧
      ∃ ln' m, z = (mnn r Λo p q (cmm r Λo V n N p q w0), ln', m) ∧ GR j ln ln' kc ks ∧ STR sh ln' m j V n N w0 (trtR V n N w0 Λo b p q r) Λo ∧ FrS j μ m := by
    refine WhC_inv n (fun k s a' b' => ∃ a, s = (ln, a, nI k) ∧ a' = 0 ∧ b' = 0 ∧ STR sh ln a j V n N w0 (rtp b q N (cmm r Λo V n N p q) r k) Λo ∧ FrC (fun c => c = 1 ∨ c = 15 + 5 * j + 3) a0 a) _ ⟨a0, rfl, rfl, rfl, h0, FrC.rf⟩ ?_ ?_
    · rintro k _ _ _ hk ⟨a, rfl, rfl, rfl, hS, hF⟩
      have hrk := rtp_ok hC.1 (b := b) (q := q) (cm := cmm r Λo V n N p q) k (by omega)
      have er : rtp b q N (cmm r Λo V n N p q) r (k + 1) = if b = true ∨ k = q then rpt (cmm r Λo V n N p q) N k (rtp b q N (cmm r Λo V n N p q) r k) else rtp b q N (cmm r Λo V n N p q) r k := rfl
      by_cases c : b = true ∨ k = q
      · obtain ⟨x, e1, hx, hFx⟩ := k_split (sh := sh) hS.1 hL (show k < n by omega) (cm := cmm r Λo V n N p q) (fun w hw _ => by rw [hF.ce (by omega)]; exact hM w hw) (fun w _ => cmm_lt ⟨hb.1, hb.2.1⟩)
        rw [if_pos c] at er
        have eR : ∀ i, i < 532 ∨ 5140 ≤ i → rpt (cmm r Λo V n N p q) N k (rtp b q N (cmm r Λo V n N p q) r k) i = rtp b q N (cmm r Λo V n N p q) r k i := fun i hi => rlr_ne (by omega)
        refine ⟨(ln, x, nI (k + 1)), 0, 0, ?_, x, rfl, rfl, rfl, ?_, hF.tr hFx⟩
        · show f_X0_treatOneA_L26 sh ln j (nI p) (nI q) (bI b) (mnn r Λo p q (cmm r Λo V n N p q w0)) a (nI k) = _
          cases b
          · have c' : k = q := by rcases c with c | c; exact absurd c (by decide); exact c
            subst c'
            simp (disch := omega) only [Option.bind_some, Option.map_some, Option.bind_none, q_lit, nI_add, pk_mul, q_sub, q_addn, q_cl, q_le, q_lt, q_eq, q_ck, q_cd, q_cb0, q_cb1, q_div, q_rem, q_shl1, q_shr, q_and, q_or, q_tb, if_pos, if_neg, if_true, if_false, not_true, not_false_iff, eq_self, Bool.true_eq_false, Bool.false_eq_true, q_bI0, q_bI1, q_cbI, Nat.or_zero, mst_row, mrow_neA, mrow_neB, mrow_self, q_upd, f_X0_treatOneA_L26, hS.1.c1, e1, bI_f]
          · simp (disch := omega) only [Option.bind_some, Option.map_some, Option.bind_none, q_lit, nI_add, pk_mul, q_sub, q_addn, q_cl, q_le, q_lt, q_eq, q_ck, q_cd, q_cb0, q_cb1, q_div, q_rem, q_shl1, q_shr, q_and, q_or, q_tb, if_pos, if_neg, if_true, if_false, not_true, not_false_iff, eq_self, Bool.true_eq_false, Bool.false_eq_true, q_bI0, q_bI1, q_cbI, Nat.or_zero, mst_row, mrow_neA, mrow_neB, mrow_self, q_upd, f_X0_treatOneA_L26, hS.1.c1, e1, bI_t]
        · rw [er]
          exact hS.ch hx (SL.rpt (by omega) hb.2.2.2.1) (eR _ (by omega)) (eR _ (by omega)) (fun i _ _ => eR i (by omega)) (hFx.mono (fun c hc => by omega))
      · rw [if_neg c] at er
        refine ⟨(ln, a, nI (k + 1)), 0, 0, ?_, a, rfl, rfl, rfl, by rw [er]; exact hS, hF⟩
        show f_X0_treatOneA_L26 sh ln j (nI p) (nI q) (bI b) (mnn r Λo p q (cmm r Λo V n N p q w0)) a (nI k) = _
        have cb : b = false := by cases b; rfl; exact absurd (Or.inl rfl) c
        subst cb
        have c' : ¬ k = q := fun e => c (Or.inr e)
        simp (disch := omega) only [Option.bind_some, Option.map_some, Option.bind_none, q_lit, nI_add, pk_mul, q_sub, q_addn, q_cl, q_le, q_lt, q_eq, q_ck, q_cd, q_cb0, q_cb1, q_div, q_rem, q_shl1, q_shr, q_and, q_or, q_tb, if_pos, if_neg, if_true, if_false, not_true, not_false_iff, eq_self, Bool.true_eq_false, Bool.false_eq_true, q_bI0, q_bI1, q_cbI, Nat.or_zero, mst_row, mrow_neA, mrow_neB, mrow_self, q_upd, f_X0_treatOneA_L26, hS.1.c1, c', bI_f]
    · rintro _ _ _ ⟨a, rfl, rfl, rfl, hS, hF⟩
      have hF' : FrS j μ a := hX.S.tr (hF.S (fun c hc => by omega))
      obtain ⟨ln', m, kc, ks, e, hG, hS', hFm⟩ := k_fin (μ0 := μ) hS hB hj hF' (bI b) (nI p) (nI q) (mnn r Λo p q (cmm r Λo V n N p q w0)) (mnn r Λo p q (cmm r Λo V n N p q w0))
      refine ⟨(mnn r Λo p q (cmm r Λo V n N p q w0), ln', m), kc, ks, ?_, ln', m, rfl, by rw [Nat.zero_add, Nat.zero_add]; exact hG, hS', hFm⟩
      show f_X0_treatOneA_L26 sh ln j (nI p) (nI q) (bI b) (mnn r Λo p q (cmm r Λo V n N p q w0)) a (nI n) = _
      have ele : (a (13, j) 1 ≤ nI n) := by rw [hS.1.c1]; exact Int32.le_refl _
      rw [f_X0_treatOneA_L26, if_pos ele]
      cases b
      · have e' : ((f_X4_sureBits sh ln j (15 + 5 * j + 2) a).bind fun x => (f_X6_noteA sh ln j a (0 : Int32) (nI p) (nI q) (mnn r Λo p q (cmm r Λo V n N p q w0)) x).bind fun y => addc y.2.1 y.2.2 (some ((mnn r Λo p q (cmm r Λo V n N p q w0), y.1.2.1, y.1.2.2), 0, 0))) = _ := e
        rw [if_pos (show bI false = 0 from rfl), e']
        rfl
      · have e' : ((f_X4_sureBits sh ln j (15 + 5 * j + 2) a).bind fun x => (f_X6_noteA sh ln j a (1 : Int32) (nI p) (nI q) (mnn r Λo p q (cmm r Λo V n N p q w0)) x).bind fun y => addc y.2.1 y.2.2 (some ((mnn r Λo p q (cmm r Λo V n N p q w0), y.1.2.1, y.1.2.2), 0, 0))) = _ := e
        rw [if_neg (show ¬ bI true = 0 by decide), e']
        rfl
  obtain ⟨_, kc, ks, e, ln', m, rfl, hG, hS, hFm⟩ := hh
  refine ⟨ln', m, kc, ks, ?_, hG, hS, hFm⟩
  rw [f_X0_treatOneA, e0, Option.bind_some, em, Option.bind_some]
  exact e
end TRT
