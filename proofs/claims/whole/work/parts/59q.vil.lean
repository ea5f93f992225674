-- the village's lines: what both sides need
theorem okN_iff {T : Nat → Nat} {z b m : Nat} (hb : b < z → nmv T z b ≤ 999) (hT : T b < 256) (hm : m < 2147483648) : okN T z b (0 : Int32) (nI m - (1 : Int32)) ↔ KN T z b = 2 ∧ nmv T z b < m := by
  have hk := KN_2 (z := z) hT
  unfold okN
  refine ⟨fun h => ⟨h.1, ?_⟩, fun h => ⟨h.1, ?_, ?_⟩⟩
  · have h1 := hb (hk.mp h.1).1
    by_cases c : m = 0
    · have h2 := h.2.2
      rw [c] at h2
      have h3 : nI 0 - (1 : Int32) < nI 0 := by decide
      have h4 : nI 0 ≤ nI (nmv T z b) := nI_le (by omega) (by omega)
      exact absurd (Int32.lt_of_le_of_lt (Int32.le_trans h4 h2) h3) Int32.lt_irrefl
    · have h2 := h.2.2
      rw [show (1 : Int32) = nI 1 from rfl, q_sub (by omega), q_le (by omega) (by omega)] at h2
      omega
  · exact nI_nneg (by omega)
  · rw [show (1 : Int32) = nI 1 from rfl, q_sub (by omega), q_le (by omega) (by omega)]
    omega
theorem okN_lit {T : Nat → Nat} {z b lo hi : Nat} (hb : b < z → nmv T z b ≤ 999) (hT : T b < 256) (hh : lo < 2147483648 ∧ hi < 2147483648) : okN T z b (nI lo) (nI hi) ↔ KN T z b = 2 ∧ lo ≤ nmv T z b ∧ nmv T z b ≤ hi := by
  have hk := KN_2 (z := z) hT
  unfold okN
  refine ⟨fun h => ?_, fun h => ?_⟩
  · have h1 := hb (hk.mp h.1).1
    have h2 := h.2.1
    have h3 := h.2.2
    rw [q_lt (by omega) (by omega)] at h2
    rw [q_le (by omega) (by omega)] at h3
    exact ⟨h.1, by omega, h3⟩
  · have h1 := hb (hk.mp h.1).1
    refine ⟨h.1, ?_, ?_⟩
    · rw [q_lt (by omega) (by omega)]; omega
    · rw [q_le (by omega) (by omega)]; omega
section TAKE
variable {sh : Sh} {ln : Nat → Nat} {μ : Mm} {T : Nat → Nat} {z b : Nat}
theorem KC.nb' {c : Nat} (h : KC c ln μ T z b) : b < z → nmv T z b ≤ 999 := fun h1 => nmv_le h1
theorem k_take0 (h : KC 0 ln μ T z b) {v : Nat} (hv : 0 < v ∧ v < 2147483648) : (KN T z b = v → ∃ a, f_X8_take_0 sh ln μ (nI v) = some (nI 1, a) ∧ KS 0 μ a ∧ KC 0 ln a T z (nx T z b)) ∧ (¬ KN T z b = v → f_X8_take_0 sh ln μ (nI v) = some (nI 0, mst μ (6, 0) 7 (nI b))) := by
  have hl := KN_lt (z := z) (h.t256 b)
  have qe : (nI (KN T z b) = nI v) = (KN T z b = v) := q_eq (by omega) hv.2
  refine ⟨fun c => ?_, fun c => ?_⟩
  · have hb : b < z := by
      by_cases d : b < z
      · exact d
      · have := (KN_0 (h.t256 b)).mpr d
        omega
    obtain ⟨a, e1, e2, e3⟩ := k_step0 (sh := sh) h hb
    exact ⟨a, by rw [f_X8_take_0, h.kind, if_pos (qe.mpr c), e1]; rfl, e2, e3⟩
  · rw [f_X8_take_0, h.kind, if_neg (fun x => c (qe.mp x)), h.beg, f_X8_wrongAt_0, Option.bind_some]
    exact q_cb0
theorem k_takeN0 (h : KC 0 ln μ T z b) (lo hi : Int32) : (okN T z b lo hi → ∃ a, f_X8_takeNumber_0 sh ln μ lo hi = some (nI 1, a) ∧ KS 0 μ a ∧ KC 0 ln a T z (nx T z b) ∧ μ (6, 0) 10 = nI (nmv T z b)) ∧ (¬ okN T z b lo hi → f_X8_takeNumber_0 sh ln μ lo hi = some (nI 0, mst μ (6, 0) 7 (nI b))) := by
  have hl := KN_lt (z := z) (h.t256 b)
  have qe : (nI (KN T z b) = (2 : Int32)) = (KN T z b = 2) := q_eq (b := 2) (by omega) (by omega)
  have fin : ((f_X8_wrongAt_0 sh ln μ (μ (6, 0) 9)).bind fun x29 => cb x29.1 (some (x29.1, x29.2))) = some (nI 0, mst μ (6, 0) 7 (nI b)) := by
    rw [h.beg, f_X8_wrongAt_0, Option.bind_some]
    exact q_cb0
  have hk := KN_2 (z := z) (h.t256 b)
  refine ⟨fun c => ?_, fun c => ?_⟩
  · have hb : b < z := (hk.mp c.1).1
    have hn := h.num hb
    obtain ⟨a, e1, e2, e3⟩ := k_step0 (sh := sh) h hb
    exact ⟨a, by rw [f_X8_takeNumber_0, h.kind, if_pos (qe.mpr c.1), hn, if_neg c.2.1, if_pos c.2.2, e1]; rfl, e2, e3, hn⟩
  · rw [f_X8_takeNumber_0, h.kind]
    by_cases d : KN T z b = 2
    · have hb : b < z := (hk.mp d).1
      have hn := h.num hb
      rw [if_pos (qe.mpr d), hn]
      by_cases e : nI (nmv T z b) < lo
      · rw [if_pos e, fin]
      · rw [if_neg e, if_neg (fun x => c ⟨d, e, x⟩), fin]
    · rw [if_neg (fun x => d (qe.mp x)), fin]
theorem k_take1 (h : KC 1 ln μ T z b) {v : Nat} (hv : 0 < v ∧ v < 2147483648) : (KN T z b = v → ∃ a, f_X8_take_1 sh ln μ (nI v) = some (nI 1, a) ∧ KS 1 μ a ∧ KC 1 ln a T z (nx T z b)) ∧ (¬ KN T z b = v → f_X8_take_1 sh ln μ (nI v) = some (nI 0, mst μ (6, 1) 7 (nI b))) := by
  have hl := KN_lt (z := z) (h.t256 b)
  have qe : (nI (KN T z b) = nI v) = (KN T z b = v) := q_eq (by omega) hv.2
  refine ⟨fun c => ?_, fun c => ?_⟩
  · have hb : b < z := by
      by_cases d : b < z
      · exact d
      · have := (KN_0 (h.t256 b)).mpr d
        omega
    obtain ⟨a, e1, e2, e3⟩ := k_step1 (sh := sh) h hb
    exact ⟨a, by rw [f_X8_take_1, h.kind, if_pos (qe.mpr c), e1]; rfl, e2, e3⟩
  · rw [f_X8_take_1, h.kind, if_neg (fun x => c (qe.mp x)), h.beg, f_X8_wrongAt_1, Option.bind_some]
    exact q_cb0
theorem k_takeN1 (h : KC 1 ln μ T z b) (lo hi : Int32) : (okN T z b lo hi → ∃ a, f_X8_takeNumber_1 sh ln μ lo hi = some (nI 1, a) ∧ KS 1 μ a ∧ KC 1 ln a T z (nx T z b) ∧ μ (6, 1) 10 = nI (nmv T z b)) ∧ (¬ okN T z b lo hi → f_X8_takeNumber_1 sh ln μ lo hi = some (nI 0, mst μ (6, 1) 7 (nI b))) := by
  have hl := KN_lt (z := z) (h.t256 b)
  have qe : (nI (KN T z b) = (2 : Int32)) = (KN T z b = 2) := q_eq (b := 2) (by omega) (by omega)
  have fin : ((f_X8_wrongAt_1 sh ln μ (μ (6, 1) 9)).bind fun x29 => cb x29.1 (some (x29.1, x29.2))) = some (nI 0, mst μ (6, 1) 7 (nI b)) := by
    rw [h.beg, f_X8_wrongAt_1, Option.bind_some]
    exact q_cb0
  have hk := KN_2 (z := z) (h.t256 b)
  refine ⟨fun c => ?_, fun c => ?_⟩
  · have hb : b < z := (hk.mp c.1).1
    have hn := h.num hb
    obtain ⟨a, e1, e2, e3⟩ := k_step1 (sh := sh) h hb
    exact ⟨a, by rw [f_X8_takeNumber_1, h.kind, if_pos (qe.mpr c.1), hn, if_neg c.2.1, if_pos c.2.2, e1]; rfl, e2, e3, hn⟩
  · rw [f_X8_takeNumber_1, h.kind]
    by_cases d : KN T z b = 2
    · have hb : b < z := (hk.mp d).1
      have hn := h.num hb
      rw [if_pos (qe.mpr d), hn]
      by_cases e : nI (nmv T z b) < lo
      · rw [if_pos e, fin]
      · rw [if_neg e, if_neg (fun x => c ⟨d, e, x⟩), fin]
    · rw [if_neg (fun x => d (qe.mp x)), fin]
end TAKE
-- States: what keeps them
section STK
variable {sh : Sh} {ln : Nat → Nat} {μ a : Mm} {j V n N w0 : Nat} {r : Nat → Int32} {Λo : Option LW}
theorem STR.al (h : STR sh ln μ j V n N w0 r Λo) (e13 : a (13, j) = μ (13, j)) (e12 : ∀ i, i < 5 → a (12, 15 + 5 * j + i) = μ (12, 15 + 5 * j + i)) (eL : ∀ q : Ky, q.1 = 14 ∨ q.1 = 15 → a q = μ q) : STR sh ln a j V n N w0 r Λo := by
  obtain ⟨g1, g2, g3, g4, g5⟩ := h
  refine ⟨g1.to g1.1 Sam.rf (fun i hi => by rw [e13]) (fun i hi => e12 i (by omega)), g2.kp (by rw [e13]; exact ⟨rfl, rfl⟩) (e12 4 (by omega)) rfl (fun _ _ _ => rfl) g1.1.hlg.2, g3.to (by rw [e13]) eL, g4, ?_⟩
  rw [e13]
  exact g5
theorem STR.k6 (h : STR sh ln μ j V n N w0 r Λo) {c : Nat} (e : ∀ q : Ky, q ≠ (6, c) → a q = μ q) : STR sh ln a j V n N w0 r Λo := h.al (e _ (by simp)) (fun i _ => e _ (by simp)) (fun q hq => e q (fun y => by rw [y] at hq; rcases hq with hq | hq <;> injection hq <;> contradiction))
theorem u8 (i : Nat) (hi : i ≠ 8) {r : Nat → Int32} : upd r 8 (nI 1) i = r i := by rw [q_upd, if_neg hi]
theorem tm_WF (h : WF V n N w0 r) : WF V n N w0 (upd r 8 (nI 1)) := by
  have hlg := h.hlg
  exact h.chg (fun i h0 _ => u8 i (by omega)) (u8 _ (by omega)) (u8 _ (by omega)) (u8 _ (by omega)) ⟨lgd r, hlg.2, by rw [u8 _ (by omega)]; exact hlg.1⟩ (by rw [u8 _ (by omega)]; exact h.2.2.2.2.2.2.2.1) (by rw [u8 _ (by omega)]; exact h.2.2.2.2.2.2.2.2.1) (Or.inr (by rw [q_upd, if_pos rfl]))
theorem LRw.tm (h : LRw r Λo) : LRw (upd r 8 (nI 1)) Λo := by
  cases Λo with
  | none => show upd r 8 (nI 1) 3 = nI 0; rw [u8 3 (by omega)]; exact h
  | some Λ =>
    obtain ⟨h1, h2, h3⟩ := h
    refine ⟨by rw [u8 _ (by omega)]; exact h1, ⟨by rw [u8 _ (by omega)]; exact h2.1, fun k hk => ?_, fun i hi => ?_⟩, h3⟩
    · rw [u8 _ (by omega), u8 _ (by omega), u8 _ (by omega)]; exact h2.2.1 k hk
    · rw [u8 _ (by omega), u8 _ (by omega)]; exact h2.2.2 i hi
/-- more was told: the State is closed -/
theorem STR.tm (h : STR sh ln μ j V n N w0 r Λo) : STR sh ln (mst μ (13, j) 7 (1 : Int32)) j V n N w0 (upd r 8 (nI 1)) Λo := by
  obtain ⟨g1, g2, g3, g4, g5, g6, g7, g8⟩ := h
  have em : ∀ i, i ≠ 7 → mst μ (13, j) 7 (1 : Int32) (13, j) i = μ (13, j) i := fun i hi => by rw [mst_row, mrow_self, q_upd, if_neg hi]
  refine ⟨g1.to (tm_WF g1.1) (fun i h0 h1 => u8 i (by omega)) (fun i hi => em i (by omega)) (fun i hi => by rw [mst_row, mrow_neA (by omega)]), g2.kp ⟨em _ (by omega), em _ (by omega)⟩ (by rw [mst_row, mrow_neA (by omega)]) (u8 _ (by omega)) (fun i h0 h1 => u8 i (by omega)) g1.1.hlg.2, g3.to (em _ (by omega)) (fun q hq => by
    rw [mst_row]
    exact mrow_ne (fun y => by rw [y] at hq; rcases hq with hq | hq <;> injection hq <;> contradiction)), g4.tm, ?_, ?_, ?_, ?_⟩
  · rw [em _ (by omega), u8 _ (by omega)]; exact g5
  · rw [em _ (by omega), u8 _ (by omega)]; exact g6
  · rw [em _ (by omega), u8 _ (by omega)]; exact g7
  · have e8 : upd r 8 (nI 1) 8 = nI 1 := by rw [q_upd, if_pos rfl]
    rw [e8, mst_row, mrow_self, q_upd, if_pos rfl, decide_eq_true (show ¬ (upd r 8 (nI 1) 7 = nI 0 ∧ nI 1 = nI 0) from fun x => absurd x.2 (by decide))]
    rfl
theorem lf_u8 : lf (upd r 8 (nI 1)) = lf r := by funext w; unfold lf; rw [u8 _ (by omega)]
theorem lab_u8 : lab (upd r 8 (nI 1)) = lab r := by funext p w; unfold lab; rw [u8 _ (by omega)]
theorem se_u8 : se (upd r 8 (nI 1)) = se r := by funext p; unfold se; rw [u8 _ (by omega)]
theorem drp_u8 (c : Nat → Int32) : drp c N w0 (upd r 8 (nI 1)) = upd (drp c N w0 r) 8 (nI 1) := by
  funext i
  show (if 20 ≤ i ∧ i < 20 + N ∧ ¬ c (i - 20) = c w0 then nI 0 else upd r 8 (nI 1) i) = _
  rw [q_upd, q_upd]
  by_cases e : i = 8
  · rw [if_neg (by omega), if_pos e, if_pos e]
  · rw [if_neg e, if_neg e]
    rfl
theorem rse_u8 (p q : Nat) : rse p q (upd r 8 (nI 1)) = upd (rse p q r) 8 (nI 1) := by
  funext i
  unfold rse
  rw [se_u8, q_upd, q_upd, q_upd, q_upd]
  by_cases e : i = 8
  · rw [if_neg (by omega), if_pos e, if_pos e]
  · rw [if_neg e, if_neg e]
theorem rpt_u8 (cm : Nat → Nat) (p : Nat) : rpt cm N p (upd r 8 (nI 1)) = upd (rpt cm N p r) 8 (nI 1) := by
  funext i
  unfold rpt rlr relab
  rw [lf_u8, lab_u8, q_upd, q_upd]
  by_cases e : i = 8
  · rw [if_neg (by omega), if_pos e, if_pos e]
  · rw [if_neg e, if_neg e]
/-- one sees a back -/
theorem k_look (h : STR sh ln μ j V n N w0 r Λo) (hL : LN ln) {p q : Nat} (hp : p < n) (hq : q < n) :
    ∃ x, f_X4_look sh ln j μ (nI p) (nI q) = some x ∧ STR sh ln x j V n N w0 (rpt (fig V n q) N p (rse p q r)) Λo ∧ FrC (fun c => c = 1 ∨ c = 3 ∨ c = 15 + 5 * j + 1 ∨ c = 15 + 5 * j + 3) μ x := by
  have hC := h.1
  have hb := hC.1.b
  have hl3 : ln 3 = 512 := hL.2.2.2.1
  have hgl := hC.2.2.1
  obtain ⟨a0, ha0⟩ : ∃ a0, a0 = mrow μ (12, 15 + 5 * j + 1) (upd (μ (12, 15 + 5 * j + 1)) p (nI (se r p ||| 2 ^ q))) := ⟨_, rfl⟩
  have h0 := hC.see hp hq
  rw [← ha0] at h0
  have e1 : f_X1_addBits sh ln (15 + 5 * j + 1) μ (nI p) (nI (2 ^ q)) = some a0 := by
    rw [k_addBits (by omega) (hgl.2 1 (by omega)), (hC.2.2.2.1 p hp).2, (hC.1.hs hp).1, q_or, ← ha0]
  have e1' : (1 : Int32) <<< (nI q &&& 31) = nI (2 ^ q) := q_shl1' _ (by omega)
  have hh : ∃ x, Wh (fun z : Mm × Int32 => f_X4_look_L14 sh ln j (nI p) (nI q) z.1 z.2) (a0, nI 0) = some x ∧ CS ln x j V n N w0 (rpt (fig V n q) N p (rse p q r)) ∧ FrC (fun c => c = 1 ∨ c = 3 ∨ c = 15 + 5 * j + 3) a0 x := by
    refine Wh_inv1 N (fun k s => ∃ C, s = (mrow a0 (12, 3) C, nI k) ∧ ∀ w, w < k → C w = nI (fig V n q w)) _ ⟨a0 (12, 3), by rw [mrow_id], fun w hw => by omega⟩ ?_ ?_
    · rintro k _ hk ⟨C, rfl, hCC⟩
      have h' := h0.rowS (a := 12) (b := 3) C (by omega) (by omega)
      have ep : f_X1_put sh ln 3 (mrow a0 (12, 3) C) (nI k) (nI (fig V n q k)) = some (mrow a0 (12, 3) (upd C k (nI (fig V n q k)))) := by rw [k_put (by omega) (by omega), mrow_mrow, mrow_self]
      refine ⟨(mrow a0 (12, 3) (upd C k (nI (fig V n q k))), nI (k + 1)), ?_, _, rfl, fun w hw => ?_⟩
      · show f_X4_look_L14 sh ln j (nI p) (nI q) (mrow a0 (12, 3) C) (nI k) = _
        simp (disch := omega) only [Option.bind_some, Option.map_some, Option.bind_none, q_lit, nI_add, pk_mul, q_sub, q_addn, q_cl, q_le, q_lt, q_eq, q_ck, q_cd, q_cb0, q_cb1, q_div, q_rem, q_shl1, q_shr, q_and, q_or, q_tb, if_pos, if_neg, if_true, if_false, not_true, not_false_iff, eq_self, Bool.true_eq_false, Bool.false_eq_true, q_bI0, q_bI1, q_cbI, Nat.or_zero, mst_row, mrow_neA, mrow_neB, mrow_self, q_upd, f_X4_look_L14, h'.c2, k_figure h' hq hk, ep]
      · rw [q_upd]
        by_cases e : w = k
        · rw [if_pos e, e]
        · rw [if_neg e]; exact hCC w (by omega)
    · rintro _ ⟨C, rfl, hCC⟩
      have h' := h0.rowS (a := 12) (b := 3) C (by omega) (by omega)
      obtain ⟨x, e, hx, hF⟩ := k_split (sh := sh) h' hL hp (cm := fig V n q) (fun w hw _ => by rw [mrow_self]; exact hCC w hw) (fun w _ => by have := fig_lt hb.1 n q w; omega)
      refine ⟨x, ?_, hx, (FrC.rf.mr (Or.inr (Or.inl rfl))).tr (hF.mono (fun c hc => by omega))⟩
      show f_X4_look_L14 sh ln j (nI p) (nI q) (mrow a0 (12, 3) C) (nI N) = _
      simp (disch := omega) only [Option.bind_some, Option.map_some, Option.bind_none, q_lit, nI_add, pk_mul, q_sub, q_addn, q_cl, q_le, q_lt, q_eq, q_ck, q_cd, q_cb0, q_cb1, q_div, q_rem, q_shl1, q_shr, q_and, q_or, q_tb, if_pos, if_neg, if_true, if_false, not_true, not_false_iff, eq_self, Bool.true_eq_false, Bool.false_eq_true, q_bI0, q_bI1, q_cbI, Nat.or_zero, mst_row, mrow_neA, mrow_neB, mrow_self, q_upd, f_X4_look_L14, h'.c2, Nat.le_refl, e]
  obtain ⟨x, e2, hx, hF⟩ := hh
  have hF2 : FrC (fun c => c = 1 ∨ c = 3 ∨ c = 15 + 5 * j + 1 ∨ c = 15 + 5 * j + 3) μ x := by
    have : FrC (fun c => c = 1 ∨ c = 3 ∨ c = 15 + 5 * j + 1 ∨ c = 15 + 5 * j + 3) μ a0 := by rw [ha0]; exact FrC.rf.mr (by omega)
    exact this.tr (hF.mono (fun c hc => by omega))
  have eR : ∀ i, i < 11 ∨ 5140 ≤ i → rpt (fig V n q) N p (rse p q r) i = r i := fun i hi => (show rlr _ p N (rse p q r) i = r i by rw [rlr_ne (by omega), rse_ne (by omega)])
  exact ⟨x, by rw [f_X4_look, e1', e1, Option.bind_some]; exact e2, h.ch hx ((SL.rse (by omega)).tr (SL.rpt (by omega) hb.2.2.2.1)) (eR _ (by omega)) (eR _ (by omega)) (fun i _ _ => eR i (by omega)) (hF2.mono (fun c hc => by omega)), hF2⟩
/-- worlds in which it is not so are left no more -/
theorem k_heedS (h : STR sh ln μ j V n N w0 r Λo) (hL : LN ln) {c : Nat → Int32} (hc : ∀ w, w < N → μ (12, 4) w = c w) :
    ∃ x a, f_X4_heed sh ln j (15 + 5 * j + 2) μ = some (x, a) ∧ STR sh ln a j V n N w0 (drp c N w0 r) Λo ∧ FrC (fun c => c = 15 + 5 * j + 2) μ a := by
  have hC := h.1
  have hb := hC.1.b
  obtain ⟨R, e, hR⟩ := k_heed (sh := sh) (c := 15 + 5 * j + 2) (S := lf r) hL hC.c2 hC.c3 hb.2.2.2.2.2 hb.2.2.2.1 hC.stl (by omega) hC.stay
  have hd : drp (μ (12, 4)) N w0 r = drp c N w0 r := drp_congr hC.1 (fun w hw hl => by rw [hc w hw, hc w0 hb.2.2.2.2.2])
  have h1 := hC.drp (c := μ (12, 4)) hR
  rw [hd] at h1
  exact ⟨_, _, e, h.ch h1 (SL.drp hb.2.2.2.1) (drp_ne (by omega)) (drp_ne (by omega)) (fun i _ _ => drp_ne (by omega)) (FrC.rf.mr (by omega)), FrC.rf.mr rfl⟩
end STK
