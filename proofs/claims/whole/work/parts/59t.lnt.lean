-- the village's lines that are told to all
section LNT
variable {sh : Sh} {ln : Nat → Nat} {μ a μq μk : Mm} {T : Nat → Nat} {z b b0 d V n N w0 : Nat} {r r1 : Nat → Int32} {Λo : Option LW} {x2 : Int32}
theorem RS.tm (h : RS μ V n N w0 r) : RS (mst μ (1, 0) (8 : Int32).toNatClampNeg (1 : Int32)) V n N w0 (upd r 8 (nI 1)) := by
  rw [mst_row, h.1]
  exact RS.set (tm_WF h.2) _
theorem QR.tm {μ : Mm} : QR μ (mst μ (1, 0) (8 : Int32).toNatClampNeg (1 : Int32)) := by
  rw [mst_row]
  exact ⟨Fr.rf.mr (by decide), fun i _ _ _ _ => by rw [mrow_neA (by omega)]⟩
theorem FrC.Sd {P : Nat → Prop} (h : FrC P μ a) (hP : ∀ c, P c → (1 ≤ c ∧ c < 15) ∨ (15 + 5 * d ≤ c ∧ c < 20 + 5 * d)) : FrS d μ a := h.S hP
theorem v_sees (hV : VL sh ln μq μk T z b d V n N w0 r Λo x2) (hX : VX sh ln μk d) : VO ((f_X11_readTwo (mst μq (1, 0) (8 : Int32).toNatClampNeg (1 : Int32))).bind fun x131 => if x131.1 = 0 then some ((0 : Int32), x131.2) else ((f_X11_seesFrom x131.2 (x131.2 (0, 0) 19) (x131.2 (0, 0) 20)).bind fun x148 => some ((1 : Int32), x148))) (f_X9_readSees sh ln μk) sh ln μq μk T z d Λo x2 := by
  obtain ⟨hR, hQ, hK, hS, hE⟩ := hV
  have hR1 := hR.tm
  have hQ1 : QC (mst μq (1, 0) (8 : Int32).toNatClampNeg (1 : Int32)) T z b := by rw [mst_row]; exact hQ.row (by omega) (by omega)
  rcases v_two hR1 hQ1 hK hS hX with ⟨aq, ak, p, q, b2, e1, e2, ⟨R2, Q2, K2, S2⟩, hp, hq, hne, f19, f20, f13, f14, qr, kf⟩ | ⟨aq, ak, x, e1, e2, f15, f7, qr, kf⟩
  · left
    obtain ⟨a3, e3, R3, F3⟩ := q_seesFrom R2 hp hq
    obtain ⟨k3, e4, S3, F4⟩ := k_look (sh := sh) S2 hX.2.2.2.1 hp hq
    have X2 := hX.fr (kf.V (d := d))
    have F4' : FrS d ak k3 := F4.Sd (fun c hc => by omega)
    have X3 := X2.fr F4'.V
    have S4 := S3.tm
    rw [rse_u8, rpt_u8] at R3
    refine ⟨a3, mst k3 (13, d) 7 (1 : Int32), V, n, N, w0, upd (rpt (fig V n q) N p (rse p q r)) 8 (nI 1), b2, ?_, ?_, ⟨R3, Q2.fr F3 (by decide) (by decide), (K2.S F4').S FrS.mst, S4, ⟨fun x => ?_, ?_⟩⟩, ?_, ?_⟩
    · rw [e1, Option.bind_some, if_neg (show ¬ (nI 1, aq).1 = 0 by show ¬ nI 1 = 0; decide)]
      show ((f_X11_seesFrom aq (aq (0, 0) 19) (aq (0, 0) 20)).bind fun x148 => some ((1 : Int32), x148)) = _
      rw [f19, f20, e3]
      rfl
    · rw [f_X9_readSees, e2, Option.bind_some, if_neg (show ¬ (nI 1, ak).1 = 0 by show ¬ nI 1 = 0; decide)]
      show (if ak (6, 0) 12 = 0 then none else (ce (sh 2 ((ak (6, 0) 12).toNatClampNeg - 1) = 1) ((f_X4_look sh ln ((ak (6, 0) 12).toNatClampNeg - 1) ak (ak (6, 0) 13) (ak (6, 0) 14)).bind fun x25 => if x25 (6, 0) 12 = 0 then none else (ce (sh 2 ((x25 (6, 0) 12).toNatClampNeg - 1) = 1) (some ((1 : Int32), (mst x25 (13, (x25 (6, 0) 12).toNatClampNeg - 1) 7 (1 : Int32)))))))) = _
      rw [if_neg X2.nz, X2.c, X2.s, f13, f14, e4, Option.bind_some, if_neg X3.nz, X3.c, X3.s]
      rfl
    · have y2 := x.2
      rw [q_upd, if_pos rfl] at y2
      exact absurd y2 (by decide)
    · rw [u8 _ (by omega)]
      show rlr _ p N (rse p q r) 2 = x2
      rw [rlr_ne (by omega), rse_ne (by omega)]
      exact hE.2
    · exact (QR.tm.tr qr).tr (F3.R (by decide))
    · exact (kf.V.tr F4'.V).tr FrS.mst.V
  · right
    refine ⟨aq, ak, x, ?_, ?_, f15, f7, QR.tm.tr qr, kf.W⟩
    · rw [e1]; rfl
    · rw [f_X9_readSees, e2]; rfl
/-- it is so, or not -/
theorem q_isSo (h : RS μ V n N w0 r) {P : Nat → Bool} (hP : ∀ w, w < N → μ (9, 0) w = bI (P w)) (x : Int32) : f_X11_isSo μ x = if P w0 = true then some (nI 1, mrow μ (1, 0) (drp (fun w => bI (P w)) N w0 r)) else some (nI 0, mst μ (0, 0) 15 x) := by
  have hb := h.2.b
  have hd : drp (μ (9, 0)) N w0 r = drp (fun w => bI (P w)) N w0 r := drp_congr h.2 (fun w hw _ => by rw [hP w hw, hP w0 hb.2.2.2.2.2])
  rw [f_X11_isSo, q_here h, Option.bind_some, q_ck (by omega) (by omega), q_cl (by omega), hP w0 hb.2.2.2.2.2]
  cases P w0
  · rw [if_neg (show ¬ bI false = 1 by decide), if_neg (show ¬ false = true by decide)]; rfl
  · rw [if_pos (show bI true = 1 from rfl), if_pos rfl, q_drops h, hd]; rfl
theorem k_tell (hS : STR sh ln μ d V n N w0 r Λo) (hX : VX sh ln μ d) {P : Nat → Bool} (hP : ∀ w, w < N → μ (12, 4) w = bI (P w)) : (P w0 = true → ∃ a, f_X9_tellAll sh ln μ (nI b0) = some (nI 1, a) ∧ STR sh ln a d V n N w0 (upd (drp (fun w => bI (P w)) N w0 r) 8 (nI 1)) Λo ∧ FrS d μ a) ∧ (¬ P w0 = true → f_X9_tellAll sh ln μ (nI b0) = some (nI 0, mst μ (6, 0) 7 (nI b0))) := by
  have hb := hS.1.1.b
  have hl4 : ln 4 = 512 := hX.2.2.2.1.2.2.2.2.1
  have es : f_X4_saidIn sh ln μ (nI w0) = some (bI (P w0)) := by
    rw [f_X4_saidIn, k_at (by omega) (by omega), hP w0 hb.2.2.2.2.2]
    rfl
  refine ⟨fun c => ?_, fun c => ?_⟩
  · obtain ⟨x, a, e1, S1, F1⟩ := k_heedS (sh := sh) hS hX.2.2.2.1 (c := fun w => bI (P w)) hP
    have F1' : FrS d μ a := F1.Sd (fun c hc => by omega)
    have X1 := hX.fr F1'.V
    refine ⟨mst a (13, d) 7 (1 : Int32), ?_, S1.tm, F1'.tr FrS.mst⟩
    rw [f_X9_tellAll, if_neg hX.nz, hX.c, hX.s, hS.1.c3, es, Option.bind_some, c, if_neg (show ¬ bI true = 0 by decide), if_neg hX.nz, hX.s, if_neg hX.nz, hX.s, e1, Option.bind_some]
    show (if a (6, 0) 12 = 0 then none else (ce (sh 2 ((a (6, 0) 12).toNatClampNeg - 1) = 1) (some ((1 : Int32), (mst a (13, (a (6, 0) 12).toNatClampNeg - 1) 7 (1 : Int32)))))) = _
    rw [if_neg X1.nz, X1.c, X1.s]
    rfl
  · rw [f_X9_tellAll, if_neg hX.nz, hX.c, hX.s, hS.1.c3, es, Option.bind_some, (Bool.not_eq_true _).mp c, if_pos (show bI false = 0 from rfl), f_X8_wrongAt_0, Option.bind_some]
    exact q_cb0
theorem FrX.Vf (h : FrX μ a) : FrV d μ a := h.S.V
/-- what came is laid out -/
theorem came_loop {f : Mm × Int32 → Option ((Mm × Int32) ⊕ (Int32 × Mm))} (N : Nat) (g : Nat → Int32) (R : Mm → Option (Int32 × Mm)) (hs : ∀ k A, k < N → f (mrow μ (9, 0) A, nI k) = some (.inl (mrow μ (9, 0) (upd A k (g k)), nI (k + 1)))) (he : ∀ A, f (mrow μ (9, 0) A, nI N) = Option.map Sum.inr (R (mrow μ (9, 0) A))) (hR : ∀ A, (∀ w, w < N → A w = g w) → ∃ y, R (mrow μ (9, 0) A) = some y) :
    ∃ A, (∀ w, w < N → A w = g w) ∧ Wh f (μ, (0 : Int32)) = R (mrow μ (9, 0) A) := by
  have hA : ∀ w, w < N → (fun i => if i < N then g i else μ (9, 0) i) w = g w := fun w hw => if_pos hw
  obtain ⟨y, hy⟩ := hR _ hA
  refine ⟨fun i => if i < N then g i else μ (9, 0) i, hA, ?_⟩
  rw [hy]
  refine Wh_it N (fun k => (mrow μ (9, 0) (fun i => if i < k then g i else μ (9, 0) i), nI k)) (by rw [cpy_0 (f := g), mrow_id]; rfl) (fun k hk => ?_) ?_
  · rw [hs _ _ hk, cpy_s (f := g)]
  · rw [he, hy]; rfl
/-- all are told -/
theorem v_tell {aq ak : Mm} {first : Int32} (hR : RS aq V n N w0 (upd r 8 (nI 1))) (hQ : QC aq T z b) (hK : KC 0 ln ak T z b) (hS : STR sh ln ak d V n N w0 r Λo) (hX : VX sh ln ak d) {P : Nat → Bool} (h9 : ∀ w, w < N → aq (9, 0) w = bI (P w)) (h12 : ∀ w, w < N → ak (12, 4) w = bI (P w)) (hf : first = nI b0) (h2 : r 2 = x2) :
    VO (f_X11_isSo aq first) (f_X9_tellAll sh ln ak (nI b0)) sh ln aq ak T z d Λo x2 := by
  have e1 := q_isSo hR h9 first
  have e2 := k_tell (b0 := b0) hS hX h12
  by_cases c : P w0 = true
  · left
    obtain ⟨a, e3, S3, F3⟩ := e2.1 c
    rw [if_pos c, drp_u8] at e1
    refine ⟨_, a, V, n, N, w0, _, b, e1, e3, ⟨RS.set S3.1.1 _, hQ.row (by omega) (by omega), hK.S F3, S3, ⟨fun x => ?_, ?_⟩⟩, ?_, F3.V⟩
    · have y2 := x.2
      rw [q_upd, if_pos rfl] at y2
      exact absurd y2 (by decide)
    · rw [u8 _ (by omega), drp_ne (by omega)]
      exact h2
    · exact ⟨Fr.rf.mr (by decide), fun i _ _ _ _ => by rw [mrow_neA (by omega)]⟩
  · right
    rw [if_neg c] at e1
    refine ⟨_, _, b0, e1, e2.2 c, ?_, wr7, QR.st (Or.inl rfl), FrV.wr⟩
    rw [mst_row, mrow_self, q_upd, if_pos rfl, hf]
theorem VO.pre {fq fk : Option (Int32 × Mm)} {aq ak : Mm} (h : VO fq fk sh ln aq ak T z d Λo x2) (hq : QR μq aq) (hk : FrV d μk ak) : VO fq fk sh ln μq μk T z d Λo x2 := by
  rcases h with ⟨x1, x2, V, n, N, w0, r, b, e1, e2, e3, e4, e5⟩ | ⟨x1, x2, x, e1, e2, e3, e4, e5, e6⟩
  · exact Or.inl ⟨x1, x2, V, n, N, w0, r, b, e1, e2, e3, hq.tr e4, hk.tr e5⟩
  · exact Or.inr ⟨x1, x2, x, e1, e2, e3, e4, hq.tr e5, hk.tw e6⟩
theorem VO.cbq {fq fk : Option (Int32 × Mm)} (h : VO fq fk sh ln μq μk T z d Λo x2) : VO (fq.bind fun x => cb x.1 (some (x.1, x.2))) fk sh ln μq μk T z d Λo x2 := by
  rcases h with ⟨x1, x2, V, n, N, w0, r, b, e1, e2, e3⟩ | ⟨x1, x2, x, e1, e2, e3⟩
  · exact Or.inl ⟨x1, x2, V, n, N, w0, r, b, by rw [e1]; exact q_cb1, e2, e3⟩
  · exact Or.inr ⟨x1, x2, x, by rw [e1]; exact q_cb0, e2, e3⟩
theorem VO.cbk {fq fk : Option (Int32 × Mm)} (h : VO fq fk sh ln μq μk T z d Λo x2) : VO fq (fk.bind fun x => cb x.1 (some (x.1, x.2))) sh ln μq μk T z d Λo x2 := by
  rcases h with ⟨x1, x2, V, n, N, w0, r, b, e1, e2, e3⟩ | ⟨x1, x2, x, e1, e2, e3⟩
  · exact Or.inl ⟨x1, x2, V, n, N, w0, r, b, e1, by rw [e2]; exact q_cb1, e3⟩
  · exact Or.inr ⟨x1, x2, x, e1, by rw [e2]; exact q_cb0, e3⟩
theorem v_match (hV : VL sh ln μq μk T z b d V n N w0 r Λo x2) (hX : VX sh ln μk d) (h15 : μq (0, 0) 15 = nI b0) (al : Bool) : VO (f_X11_readAlike (mst μq (1, 0) (8 : Int32).toNatClampNeg (1 : Int32)) (bI al)) (f_X9_readMatch sh ln μk (nI b0) (bI al)) sh ln μq μk T z d Λo x2 := by
  obtain ⟨hR, hQ, hK, hS, hE⟩ := hV
  have hR1 := hR.tm
  have hQ1 : QC (mst μq (1, 0) (8 : Int32).toNatClampNeg (1 : Int32)) T z b := by rw [mst_row]; exact hQ.row (by omega) (by omega)
  have h15' : mst μq (1, 0) (8 : Int32).toNatClampNeg (1 : Int32) (0, 0) 15 = nI b0 := by rw [mst_row, mrow_neA (by omega)]; exact h15
  rcases v_two hR1 hQ1 hK hS hX with ⟨aq, ak, p, q, b2, e1, e2, ⟨R2, Q2, K2, S2⟩, hp, hq, hne, f19, f20, f13, f14, qr, kf⟩ | ⟨aq, ak, x, e1, e2, f15, f7, qr, kf⟩
  · have hb := R2.2.b
    have X2 := hX.fr (kf.V (d := d))
    obtain ⟨C, e4, hC⟩ := k_sayAlike (sh := sh) S2.1 hX.2.2.2.1 hp hq al
    have FC : FrX ak (mrow ak (12, 4) C) := FrX.rf.mr (by omega) (by omega)
    have hs0 := fun (A : Nat → Int32) => R2.row (a := 9) (b := 0) A (by omega)
    obtain ⟨A, hA, e5⟩ := came_loop (f := fun z : Mm × Int32 => f_X11_readAlike_L16 (bI al) (nI b0) z.1 z.2) (μ := aq) N (fun w => bI (decide (fig V n p w = fig V n q w) == al)) (fun x => (f_X11_isSo x (nI b0)).bind fun x73 => cb x73.1 (some (x73.1, x73.2))) (fun k A hk => by
      have R' := hs0 A
      have r19 : mrow aq (9, 0) A (0, 0) 19 = nI p := by rw [mrow_neA (by omega)]; exact f19
      have r20 : mrow aq (9, 0) A (0, 0) 20 = nI q := by rw [mrow_neA (by omega)]; exact f20
      have t1 := fig_lt hb.1 n p k
      have t2 := fig_lt hb.1 n q k
      have qe : (nI (fig V n p k) = nI (fig V n q k)) = (fig V n p k = fig V n q k) := q_eq (by omega) (by omega)
      have hfin : ∀ v : Int32, v = bI (decide (fig V n p k = fig V n q k) == al) → ck 512 (nI k) (some (.inl ((mst (mrow aq (9, 0) A) (9, 0) (nI k).toNatClampNeg v), nI k + (1 : Int32)))) = (some (.inl (mrow aq (9, 0) (upd A k (bI (decide (fig V n p k = fig V n q k) == al))), nI (k + 1))) : Option ((Mm × Int32) ⊕ (Int32 × Mm))) := by
        intro v hv
        rw [q_ck (by omega) (by omega), q_cl (by omega), mst_row, mrow_mrow, mrow_self, show (1 : Int32) = nI 1 from rfl, nI_add, hv]
      show f_X11_readAlike_L16 (bI al) (nI b0) (mrow aq (9, 0) A) (nI k) = _
      rw [f_X11_readAlike_L16, q_worlds R', Option.bind_some, if_neg (by rw [q_le (by omega) (by omega)]; omega), r19, q_noticeIn R' hp hk, Option.bind_some, r20, q_noticeIn R' hq hk, Option.bind_some]
      by_cases c : fig V n p k = fig V n q k
      · rw [if_pos (qe.mpr c)]
        cases al
        · rw [if_neg (show ¬ bI false = 1 by decide)]
          exact hfin _ (by rw [decide_eq_true c]; rfl)
        · rw [if_pos (show bI true = 1 from rfl)]
          exact hfin _ (by rw [decide_eq_true c]; rfl)
      · rw [if_neg (fun x => c (qe.mp x))]
        cases al
        · rw [if_pos (show bI false = 0 from rfl)]
          exact hfin _ (by rw [decide_eq_false c]; rfl)
        · rw [if_neg (show ¬ bI true = 0 by decide)]
          exact hfin _ (by rw [decide_eq_false c]; rfl)) (fun A => by
      show f_X11_readAlike_L16 (bI al) (nI b0) (mrow aq (9, 0) A) (nI N) = _
      rw [f_X11_readAlike_L16, q_worlds (hs0 A), Option.bind_some, if_pos (Int32.le_refl _)]) (fun A hA => by
      have es := q_isSo (hs0 A) (P := fun w => (decide (fig V n p w = fig V n q w) == al)) (fun w hw => by rw [mrow_self]; exact hA w hw) (nI b0)
      show ∃ y, ((f_X11_isSo (mrow aq (9, 0) A) (nI b0)).bind fun x73 => cb x73.1 (some (x73.1, x73.2))) = some y
      rw [es]
      split
      · exact ⟨_, q_cb1⟩
      · exact ⟨_, q_cb0⟩)
    have hV2 := v_tell (b0 := b0) (first := nI b0) (R2.row (a := 9) (b := 0) A (by omega)) (Q2.row (k := 9) (f := A) (by omega) (by omega)) (K2.S (FC.S (j := d))) (S2.X FC) (X2.fr (FC.Vf)) (P := fun w => (decide (fig V n p w = fig V n q w) == al)) (fun w hw => by rw [mrow_self]; exact hA w hw) (fun w hw => by rw [mrow_self]; exact hC w hw) rfl hE.2
    have hq3 : f_X11_readAlike (mst μq (1, 0) (8 : Int32).toNatClampNeg (1 : Int32)) (bI al) = ((f_X11_isSo (mrow aq (9, 0) A) (nI b0)).bind fun x73 => cb x73.1 (some (x73.1, x73.2))) := by
      rw [f_X11_readAlike, e1, Option.bind_some, if_neg (show ¬ (nI 1, aq).1 = 0 by show ¬ nI 1 = 0; decide), h15']
      exact e5
    have hk3 : f_X9_readMatch sh ln μk (nI b0) (bI al) = ((f_X9_tellAll sh ln (mrow ak (12, 4) C) (nI b0)).bind fun x31 => cb x31.1 (some (x31.1, x31.2))) := by
      rw [f_X9_readMatch, e2, Option.bind_some, if_neg (show ¬ (nI 1, ak).1 = 0 by show ¬ nI 1 = 0; decide)]
      show (if ak (6, 0) 12 = 0 then none else (ce (sh 2 ((ak (6, 0) 12).toNatClampNeg - 1) = 1) ((f_X4_sayWhetherAlike sh ln ((ak (6, 0) 12).toNatClampNeg - 1) ak (ak (6, 0) 13) (ak (6, 0) 14) (bI al)).bind fun x26 => (f_X9_tellAll sh ln x26 (nI b0)).bind fun x31 => cb x31.1 (some (x31.1, x31.2))))) = _
      rw [if_neg X2.nz, X2.c, X2.s, f13, f14, e4, Option.bind_some]
    rw [hq3, hk3]
    refine (hV2.cbq.cbk).pre ?_ (kf.V.tr FC.Vf)
    exact (QR.tm.tr qr).tr ⟨Fr.rf.mr (by decide), fun i _ _ _ _ => by rw [mrow_neA (by omega)]⟩
  · right
    refine ⟨aq, ak, x, ?_, ?_, f15, f7, QR.tm.tr qr, kf.W⟩
    · rw [f_X11_readAlike, e1]; rfl
    · rw [f_X9_readMatch, e2]; rfl
end LNT
