-- the acts themselves, one call of both
theorem xbO_l {sh : Sh} {lm : Nat → Nat} {μ : Mm} {K : Option (((Int32 ⊕ Nat) × Sh × (Nat → Nat) × Mm) × Nat × Nat)} {x : Option (Unit ⊕ Nat)} (h : x = some (.inl ())) : xbO x sh lm μ K = K := by rw [h]; rfl
theorem xbO_r {sh : Sh} {lm : Nat → Nat} {μ : Mm} {K : Option (((Int32 ⊕ Nat) × Sh × (Nat → Nat) × Mm) × Nat × Nat)} {x : Option (Unit ⊕ Nat)} {c : Nat} (h : x = some (.inr c)) : xbO x sh lm μ K = some ((.inr c, sh, lm, μ), 0, 0) := by rw [h]; rfl
theorem need_num (v a b : Int32) : (f_X11_in v a b = some (nI 1) ∧ g_X10_needNumber v a b = some (.inl ()) ∧ ¬ v < a ∧ v ≤ b) ∨ (f_X11_in v a b = some (nI 0) ∧ g_X10_needNumber v a b = some (.inr 3)) := by
  unfold f_X11_in g_X10_needNumber
  by_cases c1 : v < a
  · exact Or.inr ⟨by rw [if_pos c1]; rfl, by rw [if_pos c1]⟩
  · by_cases c2 : v ≤ b
    · exact Or.inl ⟨by rw [if_neg c1, if_neg (Int32.not_lt.mpr c2)]; rfl, by rw [if_neg c1, if_pos c2], c1, c2⟩
    · exact Or.inr ⟨by rw [if_neg c1, if_pos (Int32.not_le.mp c2)]; rfl, by rw [if_neg c1, if_neg c2]⟩
theorem SL.up {r ρ : Nat → Int32} (hS : SL (upd r 7 (nI 1)) ρ) : (∀ i, 5440 ≤ i → ρ i = r i) ∧ ρ 2 = r 2 ∧ ρ 7 = nI 1 :=
  ⟨fun i hi => by rw [hS.2.2.2.2.2 i hi, q_upd, if_neg (by omega)], by rw [hS.1, q_upd, if_neg (by omega)], by rw [hS.2.2.2.1, q_upd, if_pos rfl]⟩
theorem srl_sl {V n N w0 : Nat} {r : Nat → Int32} {Λo : Option LW} (h : WF V n N w0 r) (k : Nat) : (srl V n N w0 Λo r k).1 2 = r 2 ∧ (srl V n N w0 Λo r k).1 7 = r 7 := by
  induction k with
  | zero => exact ⟨rfl, rfl⟩
  | succ k ih =>
    unfold srl
    by_cases c : n = 0
    · rw [if_pos c]; exact ⟨rfl, rfl⟩
    · rw [if_neg c]
      have hW := sed_WF (srl_ok (Λo := Λo) h k).1 (sdn (sdn ((srl V n N w0 Λo r k).1 5)))
      unfold sst
      split
      · refine ⟨?_, ?_⟩
        · show upd (srl V n N w0 Λo r k).1 5 (sdn (sdn ((srl V n N w0 Λo r k).1 5))) 2 = r 2
          rw [q_upd, if_neg (by omega)]; exact ih.1
        · show upd (srl V n N w0 Λo r k).1 5 (sdn (sdn ((srl V n N w0 Λo r k).1 5))) 7 = r 7
          rw [q_upd, if_neg (by omega)]; exact ih.2
      · have hs : ∀ p q, SL (upd (srl V n N w0 Λo r k).1 5 (sdn (sdn ((srl V n N w0 Λo r k).1 5)))) (trtR V n N w0 Λo false p q (upd (srl V n N w0 Λo r k).1 5 (sdn (sdn ((srl V n N w0 Λo r k).1 5))))) := fun p q => (rtp_ok hW n (Nat.le_refl n)).2.1.tr SL.tel
        refine ⟨?_, ?_⟩
        · refine Eq.trans (b := (upd (srl V n N w0 Λo r k).1 5 (sdn (sdn ((srl V n N w0 Λo r k).1 5)))) 2) (hs _ _).1 ?_
          rw [q_upd, if_neg (by omega)]; exact ih.1
        · refine Eq.trans (b := (upd (srl V n N w0 Λo r k).1 5 (sdn (sdn ((srl V n N w0 Λo r k).1 5)))) 7) (hs _ _).2.2.2.1 ?_
          rw [q_upd, if_neg (by omega)]; exact ih.2
theorem RACT.bd {f : Option (Int32 × Mm)} {μ : Mm} {V n N w0 : Nat} {ρ : Nat → Int32} {x : Int32} (h : RACT f μ V n N w0 ρ x) : RACT (f.bind fun y => some (y.1, y.2)) μ V n N w0 ρ x := by
  obtain ⟨a, e, h2⟩ := h
  exact ⟨a, by rw [e]; rfl, h2⟩
section ACSS
variable {sh : Sh} {ln : Nat → Nat} {μq μk : Mm} {V n N w0 : Nat} {r : Nat → Int32} {Λo : Option LW} {j d t c z : Nat} {T : Nat → Nat} {md : Nat → Nat}
theorem RLL.nw (h : RLL sh ln μq μk V n N w0 r Λo j d t c T z) : NW sh μk j := ⟨h.2.1.1.1, h.2.1.1.2.2.1, h.2.1.1.2.2.2.2.2.1⟩
theorem RLL.b (h : RLL sh ln μq μk V n N w0 r Λo j d t c T z) : N ≤ 512 ∧ n ≤ 9 ∧ w0 < N := ⟨h.1.1.2.b.2.2.2.1, h.1.1.2.b.2.2.2.2.1, h.1.1.2.b.2.2.2.2.2⟩
theorem s_ask (h : RLL sh ln μq μk V n N w0 r Λo j d t c T z) (v : Int32) : STP (f_X11_ask μq v) (g_X10_ask sh ln μk v) sh ln mdI := by
  have hb := h.b
  have hj11 := h.nw.2.1
  have hc := q_call1 (h.1.1.z 0) (body := fun m => (f_X11_remembers m).bind fun x21 => (f_X11_lays x21 v v).bind fun x27 => Wh (fun z : Mm × Int32 => f_X11_ask_L32 v z.1 z.2) (x27, (0 : Int32))) v
  have g := g_needPerson (sh := sh) h.1.2.1.1 h.nw v
  by_cases c : inn v n
  · have c1 := hc.1 c
    have c2 := g.1 c
    obtain ⟨p, hp, rfl⟩ := c
    have hS : SL (upd r 7 (nI 1)) (TL V n N w0 (nI 3) (nI p) (-nI 1) (bI (suR (upd r 7 (nI 1)) V n N p w0)) (drp (fun w => bI (suR (upd r 7 (nI 1)) V n N p w)) N w0 (upd r 7 (nI 1)))) := (SL.drp hb.1).tr SL.tel
    have := act_step (md := mdI) h (fR := fun x21 => (f_X11_lays x21 (nI p) (nI p)).bind fun x27 => Wh (fun z : Mm × Int32 => f_X11_ask_L32 (nI p) z.1 z.2) (x27, (0 : Int32))) (F := fun sh lm j μ => f_X0_askOneA sh lm j μ (nI p)) (fun m hm => q_askB hm hp) (fun sh ln μ hS hL hB => k_askOne hS hL hB hj11 hp) hS.up.1 hS.up.2.1 hS.up.2.2
    rw [g_X10_ask, xbO_l c2]
    rw [show f_X11_ask μq (nI p) = _ from c1]
    exact this
  · exact thr_step (x := 0) (e := 1) h (by rw [g_X10_ask]; exact xbO_r (g.2 c)) (hc.2 c) (by decide) (by decide)
theorem s_read (h : RLL sh ln μq μk V n N w0 r Λo j d t c T z) (v : Int32) : STP (f_X11_read μq v) (g_X10_read sh ln μk v) sh ln mdI := by
  have hb := h.b
  have hj11 := h.nw.2.1
  have hc := q_call1 (h.1.1.z 0) (body := fun m => (f_X11_remembers m).bind fun x21 => (f_X11_readsOut x21 v).bind fun x26 => (f_X11_notice x26 v).bind fun x35 => (f_X11_tells x26 (5 : Int32) v (-1 : Int32) x35).bind fun x38 => (f_X11_notice x38 v).bind fun x43 => some (x43, x38)) v
  have g := g_needPerson (sh := sh) h.1.2.1.1 h.nw v
  by_cases c : inn v n
  · have c1 := hc.1 c
    have c2 := g.1 c
    obtain ⟨p, hp, rfl⟩ := c
    have hS : SL (upd r 7 (nI 1)) (TL V n N w0 (nI 5) (nI p) (-nI 1) (nI (fig V n p w0)) (drp (fun w => nI (fig V n p w)) N w0 (upd r 7 (nI 1)))) := (SL.drp hb.1).tr SL.tel
    have := act_step (md := mdI) h (fR := fun x21 => (f_X11_readsOut x21 (nI p)).bind fun x26 => (f_X11_notice x26 (nI p)).bind fun x35 => (f_X11_tells x26 (5 : Int32) (nI p) (-1 : Int32) x35).bind fun x38 => (f_X11_notice x38 (nI p)).bind fun x43 => some (x43, x38)) (F := fun sh lm j μ => f_X0_readOutA sh lm j μ (nI p)) (fun m hm => q_readB hm hp) (fun sh ln μ hS hL hB => k_readOut hS hL hB hj11 hp) hS.up.1 hS.up.2.1 hS.up.2.2
    rw [g_X10_read, xbO_l c2]
    rw [show f_X11_read μq (nI p) = _ from c1]
    exact this
  · exact thr_step (x := 0) (e := 1) h (by rw [g_X10_read]; exact xbO_r (g.2 c)) (hc.2 c) (by decide) (by decide)
theorem s_day (h : RLL sh ln μq μk V n N w0 r Λo j d t c T z) : STP (f_X11_day μq) (g_X10_day sh ln μk) sh ln md := by
  have hb := h.b
  have hj11 := h.nw.2.1
  have hd : SL (upd r 7 (nI 1)) (dayR V n N w0 (upd r 7 (nI 1))) := (SL.drp (c := fun w => nI (suO (upd r 7 (nI 1)) V n N w n)) (w0 := w0) hb.1).tr ⟨by unfold dayR; rw [q_upd, if_neg (by omega)], by unfold dayR; rw [q_upd, if_neg (by omega)], by unfold dayR; rw [q_upd, if_neg (by omega)], by unfold dayR; rw [q_upd, if_neg (by omega)], by unfold dayR; rw [q_upd, if_neg (by omega)], fun i hi => by unfold dayR; rw [q_upd, if_neg (by omega)]⟩
  have hS : SL (upd r 7 (nI 1)) (TL V n N w0 (nI 4) (-nI 1) (-nI 1) (nI (suO (upd r 7 (nI 1)) V n N w0 n)) (dayR V n N w0 (upd r 7 (nI 1)))) := hd.tr SL.tel
  exact act_step (md := md) h (F := fun sh lm j μ => f_X0_askAllA sh lm j μ) (fun m hm => q_dayB hm) (fun sh ln μ hS hL hB => k_askAll hS hL hB hj11) hS.up.1 hS.up.2.1 hS.up.2.2
/-- two people, an act -/
theorem act_2 (h : RLL sh ln μq μk V n N w0 r Λo j d t c T z) {fq : Option (Int32 × Mm)} {K : Option (((Int32 ⊕ Nat) × Sh × (Nat → Nat) × Mm) × Nat × Nat)} (v1 v2 : Int32) (h1 : md 1 = 1)
    (h0 : ¬ (inn v1 n ∧ inn v2 n) → fq = some (0, mst (mst μq (0, 0) 0 (0 : Int32)) (0, 0) 0 1))
    (hb : ∀ p q, p < n → q < n → v1 = nI p → v2 = nI q → STP fq K sh ln md) :
    STP fq (xbO (g_X10_needPerson sh ln μk v1) sh ln μk (xbO (g_X10_needPerson sh ln μk v2) sh ln μk K)) sh ln md := by
  have g1 := g_needPerson (sh := sh) h.1.2.1.1 h.nw v1
  have g2 := g_needPerson (sh := sh) h.1.2.1.1 h.nw v2
  have en : (1 : Int32) = nI (md 1) := by rw [h1]; rfl
  by_cases c1 : inn v1 n
  · by_cases c2 : inn v2 n
    · rw [xbO_l (g1.1 c1), xbO_l (g2.1 c2)]
      obtain ⟨p, hp, e1⟩ := c1
      obtain ⟨q, hq2, e2⟩ := c2
      exact hb p q hp hq2 e1 e2
    · exact thr_step (x := 0) h (by rw [xbO_l (g1.1 c1), xbO_r (g2.2 c2)]) (by rw [h0 (fun e => c2 e.2), en]) (by omega) (by omega)
  · exact thr_step (x := 0) h (by rw [xbO_r (g1.2 c1)]) (by rw [h0 (fun e => c1 e.1), en]) (by omega) (by omega)
theorem s_turn (h : RLL sh ln μq μk V n N w0 r Λo j d t c T z) (v1 v2 : Int32) : STP (f_X11_turn μq v1 v2) (g_X10_turn sh ln μk v1 v2) sh ln mdI := by
  have hb := h.b
  have hj11 := h.nw.2.1
  have hc := q_2 h.1.1 (fq := f_X11_turn μq v1 v2) (v1 := v1) (v2 := v2) (body := fun m => (f_X11_remembers m).bind fun x37 => (f_X11_seesFrom x37 v1 v2).bind fun x43 => (f_X11_notice x43 v2).bind fun x52 => (f_X11_tells x43 (2 : Int32) v1 v2 x52).bind fun x55 => (f_X11_notice x55 v2).bind fun x60 => some (x60, x55)) (J := fun s => f_X11_turn_J27 (mst μq (0, 0) 0 (0 : Int32)) v1 v2 s) (fun s => rfl) rfl
  refine act_2 h v1 v2 rfl hc.2 (fun p q hp hq2 e1 e2 => ?_)
  have k1 := hc.1 ⟨⟨p, hp, e1⟩, ⟨q, hq2, e2⟩⟩
  subst e1
  subst e2
  have hS : SL (upd r 7 (nI 1)) (TL V n N w0 (nI 2) (nI p) (nI q) (nI (fig V n q w0)) (rpt (fig V n q) N p (rse p q (upd r 7 (nI 1))))) := ((SL.rse (by omega)).tr (SL.rpt (by omega) hb.1)).tr SL.tel
  have := act_step (md := mdI) h (fR := fun x37 => (f_X11_seesFrom x37 (nI p) (nI q)).bind fun x43 => (f_X11_notice x43 (nI q)).bind fun x52 => (f_X11_tells x43 (2 : Int32) (nI p) (nI q) x52).bind fun x55 => (f_X11_notice x55 (nI q)).bind fun x60 => some (x60, x55)) (F := fun sh lm j μ => f_X0_turnToA sh lm j μ (nI p) (nI q)) (fun m hm => q_turnB hm hp hq2) (fun sh ln μ hS hL hB => k_turnTo hS hL hB hj11 hp hq2) hS.up.1 hS.up.2.1 hS.up.2.2
  rw [k1]
  exact this
theorem s_query (h : RLL sh ln μq μk V n N w0 r Λo j d t c T z) (v1 v2 v3 : Int32) : STP (f_X11_query μq v1 v2 v3) (g_X10_query sh ln μk v1 v2 v3) sh ln mdI := by
  have hb := h.b
  have hz := h.1.1.z 0
  have hV : V ≤ 4 := h.1.1.2.b.2.1
  have hj11 := h.nw.2.1
  have n1 := q_noPerson hz v1
  have n2 := q_noPerson hz v2
  have n3 := q_inn (m := V) (by omega) v3
  have g3 := g_needNotice (sh := sh) h.1.2.1.1 h.nw v3
  rw [g_X10_query]
  refine act_2 h v1 v2 rfl (fun c => ?_) (fun p q hp hq2 e1 e2 => ?_)
  · rw [f_X11_query]
    by_cases c1 : inn v1 n
    · exact (q_b0 (n1.1 c1) (fun z => rfl)).trans ((q_b1 (n2.2 (fun x => c ⟨c1, x⟩)) (fun z => rfl)).trans q_t1)
    · exact (q_b1 (n1.2 c1) (fun z => rfl)).trans q_t1
  · have m1 := n1.1 ⟨p, hp, e1⟩
    have m2 := n2.1 ⟨q, hq2, e2⟩
    by_cases c3 : inn v3 V
    · have m3 := n3.1 c3
      rw [xbO_l (g3.1 c3)]
      obtain ⟨v, hv, rfl⟩ := c3
      subst e1
      subst e2
      have hS : SL (upd r 7 (nI 1)) (TL V n N w0 (nI 7) (nI p) (nI q) (nI (ans (poss (lf (upd r 7 (nI 1))) (lab (upd r 7 (nI 1)) p) (fig V n q) N (lab (upd r 7 (nI 1)) p w0)) v)) (drp (fun w => nI (ans (poss (lf (upd r 7 (nI 1))) (lab (upd r 7 (nI 1)) p) (fig V n q) N (lab (upd r 7 (nI 1)) p w)) v)) N w0 (upd r 7 (nI 1)))) := (SL.drp hb.1).tr SL.tel
      have := act_step (md := mdI) h (F := fun sh lm j μ => f_X0_queryOneA sh lm j μ (nI p) (nI q) (nI v)) (fun m hm => q_queryB hm hp hq2 hv) (fun sh ln μ hS hL hB => k_queryOne hS hL hB hj11 hp hq2 hv) hS.up.1 hS.up.2.1 hS.up.2.2
      refine Eq.mp (congrArg (fun f => STP f _ sh ln mdI) ?_) this
      rw [f_X11_query]
      refine Eq.symm ((q_b0 m1 (fun z => rfl)).trans ((q_b0 m2 (fun z => rfl)).trans ?_))
      rw [q_values hz, Option.bind_some]
      refine (q_b1 m3 (fun z => rfl)).trans ?_
      rw [f_X11_query_J41]
      exact q_t0
    · refine thr_step (x := 0) h (xbO_r (g3.2 c3)) ?_ (by decide) (by decide)
      rw [f_X11_query]
      refine (q_b0 m1 (fun z => rfl)).trans ((q_b0 m2 (fun z => rfl)).trans ?_)
      rw [q_values hz, Option.bind_some]
      exact (q_b0 (n3.2 c3) (fun z => rfl)).trans q_t1
theorem s_stroll (h : RLL sh ln μq μk V n N w0 r Λo j d t c T z) (v : Int32) : STP (f_X11_stroll μq v) (g_X10_stroll sh ln μk v) sh ln mdA := by
  have hj11 := h.nw.2.1
  rw [f_X11_stroll, g_X10_stroll]
  rcases need_num v 1 30 with ⟨e1, e2, e3, e4⟩ | ⟨e1, e2⟩
  · have hv0 : ¬ v < 0 := fun y => e3 (Int32.lt_trans y (by decide))
    obtain ⟨m, hm, rfl⟩ := nI_of hv0
    have hm2 : m < 31 := by
      have e : (nI m ≤ nI 30) = (m ≤ 30) := q_le hm (by omega)
      have := e.mp e4
      omega
    rw [xbO_l e2]
    have hW : WF V n N w0 (upd r 7 (nI 1)) := don_WF h.1.1.2
    have hRL : LRw (upd r 7 (nI 1)) Λo := h.1.2.1.don.2.2.2.1
    have hs := srl_sl (Λo := Λo) hW m
    have ho := (srl_ok (Λo := Λo) hW m).2
    have := act_step (md := mdA) h (fR := fun x => (f_X11_strolls x (nI m)).bind fun y => some (y.1, y.2)) (F := fun sh lm j μ => f_X0_strollByA sh lm j μ (nI m)) (ρ := (srl V n N w0 Λo (upd r 7 (nI 1)) m).1) (fun μ hμ => (q_strolls hμ hRL hm2).1.bd) (fun sh ln μ hS hL hB => k_strollBy hS hL hB hj11 hm2) (fun i hi => by rw [ho i hi, q_upd, if_neg (by omega)]) (by rw [hs.1, q_upd, if_neg (by omega)]) (by rw [hs.2, q_upd, if_pos rfl])
    refine Eq.mp (congrArg (fun f => STP f _ sh ln mdA) ?_) this
    exact Eq.symm ((q_b1 e1 (fun z => rfl)).trans q_t0)
  · refine thr_step (x := 0) h (xbO_r e2) ?_ (by decide) (by decide)
    exact (q_b0 e1 (fun z => rfl)).trans q_t1
theorem s_claim (h : RLL sh ln μq μk V n N w0 r Λo j d t c T z) (v1 v2 : Int32) : STP (f_X11_claim μq v1 v2) (g_X10_claim sh ln μk v1 v2) sh ln mdIAS := by
  have hb := h.b
  have hz := h.1.1.z 0
  have hV : V ≤ 4 := h.1.1.2.b.2.1
  have hj11 := h.nw.2.1
  have n2 := q_inn (m := V) (by omega) v2
  have g2 := g_needNotice (sh := sh) h.1.2.1.1 h.nw v2
  rw [f_X11_claim, q_values hz, Option.bind_some, g_X10_claim]
  by_cases c2 : inn v2 V
  · rw [xbO_l (g2.1 c2)]
    have m2 := n2.1 c2
    obtain ⟨v, hv2, rfl⟩ := c2
    have eJ : ∀ X : Option (Int32 × Mm), f_X11_claim_J25 (mst μq (0, 0) 0 (0 : Int32)) v1 (nI v) (0 : Int32) = X → ((f_X11_in (nI v) (0 : Int32) (nI V - (1 : Int32))).bind fun x14 => if x14 = 0 then f_X11_claim_J25 (mst μq (0, 0) 0 (0 : Int32)) v1 (nI v) (1 : Int32) else (f_X11_claim_J25 (mst μq (0, 0) 0 (0 : Int32)) v1 (nI v) (0 : Int32))) = X := fun X hX => (q_b1 m2 (fun z => rfl)).trans hX
    rcases need_num v1 0 9 with ⟨e1, e2, e3, e4⟩ | ⟨e1, e2⟩
    · obtain ⟨m, hm, rfl⟩ := nI_of e3
      have hm2 : m < 10 := by
        have e : (nI m ≤ nI 9) = (m ≤ 9) := q_le hm (by omega)
        have := e.mp e4
        omega
      have hh := q_haveIn hz hb.2.2 (show v < 2147483648 by omega)
      have hk := k_many (sh := sh) h.1.2.1.1 hb.2.2 (show v < 2147483648 by omega)
      have hlt : hv V n v w0 n ≤ n := hv_le V n v w0 n
      have ele : (nI m ≤ nI (hv V n v w0 n)) = (m ≤ hv V n v w0 n) := q_le hm (by omega)
      rw [xbO_l e2, h.nw.run, h.nw.c, h.1.2.1.1.c3, hk, Option.bind_some]
      by_cases c : m ≤ hv V n v w0 n
      · rw [if_pos (ele.mpr c)]
        have hS : SL (upd r 7 (nI 1)) (TL V n N w0 (nI 6) (nI v) (-nI 1) (nI m) (drp (fun w => bI (decide (m ≤ hv V n v w n))) N w0 (upd r 7 (nI 1)))) := (SL.drp hb.1).tr SL.tel
        have := act_step (md := mdIAS) h (fR := fun x84 => Wh (fun z : Mm × Int32 => f_X11_claim_L89 (nI m) (nI v) z.1 z.2) (x84, (0 : Int32))) (F := fun sh lm j μ => f_X0_claimManyA sh lm j μ (nI m) (nI v)) (fun m hm => q_claimB hm hm2 hv2) (fun sh ln μ hS hL hB => k_claimMany hS hL hB hj11 hm2 hv2) hS.up.1 hS.up.2.1 hS.up.2.2
        refine Eq.mp (congrArg (fun f => STP f _ sh ln mdIAS) ?_) this
        refine Eq.symm (eJ _ ?_)
        rw [f_X11_claim_J25]
        refine q_t0.trans ((q_b1 e1 (fun z => rfl)).trans ?_)
        rw [f_X11_claim_J48]
        refine q_t0.trans ?_
        show ((f_X11_here (mst μq (0, 0) 0 (0 : Int32))).bind fun x58 => (f_X11_haveIn (mst μq (0, 0) 0 (0 : Int32)) x58 (nI v)).bind fun x62 => if nI m ≤ x62 then f_X11_claim_J74 (mst μq (0, 0) 0 (0 : Int32)) (nI m) (nI v) (0 : Int32) else (f_X11_claim_J74 (mst μq (0, 0) 0 (0 : Int32)) (nI m) (nI v) (1 : Int32))) = _
        rw [q_here hz, Option.bind_some, hh, Option.bind_some, if_pos (ele.mpr c), f_X11_claim_J74]
        exact q_t0
      · rw [if_neg (fun y => c (ele.mp y))]
        refine thr_step (x := 0) h rfl (eJ _ ?_) (by decide) (by decide)
        rw [f_X11_claim_J25]
        refine q_t0.trans ((q_b1 e1 (fun z => rfl)).trans ?_)
        rw [f_X11_claim_J48]
        refine q_t0.trans ?_
        show ((f_X11_here (mst μq (0, 0) 0 (0 : Int32))).bind fun x58 => (f_X11_haveIn (mst μq (0, 0) 0 (0 : Int32)) x58 (nI v)).bind fun x62 => if nI m ≤ x62 then f_X11_claim_J74 (mst μq (0, 0) 0 (0 : Int32)) (nI m) (nI v) (0 : Int32) else (f_X11_claim_J74 (mst μq (0, 0) 0 (0 : Int32)) (nI m) (nI v) (1 : Int32))) = _
        rw [q_here hz, Option.bind_some, hh, Option.bind_some, if_neg (fun y => c (ele.mp y)), f_X11_claim_J74]
        exact q_t1
    · refine thr_step (x := 0) h (xbO_r e2) (eJ _ ?_) (by decide) (by decide)
      rw [f_X11_claim_J25]
      refine q_t0.trans ((q_b0 e1 (fun z => rfl)).trans ?_)
      rw [f_X11_claim_J48]
      exact q_t1
  · refine thr_step (x := 0) h (xbO_r (g2.2 c2)) ?_ (by decide) (by decide)
    refine (q_b0 (n2.2 c2) (fun z => rfl)).trans ?_
    rw [f_X11_claim_J25]
    exact q_t1
theorem s_treat (h : RLL sh ln μq μk V n N w0 r Λo j d t c T z) (v1 v2 : Int32) (b : Bool) : STP (f_X11_treat μq v1 v2 (bI b)) (g_X10_treat sh ln μk v1 v2 (bI b)) sh ln mdIAS := by
  have hb := h.b
  have hz := h.1.1.z 0
  have hj11 := h.nw.2.1
  have n1 := q_noPerson hz v1
  have n2 := q_noPerson hz v2
  rw [g_X10_treat]
  refine act_2 h v1 v2 rfl (fun c => ?_) (fun p q hp hq2 e1 e2 => ?_)
  · rw [f_X11_treat]
    by_cases c1 : inn v1 n
    · exact (q_b0 (n1.1 c1) (fun z => rfl)).trans ((q_b1 (n2.2 (fun x => c ⟨c1, x⟩)) (fun z => rfl)).trans q_t1)
    · exact (q_b1 (n1.2 c1) (fun z => rfl)).trans q_t1
  · have m1 := n1.1 ⟨p, hp, e1⟩
    have m2 := n2.1 ⟨q, hq2, e2⟩
    subst e1
    subst e2
    have gt := g_needTwo (p := p) (q := q) (by omega) (by omega)
    have ee : (nI p = nI q) = (p = q) := q_eq (by omega) (by omega)
    have gs := g_needSight (sh := sh) h.1.2.1.1 h.nw hp hq2
    have qs := q_isSeeing hz hp hq2
    have hJ : ∀ X : Option (Int32 × Mm), (if nI p = nI q then f_X11_treat_J45 (mst μq (0, 0) 0 (0 : Int32)) (nI p) (nI q) (bI b) (1 : Int32) else f_X11_treat_J45 (mst μq (0, 0) 0 (0 : Int32)) (nI p) (nI q) (bI b) (0 : Int32)) = X → f_X11_treat μq (nI p) (nI q) (bI b) = X := fun X hX => by
      rw [f_X11_treat]
      exact (q_b0 m1 (fun z => rfl)).trans ((q_b0 m2 (fun z => rfl)).trans (q_t0.trans hX))
    by_cases c : p = q
    · rw [if_pos c] at gt
      refine thr_step (x := 0) h (xbO_r gt) (hJ _ ?_) (by decide) (by decide)
      rw [if_pos (ee.mpr c), f_X11_treat_J45]
      exact q_t1
    · rw [if_neg c] at gt
      rw [xbO_l gt]
      by_cases s : (se r p).testBit q = true
      · rw [if_pos s] at gs
        rw [s, bI_t] at qs
        rw [xbO_l gs]
        have hW : WF V n N w0 (upd r 7 (nI 1)) := don_WF h.1.1.2
        have hRL : LRw (upd r 7 (nI 1)) Λo := h.1.2.1.don.2.2.2.1
        have hS : SL (upd r 7 (nI 1)) (trtR V n N w0 Λo b p q (upd r 7 (nI 1))) := (rtp_ok hW n (Nat.le_refl n)).2.1.tr SL.tel
        have := act_step (md := mdIAS) h (fR := fun x => (f_X11_treats x (nI p) (nI q) (bI b)).bind fun y => some (y.1, y.2)) (F := fun sh lm j μ => f_X0_treatOneA sh lm j μ (nI p) (nI q) (bI b)) (fun m hm => (q_treats hm hRL hp hq2 b).bd) (fun sh ln μ hS hL hB => k_treatOne hS hL hB hj11 hp hq2 b) hS.up.1 hS.up.2.1 hS.up.2.2
        refine Eq.mp (congrArg (fun f => STP f _ sh ln mdIAS) ?_) this
        refine Eq.symm (hJ _ ?_)
        rw [if_neg (fun y => c (ee.mp y)), f_X11_treat_J45]
        exact q_t0.trans ((q_b1 qs (fun z => rfl)).trans q_t0)
      · rw [if_neg s] at gs
        have s' : (se r p).testBit q = false := by cases hh : (se r p).testBit q; rfl; exact absurd hh s
        rw [s', bI_f] at qs
        refine thr_step (x := 0) h (xbO_r gs) (hJ _ ?_) (by decide) (by decide)
        rw [if_neg (fun y => c (ee.mp y)), f_X11_treat_J45]
        exact q_t0.trans ((q_b0 qs (fun z => rfl)).trans q_t1)
end ACSS
