-- more calls that ask
section AGY
variable {sh : Sh} {ln : Nat → Nat} {μ μq μk : Mm} {j V n N w0 : Nat} {r : Nat → Int32} {Λo : Option LW}
theorem q_t1 {B : Int32 × Mm → Option (Int32 × Mm)} {c : Int32} : ((f_X11_throwsIf μ (1 : Int32) c).bind fun x => if x.1 = 0 then B x else (some ((0 : Int32), x.2))) = some (0, mst μ (0, 0) 0 c) := by
  rw [show f_X11_throwsIf μ (1 : Int32) c = some (nI 1, mst μ (0, 0) 0 c) from q_thr1, Option.bind_some, if_neg (fun e => absurd (show nI 1 = 0 from e) (by decide))]
theorem q_t0 {B : Int32 × Mm → Option (Int32 × Mm)} {c : Int32} : ((f_X11_throwsIf μ (0 : Int32) c).bind fun x => if x.1 = 0 then B x else (some ((0 : Int32), x.2))) = B (nI 0, μ) := by
  rw [show f_X11_throwsIf μ (0 : Int32) c = some (nI 0, μ) from q_thr0, Option.bind_some, if_pos (show (nI 0, μ).1 = 0 from rfl)]
theorem q_b0 {X : Type} {F : Int32 → Option X} {x : Option Int32} (h : x = some (nI 0)) {A B : Option X} (hF : ∀ z, F z = if z = 0 then A else B) : x.bind F = A := by
  rw [h, Option.bind_some, hF, if_pos (show nI 0 = 0 from rfl)]
theorem q_b1 {X : Type} {F : Int32 → Option X} {x : Option Int32} (h : x = some (nI 1)) {A B : Option X} (hF : ∀ z, F z = if z = 0 then A else B) : x.bind F = B := by
  rw [h, Option.bind_some, hF, if_neg (show ¬ nI 1 = 0 by decide)]
theorem x_thinks (hq : RS μq V n N w0 r) (hk : STR sh ln μk j V n N w0 r Λo) (hL : LN ln) (hj : NW sh μk j) (v1 v2 v3 : Int32) : AGX (f_X11_thinks μq v1 v2 v3) (g_X10_thinks sh ln μk v1 v2 v3) μq μk V n N w0 r mdI := by
  have hz := hq.z 0
  have g1 := g_needPerson (sh := sh) hk.1 hj v1
  have g2 := g_needPerson (sh := sh) hk.1 hj v2
  have g3 := g_needPerson (sh := sh) hk.1 hj v3
  have n1 := q_noPerson hz v1
  have n2 := q_noPerson hz v2
  have n3 := q_noPerson hz v3
  by_cases c1 : inn v1 n
  · by_cases c2 : inn v2 n
    · by_cases c3 : inn v3 n
      · have m1 := n1.1 c1
        have m2 := n2.1 c2
        have m3 := n3.1 c3
        have l1 := g1.1 c1
        have l2 := g2.1 c2
        have l3 := g3.1 c3
        obtain ⟨p, hp, rfl⟩ := c1
        obtain ⟨o, ho, rfl⟩ := c2
        obtain ⟨q, hq2, rfl⟩ := c3
        obtain ⟨R, e1⟩ := q_thinks hz hp ho hq2
        obtain ⟨R2, e2⟩ := k_thinks (sh := sh) hk.1 hL hp ho hq2
        refine Or.inl ⟨bI (!anyN N (fun w => hld r p w0 w && !knw r V n N o q w)), mrow (mst μq (0, 0) 0 (0 : Int32)) (8, 0) R, mrow μk (12, 2) R2, ?_, ?_, (hz.row (a := 8) (b := 0) R (by omega)), QP.of (S := [8]) (Fr.rf.mr (by decide)) (qok (by decide)), FrX.rf.mr (by omega) (by omega)⟩
        · rw [f_X11_thinks]
          refine (q_b0 m1 (fun z => rfl)).trans ((q_b0 m2 (fun z => rfl)).trans ((q_b0 m3 (fun z => rfl)).trans ?_))
          rw [f_X11_thinks_J35]
          exact q_t0.trans e1
        · rw [g_X10_thinks, xb_l l1, xb_l l2, xb_l l3]
          simp only [hj.c, hj.run', e2, Option.bind_some, q_cbI, ml_s]
      · refine Or.inr ⟨1, ?_, by decide, by decide, ?_⟩
        · rw [g_X10_thinks, xb_l (g1.1 c1), xb_l (g2.1 c2), xb_r (g3.2 c3)]
        · rw [f_X11_thinks]
          exact (q_b0 (n1.1 c1) (fun z => rfl)).trans ((q_b0 (n2.1 c2) (fun z => rfl)).trans ((q_b1 (n3.2 c3) (fun z => rfl)).trans q_t1))
    · refine Or.inr ⟨1, ?_, by decide, by decide, ?_⟩
      · rw [g_X10_thinks, xb_l (g1.1 c1), xb_r (g2.2 c2)]
      · rw [f_X11_thinks]
        exact (q_b0 (n1.1 c1) (fun z => rfl)).trans ((q_b1 (n2.2 c2) (fun z => rfl)).trans q_t1)
  · refine Or.inr ⟨1, ?_, by decide, by decide, ?_⟩
    · rw [g_X10_thinks, xb_r (g1.2 c1)]
    · rw [f_X11_thinks]
      exact (q_b1 (n1.2 c1) (fun z => rfl)).trans q_t1
theorem x_apart (hq : RS μq V n N w0 r) (hk : STR sh ln μk j V n N w0 r Λo) (hL : LN ln) (hj : NW sh μk j) (v1 v2 v3 : Int32) : AGX (f_X11_apart μq v1 v2 v3) (g_X10_apart sh ln μk v1 v2 v3) μq μk V n N w0 r mdIS := by
  have hb := hk.1.1.b
  have hz := hq.z 0
  have g1 := g_needPerson (sh := sh) hk.1 hj v1
  have g2 := g_needWorld (sh := sh) hk.1 hj v2
  have g3 := g_needWorld (sh := sh) hk.1 hj v3
  have n1 := q_noPerson hz v1
  have n2 := q_noWorld hz v2
  have n3 := q_noWorld hz v3
  by_cases c1 : inn v1 n
  · by_cases c2 : inn v2 N
    · by_cases c3 : inn v3 N
      · have m1 := n1.1 c1
        have m2 := n2.1 c2
        have m3 := n3.1 c3
        have l1 := g1.1 c1
        have l2 := g2.1 c2
        have l3 := g3.1 c3
        obtain ⟨p, hp, rfl⟩ := c1
        obtain ⟨u, hu, rfl⟩ := c2
        obtain ⟨w, hw, rfl⟩ := c3
        have hJ : f_X11_apart μq (nI p) (nI u) (nI w) = _ := (q_b0 m1 (fun z => rfl)).trans ((q_b0 m2 (fun z => rfl)).trans ((q_b0 m3 (fun z => rfl)).trans (q_t0 (B := fun x36 => (f_X11_isLeft x36.2 (nI u)).bind fun x45 => if x45 = 0 then f_X11_apart_J64 x36.2 (nI p) (nI u) (nI w) (1 : Int32) else ((f_X11_isLeft x36.2 (nI w)).bind fun x53 => if x53 = 0 then f_X11_apart_J64 x36.2 (nI p) (nI u) (nI w) (1 : Int32) else (f_X11_apart_J64 x36.2 (nI p) (nI u) (nI w) (0 : Int32)))) (c := 1) (μ := mst μq (0, 0) 0 (0 : Int32)))))
        have a1 := q_isLeft hz hu
        have a2 := q_isLeft hz hw
        have b1 := g_needLeft (sh := sh) hk.1 hj hu
        have b2 := g_needLeft (sh := sh) hk.1 hj hw
        by_cases d1 : lf r u = true
        · by_cases d2 : lf r w = true
          · rw [d1, bI_t] at a1
            rw [d2, bI_t] at a2
            rw [if_pos d1] at b1
            rw [if_pos d2] at b2
            have x1 := q_label hz hp hu
            have x2 := q_label hz hp hw
            have y1 := k_group (sh := sh) hk.1 hp hu
            have y2 := k_group (sh := sh) hk.1 hp hw
            have t1 := (hk.1.1.hb hp hu).2
            have t2 := (hk.1.1.hb hp hw).2
            have hee : (nI (lab r p u) = nI (lab r p w)) = (lab r p u = lab r p w) := q_eq (by omega) (by omega)
            refine Or.inl ⟨bI (decide (¬ lab r p u = lab r p w)), mst μq (0, 0) 0 (0 : Int32), μk, ?_, ?_, hz, QP.of (S := []) Fr.rf (qok (by decide)), FrX.rf⟩
            · rw [hJ]
              refine (q_b1 a1 (fun z => rfl)).trans ((q_b1 a2 (fun z => rfl)).trans ?_)
              rw [f_X11_apart_J64]
              refine q_t0.trans ?_
              show ((f_X11_label (mst μq (0, 0) 0 (0 : Int32)) (nI p) (nI u)).bind fun x76 => (f_X11_label (mst μq (0, 0) 0 (0 : Int32)) (nI p) (nI w)).bind fun x82 => if x76 = x82 then some ((0 : Int32), (mst μq (0, 0) 0 (0 : Int32))) else (some ((1 : Int32), (mst μq (0, 0) 0 (0 : Int32))))) = _
              rw [x1, Option.bind_some, x2, Option.bind_some]
              by_cases e : lab r p u = lab r p w
              · rw [if_pos (hee.mpr e), decide_eq_false (fun z => z e)]; rfl
              · rw [if_neg (fun z => e (hee.mp z)), decide_eq_true e]; rfl
            · rw [g_X10_apart, xb_l l1, xb_l l2, xb_l l3, xb_l b1, xb_l b2]
              simp only [hj.c, hj.run', y1, y2, Option.bind_some]
              by_cases e : lab r p u = lab r p w
              · rw [if_pos (hee.mpr e), decide_eq_false (fun z => z e)]; rfl
              · rw [if_neg (fun z => e (hee.mp z)), decide_eq_true e]; rfl
          · rw [if_neg d2] at b2
            rw [if_pos d1] at b1
            rw [d1, bI_t] at a1
            rw [(Bool.not_eq_true _).mp d2, bI_f] at a2
            refine Or.inr ⟨4, by rw [g_X10_apart, xb_l l1, xb_l l2, xb_l l3, xb_l b1, xb_r b2], by decide, by decide, ?_⟩
            rw [hJ]
            refine (q_b1 a1 (fun z => rfl)).trans ((q_b0 a2 (fun z => rfl)).trans ?_)
            rw [f_X11_apart_J64]
            exact q_t1
        · rw [if_neg d1] at b1
          rw [(Bool.not_eq_true _).mp d1, bI_f] at a1
          refine Or.inr ⟨4, by rw [g_X10_apart, xb_l l1, xb_l l2, xb_l l3, xb_r b1], by decide, by decide, ?_⟩
          rw [hJ]
          refine (q_b0 a1 (fun z => rfl)).trans ?_
          rw [f_X11_apart_J64]
          exact q_t1
      · refine Or.inr ⟨1, by rw [g_X10_apart, xb_l (g1.1 c1), xb_l (g2.1 c2), xb_r (g3.2 c3)], by decide, by decide, ?_⟩
        rw [f_X11_apart]
        exact (q_b0 (n1.1 c1) (fun z => rfl)).trans ((q_b0 (n2.1 c2) (fun z => rfl)).trans ((q_b1 (n3.2 c3) (fun z => rfl)).trans q_t1))
    · refine Or.inr ⟨1, by rw [g_X10_apart, xb_l (g1.1 c1), xb_r (g2.2 c2)], by decide, by decide, ?_⟩
      rw [f_X11_apart]
      exact (q_b0 (n1.1 c1) (fun z => rfl)).trans ((q_b1 (n2.2 c2) (fun z => rfl)).trans q_t1)
  · refine Or.inr ⟨1, by rw [g_X10_apart, xb_r (g1.2 c1)], by decide, by decide, ?_⟩
    rw [f_X11_apart]
    exact (q_b1 (n1.2 c1) (fun z => rfl)).trans q_t1
theorem x_sure (hq : RS μq V n N w0 r) (hk : STR sh ln μk j V n N w0 r Λo) (hL : LN ln) (hj : NW sh μk j) (v1 v2 : Int32) : AGX (f_X11_sure μq v1 v2) (g_X10_sure sh ln μk v1 v2) μq μk V n N w0 r mdIS := by
  have hb := hk.1.1.b
  have hz := hq.z 0
  have g1 := g_needPerson (sh := sh) hk.1 hj v1
  have g2 := g_needWorld (sh := sh) hk.1 hj v2
  have n1 := q_noPerson hz v1
  have n2 := q_noWorld hz v2
  by_cases c1 : inn v1 n
  · by_cases c2 : inn v2 N
    · have m1 := n1.1 c1
      have m2 := n2.1 c2
      have l1 := g1.1 c1
      have l2 := g2.1 c2
      obtain ⟨p, hp, rfl⟩ := c1
      obtain ⟨u, hu, rfl⟩ := c2
      have hJ : f_X11_sure μq (nI p) (nI u) = f_X11_sure_J27 (mst μq (0, 0) 0 (0 : Int32)) (nI p) (nI u) (0 : Int32) := (q_b0 m1 (fun z => rfl)).trans (q_b0 m2 (fun z => rfl))
      have a1 := q_isLeft hz hu
      have b1 := g_needLeft (sh := sh) hk.1 hj hu
      by_cases d1 : lf r u = true
      · rw [d1, bI_t] at a1
        rw [if_pos d1] at b1
        obtain ⟨R, e1⟩ := q_isSure hz hp hu d1
        have e2 := k_isSure (sh := sh) hk.1 hk.1.stl hk.1.stay hp hu
        refine Or.inl ⟨bI (suR r V n N p u), mrow (mst μq (0, 0) 0 (0 : Int32)) (8, 0) R, μk, ?_, ?_, (hz.row (a := 8) (b := 0) R (by omega)), QP.of (S := [8]) (Fr.rf.mr (by decide)) (qok (by decide)), FrX.rf⟩
        · rw [hJ, f_X11_sure_J27]
          refine q_t0.trans ((q_b1 a1 (fun z => rfl)).trans (q_t0.trans ?_))
          show ((f_X11_isSure (mst μq (0, 0) 0 (0 : Int32)) (nI p) (nI u)).bind fun x60 => _) = _
          rw [e1, Option.bind_some, q_cbI]
        · rw [g_X10_sure, xb_l l1, xb_l l2, xb_l b1]
          simp only [hj.c, hj.run', e2, Option.bind_some, q_cbI, ml0_s]
          rfl
      · rw [if_neg d1] at b1
        rw [(Bool.not_eq_true _).mp d1, bI_f] at a1
        refine Or.inr ⟨4, by rw [g_X10_sure, xb_l l1, xb_l l2, xb_r b1], by decide, by decide, ?_⟩
        rw [hJ, f_X11_sure_J27]
        exact q_t0.trans ((q_b0 a1 (fun z => rfl)).trans q_t1)
    · refine Or.inr ⟨1, by rw [g_X10_sure, xb_l (g1.1 c1), xb_r (g2.2 c2)], by decide, by decide, ?_⟩
      rw [f_X11_sure]
      exact (q_b0 (n1.1 c1) (fun z => rfl)).trans ((q_b1 (n2.2 c2) (fun z => rfl)).trans q_t1)
  · refine Or.inr ⟨1, by rw [g_X10_sure, xb_r (g1.2 c1)], by decide, by decide, ?_⟩
    rw [f_X11_sure]
    exact (q_b1 (n1.2 c1) (fun z => rfl)).trans q_t1
theorem x_manner (hq : RS μq V n N w0 r) (hk : STR sh ln μk j V n N w0 r Λo) (hL : LN ln) (hj : NW sh μk j) (v1 v2 v3 : Int32) : AGX (f_X11_manner μq v1 v2 v3) (g_X10_manner sh ln μk v1 v2 v3) μq μk V n N w0 r mdIAS := by
  have hb := hk.1.1.b
  have hz := hq.z 0
  have hl3 : ln 3 = 512 := hL.2.2.2.1
  have hl6 : ln 6 = 8 := hL.2.2.2.2.2.2.1
  have g1 := g_needPerson (sh := sh) hk.1 hj v1
  have g2 := g_needPerson (sh := sh) hk.1 hj v2
  have g3 := g_needWorld (sh := sh) hk.1 hj v3
  have n1 := q_noPerson hz v1
  have n2 := q_noPerson hz v2
  have n3 := q_noWorld hz v3
  by_cases c1 : inn v1 n
  · by_cases c2 : inn v2 n
    · by_cases c3 : inn v3 N
      · have m1 := n1.1 c1
        have m2 := n2.1 c2
        have m3 := n3.1 c3
        have l1 := g1.1 c1
        have l2 := g2.1 c2
        have l3 := g3.1 c3
        obtain ⟨p, hp, rfl⟩ := c1
        obtain ⟨q, hq2, rfl⟩ := c2
        obtain ⟨w, hw, rfl⟩ := c3
        have hJ : f_X11_manner μq (nI p) (nI q) (nI w) = _ := (q_b0 m1 (fun z => rfl)).trans ((q_b0 m2 (fun z => rfl)).trans ((q_b0 m3 (fun z => rfl)).trans (q_t0 (B := fun x36 => if nI p = nI q then f_X11_manner_J53 x36.2 (nI p) (nI q) (nI w) (1 : Int32) else (f_X11_manner_J53 x36.2 (nI p) (nI q) (nI w) (0 : Int32))) (c := 1) (μ := mst μq (0, 0) 0 (0 : Int32)))))
        have ht := g_needTwo (p := p) (q := q) (by omega) (by omega)
        have hee : (nI p = nI q) = (p = q) := q_eq (by omega) (by omega)
        by_cases e0 : p = q
        · rw [if_pos e0] at ht
          refine Or.inr ⟨3, by rw [g_X10_manner, xb_l l1, xb_l l2, xb_l l3, xb_r ht], by decide, by decide, ?_⟩
          rw [hJ]
          show (if nI p = nI q then f_X11_manner_J53 (mst μq (0, 0) 0 (0 : Int32)) (nI p) (nI q) (nI w) (1 : Int32) else f_X11_manner_J53 (mst μq (0, 0) 0 (0 : Int32)) (nI p) (nI q) (nI w) (0 : Int32)) = _
          rw [if_pos (hee.mpr e0), f_X11_manner_J53]
          exact q_t1
        · rw [if_neg e0] at ht
          have a1 := q_isLeft hz hw
          have a2 := q_isSeeing hz hp hq2
          have b1 := g_needLeft (sh := sh) hk.1 hj hw
          have b2 := g_needSight (sh := sh) hk.1 hj hp hq2
          have hJ2 : f_X11_manner μq (nI p) (nI q) (nI w) = (f_X11_isLeft (mst μq (0, 0) 0 (0 : Int32)) (nI w)).bind fun x63 => if x63 = 0 then (f_X11_throwsIf (mst μq (0, 0) 0 (0 : Int32)) (1 : Int32) (3 : Int32)).bind fun x84 => if x84.1 = 0 then (f_X11_mannerIn x84.2 (nI p) (nI q) (nI w)).bind fun x96 => some (x96.1, x96.2) else (some ((0 : Int32), x84.2)) else ((f_X11_isSeeing (mst μq (0, 0) 0 (0 : Int32)) (nI p) (nI q)).bind fun x72 => if x72 = 0 then (f_X11_throwsIf (mst μq (0, 0) 0 (0 : Int32)) (1 : Int32) (3 : Int32)).bind fun x84 => if x84.1 = 0 then (f_X11_mannerIn x84.2 (nI p) (nI q) (nI w)).bind fun x96 => some (x96.1, x96.2) else (some ((0 : Int32), x84.2)) else ((f_X11_throwsIf (mst μq (0, 0) 0 (0 : Int32)) (0 : Int32) (3 : Int32)).bind fun x84 => if x84.1 = 0 then (f_X11_mannerIn x84.2 (nI p) (nI q) (nI w)).bind fun x96 => some (x96.1, x96.2) else (some ((0 : Int32), x84.2)))) := by
            rw [hJ]
            show (if nI p = nI q then f_X11_manner_J53 (mst μq (0, 0) 0 (0 : Int32)) (nI p) (nI q) (nI w) (1 : Int32) else f_X11_manner_J53 (mst μq (0, 0) 0 (0 : Int32)) (nI p) (nI q) (nI w) (0 : Int32)) = _
            rw [if_neg (fun z => e0 (hee.mp z)), f_X11_manner_J53]
            exact q_t0
          by_cases d1 : lf r w = true
          · rw [d1, bI_t] at a1
            rw [if_pos d1] at b1
            by_cases d2 : (se r p).testBit q = true
            · rw [d2, bI_t] at a2
              rw [if_pos d2] at b2
              obtain ⟨a, e1, hF⟩ := q_mannerIn hz hk.2.2.2.1 hp hq2 hw d1
              obtain ⟨b, e2, hF2, hM, hm6⟩ := k_meet (sh := sh) hk.1 hL hk.2.2.1 hk.2.2.2.2.1 hp hq2
              have h8 : cmm r Λo V n N p q w < 8 := cmm_lt ⟨hb.1, hb.2.1⟩
              have em : f_X4_mannerIn sh ln b (nI w) = some (mnn r Λo p q (cmm r Λo V n N p q w)) := by
                rw [f_X4_mannerIn, k_at (by omega) (by omega), Option.bind_some, hM w hw, k_at (by omega) (by omega), Option.bind_some, hm6 _ h8]
              refine Or.inl ⟨mnn r Λo p q (cmm r Λo V n N p q w), a, b, ?_, ?_, hz.fr hF (by decide), QP.of hF (qok (by decide)), hF2.Xs (fun c hc => by omega)⟩
              · rw [hJ2]
                refine (q_b1 a1 (fun z => rfl)).trans ((q_b1 a2 (fun z => rfl)).trans (q_t0.trans ?_))
                show ((f_X11_mannerIn (mst μq (0, 0) 0 (0 : Int32)) (nI p) (nI q) (nI w)).bind fun x96 => _) = _
                rw [e1]; rfl
              · rw [g_X10_manner, xb_l l1, xb_l l2, xb_l l3, xb_l ht, xb_l b1, xb_l b2]
                simp only [hj.c, hj.run', e2, em, Option.bind_some, ml_s]
            · rw [if_neg d2] at b2
              rw [(Bool.not_eq_true _).mp d2, bI_f] at a2
              refine Or.inr ⟨4, by rw [g_X10_manner, xb_l l1, xb_l l2, xb_l l3, xb_l ht, xb_l b1, xb_r b2], by decide, by decide, ?_⟩
              rw [hJ2]
              exact (q_b1 a1 (fun z => rfl)).trans ((q_b0 a2 (fun z => rfl)).trans q_t1)
          · rw [if_neg d1] at b1
            rw [(Bool.not_eq_true _).mp d1, bI_f] at a1
            refine Or.inr ⟨4, by rw [g_X10_manner, xb_l l1, xb_l l2, xb_l l3, xb_l ht, xb_r b1], by decide, by decide, ?_⟩
            rw [hJ2]
            exact (q_b0 a1 (fun z => rfl)).trans q_t1
      · refine Or.inr ⟨1, by rw [g_X10_manner, xb_l (g1.1 c1), xb_l (g2.1 c2), xb_r (g3.2 c3)], by decide, by decide, ?_⟩
        rw [f_X11_manner]
        refine (q_b0 (n1.1 c1) (fun z => rfl)).trans ((q_b0 (n2.1 c2) (fun z => rfl)).trans ((q_b1 (n3.2 c3) (fun z => rfl)).trans ?_))
        rw [f_X11_manner_J30]
        exact q_t1
    · refine Or.inr ⟨1, by rw [g_X10_manner, xb_l (g1.1 c1), xb_r (g2.2 c2)], by decide, by decide, ?_⟩
      rw [f_X11_manner]
      refine (q_b0 (n1.1 c1) (fun z => rfl)).trans ((q_b1 (n2.2 c2) (fun z => rfl)).trans ?_)
      rw [f_X11_manner_J30]
      exact q_t1
  · refine Or.inr ⟨1, by rw [g_X10_manner, xb_r (g1.2 c1)], by decide, by decide, ?_⟩
    rw [f_X11_manner]
    refine (q_b1 (n1.2 c1) (fun z => rfl)).trans ?_
    rw [f_X11_manner_J30]
    exact q_t1
end AGY
