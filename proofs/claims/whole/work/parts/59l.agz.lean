-- the rest that asks: person, log, widest, under, quiet, count; trial and span
section AGZ
variable {sh : Sh} {ln : Nat → Nat} {μ μq μk : Mm} {j V n N w0 : Nat} {r : Nat → Int32} {Λo : Option LW}
theorem not_inn_ne {v : Int32} {m k : Nat} (h : ¬ inn v m) (hk : k < m) : ¬ v = nI k := fun e => h ⟨k, hk, e⟩
theorem x_person (hq : RS μq V n N w0 r) (hk : STR sh ln μk j V n N w0 r Λo) (hL : LN ln) (hj : NW sh μk j) (v1 v2 : Int32) : AGX (f_X11_person μq v1 v2) (g_X10_person sh ln μk v1 v2) μq μk V n N w0 r mdIN := by
  have hb := hk.1.1.b
  have hz := hq.z 0
  have g1 := g_needPerson (sh := sh) hk.1 hj v1
  have n1 := q_noPerson hz v1
  have hin := q_inn (m := 6) (by omega) v2
  have h65 : nI 6 - (1 : Int32) = (5 : Int32) := by decide
  rw [h65] at hin
  by_cases c1 : inn v1 n
  · have m1 := n1.1 c1
    have l1 := g1.1 c1
    obtain ⟨p, hp, rfl⟩ := c1
    have hJ : f_X11_person μq (nI p) v2 = (f_X11_in v2 (0 : Int32) (5 : Int32)).bind fun x22 => if x22 = 0 then f_X11_person_J33 (mst μq (0, 0) 0 (0 : Int32)) (nI p) v2 (1 : Int32) else (f_X11_person_J33 (mst μq (0, 0) 0 (0 : Int32)) (nI p) v2 (0 : Int32)) := by
      rw [f_X11_person, m1, Option.bind_some]
      exact q_t0
    by_cases c2 : inn v2 6
    · have m2 := hin.1 c2
      have hJ2 : f_X11_person μq (nI p) v2 = _ := hJ.trans ((q_b1 m2 (fun z => rfl)).trans (q_t0 (B := fun x34 => if v2 = (0 : Int32) then (f_X11_notice x34.2 (nI p)).bind fun x78 => some (x78, x34.2) else (if v2 = (1 : Int32) then ck 7114 ((11 : Int32) + (nI p)) (some ((x34.2 (1, 0) ((11 : Int32) + (nI p)).toNatClampNeg), x34.2)) else (if v2 = (2 : Int32) then (f_X11_seenBy x34.2 (nI p)).bind fun x94 => some (x94, x34.2) else (if v2 = (3 : Int32) then (f_X11_here x34.2).bind fun x101 => (f_X11_isSure x34.2 (nI p) x101).bind fun x104 => if x104.1 = 0 then some ((0 : Int32), x104.2) else (some ((1 : Int32), x104.2)) else (if v2 = (4 : Int32) then (f_X11_here x34.2).bind fun x119 => (f_X11_holds x34.2 (nI p) x119).bind fun x122 => some (x122, x34.2) else ((f_X11_allKnown x34.2 (nI p)).bind fun x128 => some (x128.1, x128.2))))))) (c := 2) (μ := mst μq (0, 0) 0 (0 : Int32))))
      have hG : g_X10_person sh ln μk (nI p) v2 = _ := xb_l l1
      rw [hJ2, hG]
      have qp : QP μq (mst μq (0, 0) 0 (0 : Int32)) := QP.of (S := []) Fr.rf (qok (by decide))
      obtain ⟨t, ht, rfl⟩ := c2
      have ht' : t = 0 ∨ t = 1 ∨ t = 2 ∨ t = 3 ∨ t = 4 ∨ t = 5 := by omega
      rcases ht' with rfl | rfl | rfl | rfl | rfl | rfl
      · have e1 := q_notice hz hp
        have e2 := k_figure (sh := sh) hk.1 hp hb.2.2.2.2.2
        refine Or.inl ⟨nI (fig V n p w0), mst μq (0, 0) 0 (0 : Int32), μk, ?_, ?_, hz, qp, FrX.rf⟩
        · rw [if_pos (show nI 0 = 0 from rfl), e1]; rfl
        · rw [if_pos (show nI 0 = 0 from rfl)]
          simp only [hj.c, hj.run', hk.1.c3, e2, Option.bind_some]
      · have e2 := k_sights (sh := sh) hk.1 hp
        refine Or.inl ⟨nI (se r p), mst μq (0, 0) 0 (0 : Int32), μk, ?_, ?_, hz, qp, FrX.rf⟩
        · rw [if_neg (show ¬ nI 1 = 0 by decide), if_pos (show nI 1 = 1 from rfl), show (11 : Int32) = nI 11 from rfl, nI_add, q_ck (by omega) (by omega), q_cl (by omega)]
          show some ((mst μq (0, 0) 0 (0 : Int32)) (1, 0) (11 + p), _) = _
          rw [hz.1, (hk.1.1.hs hp).1]
        · rw [if_neg (show ¬ nI 1 = 0 by decide), if_pos (show nI 1 = 1 from rfl)]
          simp only [hj.c, hj.run', e2, Option.bind_some]
      · have e1 := q_seenBy hz hp
        have e2 := k_seers (sh := sh) hk.1 hp
        refine Or.inl ⟨nI (set n (fun x => (se r x).testBit p)), mst μq (0, 0) 0 (0 : Int32), μk, ?_, ?_, hz, qp, FrX.rf⟩
        · rw [if_neg (show ¬ nI 2 = 0 by decide), if_neg (show ¬ nI 2 = 1 by decide), if_pos (show nI 2 = 2 from rfl), e1]; rfl
        · rw [if_neg (show ¬ nI 2 = 0 by decide), if_neg (show ¬ nI 2 = 1 by decide), if_pos (show nI 2 = 2 from rfl)]
          simp only [hj.c, hj.run', e2, Option.bind_some]
          rfl
      · obtain ⟨R, e1⟩ := q_isSure hz hp hb.2.2.2.2.2 hk.1.1.h0
        have e2 := k_isSure (sh := sh) hk.1 hk.1.stl hk.1.stay hp hb.2.2.2.2.2
        refine Or.inl ⟨bI (suR r V n N p w0), mrow (mst μq (0, 0) 0 (0 : Int32)) (8, 0) R, μk, ?_, ?_, (hz.row (a := 8) (b := 0) R (by omega)), QP.of (S := [8]) (Fr.rf.mr (by decide)) (qok (by decide)), FrX.rf⟩
        · rw [if_neg (show ¬ nI 3 = 0 by decide), if_neg (show ¬ nI 3 = 1 by decide), if_neg (show ¬ nI 3 = 2 by decide), if_pos (show nI 3 = 3 from rfl)]
          show ((f_X11_here (mst μq (0, 0) 0 (0 : Int32))).bind fun x101 => _) = _
          rw [q_here hz, Option.bind_some, e1, Option.bind_some]
          cases suR r V n N p w0 <;> rfl
        · rw [if_neg (show ¬ nI 3 = 0 by decide), if_neg (show ¬ nI 3 = 1 by decide), if_neg (show ¬ nI 3 = 2 by decide), if_pos (show nI 3 = 3 from rfl)]
          have e3 : f_X4_isSure sh ln j (15 + 5 * j + 2) μk (nI p) (nI w0) = some (bI (suR r V n N p w0)) := e2
          simp only [hj.c, hj.run', hk.1.c3, e3, Option.bind_some]
          cases suR r V n N p w0 <;> rfl
      · have e1 := q_holds hz hp hb.2.2.2.2.2
        have e2 := k_holds (sh := sh) hk.1 hp
        refine Or.inl ⟨nI (cnt N (hld r p w0)), mst μq (0, 0) 0 (0 : Int32), μk, ?_, ?_, hz, qp, FrX.rf⟩
        · rw [if_neg (show ¬ nI 4 = 0 by decide), if_neg (show ¬ nI 4 = 1 by decide), if_neg (show ¬ nI 4 = 2 by decide), if_neg (show ¬ nI 4 = 3 by decide), if_pos (show nI 4 = 4 from rfl)]
          show ((f_X11_here (mst μq (0, 0) 0 (0 : Int32))).bind fun x101 => _) = _
          rw [q_here hz, Option.bind_some, e1]; rfl
        · rw [if_neg (show ¬ nI 4 = 0 by decide), if_neg (show ¬ nI 4 = 1 by decide), if_neg (show ¬ nI 4 = 2 by decide), if_neg (show ¬ nI 4 = 3 by decide), if_pos (show nI 4 = 4 from rfl)]
          simp only [hj.c, hj.run', e2, Option.bind_some]
      · obtain ⟨R, e1⟩ := q_allKnown hz hp
        have e2 := k_knownBits (sh := sh) hk.1 hp
        refine Or.inl ⟨nI (set n (fun q => knw r V n N p q w0)), mrow (mst μq (0, 0) 0 (0 : Int32)) (8, 0) R, μk, ?_, ?_, (hz.row (a := 8) (b := 0) R (by omega)), QP.of (S := [8]) (Fr.rf.mr (by decide)) (qok (by decide)), FrX.rf⟩
        · rw [if_neg (show ¬ nI 5 = 0 by decide), if_neg (show ¬ nI 5 = 1 by decide), if_neg (show ¬ nI 5 = 2 by decide), if_neg (show ¬ nI 5 = 3 by decide), if_neg (show ¬ nI 5 = 4 by decide), e1]; rfl
        · rw [if_neg (show ¬ nI 5 = 0 by decide), if_neg (show ¬ nI 5 = 1 by decide), if_neg (show ¬ nI 5 = 2 by decide), if_neg (show ¬ nI 5 = 3 by decide), if_neg (show ¬ nI 5 = 4 by decide), if_pos (show nI 5 = 5 from rfl)]
          simp only [hj.c, hj.run', e2, Option.bind_some]
    · refine Or.inr ⟨2, ?_, by decide, by decide, ?_⟩
      · rw [g_X10_person, xb_l l1]
        rw [if_neg (show ¬ v2 = (0 : Int32) from not_inn_ne c2 (k := 0) (by omega)), if_neg (show ¬ v2 = (1 : Int32) from not_inn_ne c2 (k := 1) (by omega)), if_neg (show ¬ v2 = (2 : Int32) from not_inn_ne c2 (k := 2) (by omega)), if_neg (show ¬ v2 = (3 : Int32) from not_inn_ne c2 (k := 3) (by omega)), if_neg (show ¬ v2 = (4 : Int32) from not_inn_ne c2 (k := 4) (by omega)), if_neg (show ¬ v2 = (5 : Int32) from not_inn_ne c2 (k := 5) (by omega))]
      · rw [hJ]
        refine (q_b0 (hin.2 c2) (fun z => rfl)).trans ?_
        rw [f_X11_person_J33]
        exact q_t1
  · refine Or.inr ⟨1, by rw [g_X10_person, xb_r (g1.2 c1)], by decide, by decide, ?_⟩
    rw [f_X11_person, n1.2 c1, Option.bind_some]
    exact q_t1
theorem k_noted0 (h : CS ln μ j V n N w0 r) (hG : LG ln μ j r) {v : Int32} (hv : ¬ inn v (lgd r)) (w : Int32) : f_X6_noted sh ln j μ v w = some (-1 : Int32) := by
  have hl := h.1.hlg
  rw [f_X6_noted]
  rcases not_inn (by omega) hv with c | ⟨c, k, hk, hk2, e⟩
  · rw [if_pos c]
  · rw [if_neg c, if_neg (by rw [hG.1, e, q_lt (by omega) (by omega)]; omega)]
theorem x_log (hq : RS μq V n N w0 r) (hk : STR sh ln μk j V n N w0 r Λo) (hL : LN ln) (hj : NW sh μk j) (v1 v2 : Int32) : AGX (f_X11_log μq v1 v2) (g_X10_log sh ln μk v1 v2) μq μk V n N w0 r mdN := by
  have hz := hq.z 0
  have hl := hk.1.1.hlg
  have hin := q_inn (m := 5) (by omega) v2
  have h54 : nI 5 - (1 : Int32) = (4 : Int32) := by decide
  rw [h54] at hin
  by_cases c2 : inn v2 5
  · have m2 := hin.1 c2
    obtain ⟨t, ht, rfl⟩ := c2
    have q1 : ¬ nI t < (0 : Int32) := nI_nneg (by omega)
    have q2 : nI t < (5 : Int32) := by rw [show (5 : Int32) = nI 5 from rfl, q_lt (by omega) (by omega)]; omega
    have hJ : f_X11_log μq v1 (nI t) = _ := (q_b1 m2 (fun z => rfl)).trans (q_t0 (B := fun x21 => ck 7114 (9 : Int32) ((f_X11_in v1 (0 : Int32) ((x21.2 (1, 0) (9 : Int32).toNatClampNeg) - (1 : Int32))).bind fun x40 => if x40 = 0 then some ((-1 : Int32), x21.2) else (ck 7114 (((5140 : Int32) + ((5 : Int32) * v1)) + nI t) (some ((x21.2 (1, 0) (((5140 : Int32) + ((5 : Int32) * v1)) + nI t).toNatClampNeg), x21.2))))) (c := 1) (μ := mst μq (0, 0) 0 (0 : Int32)))
    have hm := q_inn (m := lgd r) (by omega) v1
    have e9 : (mst μq (0, 0) 0 (0 : Int32)) (1, 0) (9 : Int32).toNatClampNeg = nI (lgd r) := by
      rw [hz.1, show (9 : Int32).toNatClampNeg = 9 from rfl]; exact hl.1
    have hG : g_X10_log sh ln μk v1 (nI t) = ((f_X6_noted sh ln j μk v1 (nI t)).bind fun x26 => some (.inl x26, μk)) := by
      rw [g_X10_log, if_neg q1, if_pos q2, hj.c, hj.run']
    have hQ : f_X11_log μq v1 (nI t) = (f_X11_in v1 (0 : Int32) (nI (lgd r) - (1 : Int32))).bind fun x40 => if x40 = 0 then some ((-1 : Int32), mst μq (0, 0) 0 (0 : Int32)) else (ck 7114 (((5140 : Int32) + ((5 : Int32) * v1)) + nI t) (some (((mst μq (0, 0) 0 (0 : Int32)) (1, 0) (((5140 : Int32) + ((5 : Int32) * v1)) + nI t).toNatClampNeg), mst μq (0, 0) 0 (0 : Int32)))) := by
      rw [hJ, show (9 : Int32) = nI 9 from rfl, q_ck (by omega) (by omega)]
      show ((f_X11_in v1 (0 : Int32) (((mst μq (0, 0) 0 (0 : Int32)) (1, 0) (9 : Int32).toNatClampNeg) - (1 : Int32))).bind fun x40 => _) = _
      rw [e9]
    have qp : QP μq (mst μq (0, 0) 0 (0 : Int32)) := QP.of (S := []) Fr.rf (qok (by decide))
    by_cases c1 : inn v1 (lgd r)
    · have m1 := hm.1 c1
      obtain ⟨i, hi, rfl⟩ := c1
      have e2 := k_noted (sh := sh) hk.1 hk.2.1 hi ht
      refine Or.inl ⟨r (5140 + 5 * i + t), mst μq (0, 0) 0 (0 : Int32), μk, ?_, by rw [hG, e2]; rfl, hz, qp, FrX.rf⟩
      rw [hQ]
      refine (q_b1 m1 (fun z => rfl)).trans ?_
      rw [show (5140 : Int32) = nI 5140 from rfl, show (5 : Int32) = nI 5 from rfl, pk_mul, nI_add, nI_add, q_ck (by omega) (by omega), q_cl (by omega), hz.1]
    · have m1 := hm.2 c1
      refine Or.inl ⟨(-1 : Int32), mst μq (0, 0) 0 (0 : Int32), μk, ?_, by rw [hG, k_noted0 hk.1 hk.2.1 c1]; rfl, hz, qp, FrX.rf⟩
      rw [hQ]
      exact q_b0 m1 (fun z => rfl)
  · refine Or.inr ⟨2, ?_, by decide, by decide, ?_⟩
    · rw [g_X10_log]
      rcases not_inn (by omega) c2 with c | ⟨c, k, hk3, hk2, e⟩
      · rw [if_pos c]
      · rw [if_neg c, if_neg (by rw [e, show (5 : Int32) = nI 5 from rfl, q_lt (by omega) (by omega)]; omega)]
    · rw [f_X11_log]
      refine (q_b0 (hin.2 c2) (fun z => rfl)).trans ?_
      rw [f_X11_log_J20]
      exact q_t1
theorem x_widest (hq : RS μq V n N w0 r) (hk : STR sh ln μk j V n N w0 r Λo) (hL : LN ln) (hj : NW sh μk j) : AGN (f_X11_widest μq) (wr μk (f_X10_widest sh ln μk)) μq μk V n N w0 r := by
  have hz := hq.z 0
  have e1 := q_widest hz
  have e2 := k_widest (sh := sh) hk.1 hj
  exact ⟨_, _, μk, e1, by rw [e2]; rfl, hz, QP.of (S := []) Fr.rf (qok (by decide)), FrX.rf⟩
theorem x_under (hq : RS μq V n N w0 r) (hk : STR sh ln μk j V n N w0 r Λo) (hL : LN ln) (hj : NW sh μk j) : AGN (f_X11_under μq) (wr μk (f_X10_under sh ln μk)) μq μk V n N w0 r := by
  have hz := hq.z 0
  obtain ⟨R, e1⟩ := q_under hz
  have e2 := k_under (sh := sh) hk.1 hj
  exact ⟨_, _, μk, e1, by rw [e2]; rfl, (hz.row (a := 8) (b := 0) R (by omega)), QP.of (S := [8]) (Fr.rf.mr (by decide)) (qok (by decide)), FrX.rf⟩
theorem x_quiet (hq : RS μq V n N w0 r) (hk : STR sh ln μk j V n N w0 r Λo) (hL : LN ln) (hj : NW sh μk j) : AGN (f_X11_quiet μq) (f_X10_quiet sh ln μk) μq μk V n N w0 r := by
  have hz := hq.z 0
  obtain ⟨a, hR, hF, e1⟩ := q_quiet hz
  obtain ⟨b, hX, e2⟩ := k_quiet (sh := sh) hk.1 hL hj
  exact ⟨_, a, b, e1, e2, hR, QP.of hF (qok (by decide)), hX⟩
theorem x_count (hq : RS μq V n N w0 r) (hk : STR sh ln μk j V n N w0 r Λo) (hL : LN ln) (hj : NW sh μk j) (h8 : μk (0, 0) 8 = μq (0, 0) 7) (v : Int32) : AGN (f_X11_count μq v) (wr μk (f_X10_count sh ln μk v)) μq μk V n N w0 r := by
  have hb := hk.1.1.b
  have hz := hq.z 0
  have hl := hk.1.1.hlg
  have qp : QP μq (mst μq (0, 0) 0 (0 : Int32)) := QP.of (S := []) Fr.rf (qok (by decide))
  have ef : ∀ i x, (r i = x) → (mst μq (0, 0) 0 (0 : Int32)) (1, 0) i = x := fun i x e => by rw [hz.1]; exact e
  by_cases c : inn v 11
  · obtain ⟨t, ht, rfl⟩ := c
    have ne : ∀ k : Nat, k < 11 → k ≠ t → ¬ nI t = nI k := fun k hk2 hne => by rw [q_eq (by omega) (by omega)]; omega
    have ht' : t = 0 ∨ t = 1 ∨ t = 2 ∨ t = 3 ∨ t = 4 ∨ t = 5 ∨ t = 6 ∨ t = 7 ∨ t = 8 ∨ t = 9 ∨ t = 10 := by omega
    rcases ht' with rfl | rfl | rfl | rfl | rfl | rfl | rfl | rfl | rfl | rfl | rfl
    · refine ⟨nI n, mst μq (0, 0) 0 (0 : Int32), μk, ?_, ?_, hz, qp, FrX.rf⟩
      · rw [f_X11_count, if_pos (show nI 0 = 0 from rfl), q_people hz]; rfl
      · rw [f_X10_count, if_pos (show nI 0 = 0 from rfl), hj.c, hj.run', hk.1.c1]; rfl
    · refine ⟨nI V, mst μq (0, 0) 0 (0 : Int32), μk, ?_, ?_, hz, qp, FrX.rf⟩
      · rw [f_X11_count, if_neg (show ¬ _ = (0 : Int32) from ne 0 (by omega) (by omega)), if_pos (show nI 1 = 1 from rfl), q_values hz]; rfl
      · rw [f_X10_count, if_neg (show ¬ _ = (0 : Int32) from ne 0 (by omega) (by omega)), if_pos (show nI 1 = 1 from rfl), hj.c, hj.run', hk.1.c0]; rfl
    · refine ⟨r 2, mst μq (0, 0) 0 (0 : Int32), μk, ?_, ?_, hz, qp, FrX.rf⟩
      · rw [f_X11_count, if_neg (show ¬ _ = (0 : Int32) from ne 0 (by omega) (by omega)), if_neg (show ¬ _ = (1 : Int32) from ne 1 (by omega) (by omega)), if_pos (show nI 2 = 2 from rfl), show (2 : Int32) = nI 2 from rfl, q_ck (by omega) (by omega), q_cl (by omega), ef 2 _ rfl]
      · rw [f_X10_count, if_neg (show ¬ _ = (0 : Int32) from ne 0 (by omega) (by omega)), if_neg (show ¬ _ = (1 : Int32) from ne 1 (by omega) (by omega)), if_pos (show nI 2 = 2 from rfl), hj.c, hj.run', hk.2.2.2.2.2.2.1]; rfl
    · obtain ⟨x, hx1, hx2⟩ : ∃ x, f_X11_count μq (nI 3) = some (x, mst μq (0, 0) 0 (0 : Int32)) ∧ f_X10_count sh ln μk (nI 3) = some x := by
        have a1 : f_X11_count μq (nI 3) = (if r 3 = (1 : Int32) then some (r 5440, mst μq (0, 0) 0 (0 : Int32)) else (some ((-1 : Int32), (mst μq (0, 0) 0 (0 : Int32))))) := by
          rw [f_X11_count, if_neg (show ¬ _ = (0 : Int32) from ne 0 (by omega) (by omega)), if_neg (show ¬ _ = (1 : Int32) from ne 1 (by omega) (by omega)), if_neg (show ¬ _ = (2 : Int32) from ne 2 (by omega) (by omega)), if_pos (show nI 3 = 3 from rfl), show ck 7114 (3 : Int32) = ck 7114 (nI 3) from rfl, q_ck (by omega) (by omega), show ck 7114 (5440 : Int32) = ck 7114 (nI 5440) from rfl, q_ck (by omega) (by omega), show (3 : Int32).toNatClampNeg = 3 from rfl, show (5440 : Int32).toNatClampNeg = 5440 from by decide +kernel, ef 3 _ rfl, ef 5440 _ rfl]
        have a2 : f_X10_count sh ln μk (nI 3) = (if μk (13, j) 8 = 0 then some (-1 : Int32) else (ce ((μk (13, j) 8).toNatClampNeg - 1 < sh 4 2) (ce (sh 2 j = 1) (if μk (13, j) 8 = 0 then none else (ce ((μk (13, j) 8).toNatClampNeg - 1 < sh 4 2) ((f_X2_lines sh ln ((μk (13, j) 8).toNatClampNeg - 1) μk).bind fun x105 => some x105)))))) := by
          rw [f_X10_count, if_neg (show ¬ _ = (0 : Int32) from ne 0 (by omega) (by omega)), if_neg (show ¬ _ = (1 : Int32) from ne 1 (by omega) (by omega)), if_neg (show ¬ _ = (2 : Int32) from ne 2 (by omega) (by omega)), if_pos (show nI 3 = 3 from rfl), hj.c, hj.run']
        have hLk := hk.2.2.1
        have hLw := hk.2.2.2.1
        cases Λo with
        | none =>
          have h1 : μk (13, j) 8 = nI 0 := hLk
          have h2 : r 3 = nI 0 := hLw
          exact ⟨(-1 : Int32), by rw [a1, h2, if_neg (show ¬ nI 0 = 1 by decide)], by rw [a2, h1, if_pos (show nI 0 = 0 from rfl)]⟩
        | some Λ =>
          obtain ⟨i, b, g1, g2, g3, g4, g5⟩ := hLk
          obtain ⟨f1, f2, f3⟩ := hLw
          refine ⟨nI Λ.1, by rw [a1, f1, if_pos (show nI 1 = 1 from rfl), f2.1], ?_⟩
          have hne : ¬ nI (i + 1) = 0 := by rw [show (0 : Int32) = nI 0 from rfl, q_eq (by omega) (by omega)]; omega
          rw [a2, g1, if_neg hne, if_neg hne, q_cl (by omega), Nat.add_sub_cancel, hj.run']
          unfold ce
          rw [if_pos g2, if_pos g2, f_X2_lines, g4.2.2.2.1]
          rfl
      exact ⟨x, _, μk, hx1, by rw [hx2]; rfl, hz, qp, FrX.rf⟩
    · refine ⟨r 4, mst μq (0, 0) 0 (0 : Int32), μk, ?_, ?_, hz, qp, FrX.rf⟩
      · rw [f_X11_count, if_neg (show ¬ _ = (0 : Int32) from ne 0 (by omega) (by omega)), if_neg (show ¬ _ = (1 : Int32) from ne 1 (by omega) (by omega)), if_neg (show ¬ _ = (2 : Int32) from ne 2 (by omega) (by omega)), if_neg (show ¬ _ = (3 : Int32) from ne 3 (by omega) (by omega)), if_pos (show nI 4 = 4 from rfl), show (4 : Int32) = nI 4 from rfl, q_ck (by omega) (by omega), q_cl (by omega), ef 4 _ rfl]
      · rw [f_X10_count, if_neg (show ¬ _ = (0 : Int32) from ne 0 (by omega) (by omega)), if_neg (show ¬ _ = (1 : Int32) from ne 1 (by omega) (by omega)), if_neg (show ¬ _ = (2 : Int32) from ne 2 (by omega) (by omega)), if_neg (show ¬ _ = (3 : Int32) from ne 3 (by omega) (by omega)), if_pos (show nI 4 = 4 from rfl), hj.c, hj.run', hk.2.2.2.2.1]; rfl
    · refine ⟨nI N, mst μq (0, 0) 0 (0 : Int32), μk, ?_, ?_, hz, qp, FrX.rf⟩
      · rw [f_X11_count, if_neg (show ¬ _ = (0 : Int32) from ne 0 (by omega) (by omega)), if_neg (show ¬ _ = (1 : Int32) from ne 1 (by omega) (by omega)), if_neg (show ¬ _ = (2 : Int32) from ne 2 (by omega) (by omega)), if_neg (show ¬ _ = (3 : Int32) from ne 3 (by omega) (by omega)), if_neg (show ¬ _ = (4 : Int32) from ne 4 (by omega) (by omega)), if_pos (show nI 5 = 5 from rfl), q_worlds hz]; rfl
      · rw [f_X10_count, if_neg (show ¬ _ = (0 : Int32) from ne 0 (by omega) (by omega)), if_neg (show ¬ _ = (1 : Int32) from ne 1 (by omega) (by omega)), if_neg (show ¬ _ = (2 : Int32) from ne 2 (by omega) (by omega)), if_neg (show ¬ _ = (3 : Int32) from ne 3 (by omega) (by omega)), if_neg (show ¬ _ = (4 : Int32) from ne 4 (by omega) (by omega)), if_pos (show nI 5 = 5 from rfl), hj.c, hj.run', hk.1.c2]; rfl
    · have e2 := k_manyLeft (sh := sh) hk.1
      have e1 : Wh (fun z : Int32 × Int32 => f_X11_count_L122 (mst μq (0, 0) 0 (0 : Int32)) z.1 z.2) ((0 : Int32), (0 : Int32)) = some (nI (cnt N (lf r)), mst μq (0, 0) 0 (0 : Int32)) := by
        refine Wh_it N (fun k => (nI (cnt k (lf r)), nI k)) rfl (fun k hk2 => ?_) ?_
        · show f_X11_count_L122 (mst μq (0, 0) 0 (0 : Int32)) (nI (cnt k (lf r))) (nI k) = some (.inl (nI (cnt (k + 1) (lf r)), nI (k + 1)))
          rw [f_X11_count_L122, q_worlds hz, Option.bind_some, if_neg (by rw [q_le (by omega) (by omega)]; omega), q_isLeft hz hk2, Option.bind_some, cnt_s]
          cases lf r k
          · rw [if_pos (show bI false = 0 from rfl), show (0 : Int32) = nI 0 from rfl, show (1 : Int32) = nI 1 from rfl, nI_add, nI_add]; rfl
          · rw [if_neg (show ¬ bI true = 0 by decide), show (1 : Int32) = nI 1 from rfl, nI_add, nI_add]; rfl
        · show f_X11_count_L122 (mst μq (0, 0) 0 (0 : Int32)) (nI (cnt N (lf r))) (nI N) = _
          rw [f_X11_count_L122, q_worlds hz, Option.bind_some, if_pos (Int32.le_refl _)]; rfl
      refine ⟨nI (cnt N (lf r)), mst μq (0, 0) 0 (0 : Int32), μk, ?_, ?_, hz, qp, FrX.rf⟩
      · rw [f_X11_count, if_neg (show ¬ _ = (0 : Int32) from ne 0 (by omega) (by omega)), if_neg (show ¬ _ = (1 : Int32) from ne 1 (by omega) (by omega)), if_neg (show ¬ _ = (2 : Int32) from ne 2 (by omega) (by omega)), if_neg (show ¬ _ = (3 : Int32) from ne 3 (by omega) (by omega)), if_neg (show ¬ _ = (4 : Int32) from ne 4 (by omega) (by omega)), if_neg (show ¬ _ = (5 : Int32) from ne 5 (by omega) (by omega)), if_pos (show nI 6 = 6 from rfl)]
        exact e1
      · rw [f_X10_count, if_neg (show ¬ _ = (0 : Int32) from ne 0 (by omega) (by omega)), if_neg (show ¬ _ = (1 : Int32) from ne 1 (by omega) (by omega)), if_neg (show ¬ _ = (2 : Int32) from ne 2 (by omega) (by omega)), if_neg (show ¬ _ = (3 : Int32) from ne 3 (by omega) (by omega)), if_neg (show ¬ _ = (4 : Int32) from ne 4 (by omega) (by omega)), if_neg (show ¬ _ = (5 : Int32) from ne 5 (by omega) (by omega)), if_pos (show nI 6 = 6 from rfl), hj.c, hj.run', e2]; rfl
    · refine ⟨nI w0, mst μq (0, 0) 0 (0 : Int32), μk, ?_, ?_, hz, qp, FrX.rf⟩
      · rw [f_X11_count, if_neg (show ¬ _ = (0 : Int32) from ne 0 (by omega) (by omega)), if_neg (show ¬ _ = (1 : Int32) from ne 1 (by omega) (by omega)), if_neg (show ¬ _ = (2 : Int32) from ne 2 (by omega) (by omega)), if_neg (show ¬ _ = (3 : Int32) from ne 3 (by omega) (by omega)), if_neg (show ¬ _ = (4 : Int32) from ne 4 (by omega) (by omega)), if_neg (show ¬ _ = (5 : Int32) from ne 5 (by omega) (by omega)), if_neg (show ¬ _ = (6 : Int32) from ne 6 (by omega) (by omega)), if_pos (show nI 7 = 7 from rfl), q_here hz]; rfl
      · rw [f_X10_count, if_neg (show ¬ _ = (0 : Int32) from ne 0 (by omega) (by omega)), if_neg (show ¬ _ = (1 : Int32) from ne 1 (by omega) (by omega)), if_neg (show ¬ _ = (2 : Int32) from ne 2 (by omega) (by omega)), if_neg (show ¬ _ = (3 : Int32) from ne 3 (by omega) (by omega)), if_neg (show ¬ _ = (4 : Int32) from ne 4 (by omega) (by omega)), if_neg (show ¬ _ = (5 : Int32) from ne 5 (by omega) (by omega)), if_neg (show ¬ _ = (6 : Int32) from ne 6 (by omega) (by omega)), if_pos (show nI 7 = 7 from rfl), hj.c, hj.run', hk.1.c3]; rfl
    · obtain ⟨R, e1⟩ := q_sureOnes hz hb.2.2.2.2.2 hk.1.1.h0
      have e2 := k_sureOnes (sh := sh) hk.1
      refine ⟨nI (suO r V n N w0 n), mrow (mst μq (0, 0) 0 (0 : Int32)) (8, 0) R, μk, ?_, ?_, (hz.row (a := 8) (b := 0) R (by omega)), QP.of (S := [8]) (Fr.rf.mr (by decide)) (qok (by decide)), FrX.rf⟩
      · rw [f_X11_count, if_neg (show ¬ _ = (0 : Int32) from ne 0 (by omega) (by omega)), if_neg (show ¬ _ = (1 : Int32) from ne 1 (by omega) (by omega)), if_neg (show ¬ _ = (2 : Int32) from ne 2 (by omega) (by omega)), if_neg (show ¬ _ = (3 : Int32) from ne 3 (by omega) (by omega)), if_neg (show ¬ _ = (4 : Int32) from ne 4 (by omega) (by omega)), if_neg (show ¬ _ = (5 : Int32) from ne 5 (by omega) (by omega)), if_neg (show ¬ _ = (6 : Int32) from ne 6 (by omega) (by omega)), if_neg (show ¬ _ = (7 : Int32) from ne 7 (by omega) (by omega)), if_pos (show nI 8 = 8 from rfl), q_here hz, Option.bind_some, e1]; rfl
      · rw [f_X10_count, if_neg (show ¬ _ = (0 : Int32) from ne 0 (by omega) (by omega)), if_neg (show ¬ _ = (1 : Int32) from ne 1 (by omega) (by omega)), if_neg (show ¬ _ = (2 : Int32) from ne 2 (by omega) (by omega)), if_neg (show ¬ _ = (3 : Int32) from ne 3 (by omega) (by omega)), if_neg (show ¬ _ = (4 : Int32) from ne 4 (by omega) (by omega)), if_neg (show ¬ _ = (5 : Int32) from ne 5 (by omega) (by omega)), if_neg (show ¬ _ = (6 : Int32) from ne 6 (by omega) (by omega)), if_neg (show ¬ _ = (7 : Int32) from ne 7 (by omega) (by omega)), if_pos (show nI 8 = 8 from rfl), hj.c, hj.run', hj.run', e2]; rfl
    · refine ⟨nI (lgd r), mst μq (0, 0) 0 (0 : Int32), μk, ?_, ?_, hz, qp, FrX.rf⟩
      · rw [f_X11_count, if_neg (show ¬ _ = (0 : Int32) from ne 0 (by omega) (by omega)), if_neg (show ¬ _ = (1 : Int32) from ne 1 (by omega) (by omega)), if_neg (show ¬ _ = (2 : Int32) from ne 2 (by omega) (by omega)), if_neg (show ¬ _ = (3 : Int32) from ne 3 (by omega) (by omega)), if_neg (show ¬ _ = (4 : Int32) from ne 4 (by omega) (by omega)), if_neg (show ¬ _ = (5 : Int32) from ne 5 (by omega) (by omega)), if_neg (show ¬ _ = (6 : Int32) from ne 6 (by omega) (by omega)), if_neg (show ¬ _ = (7 : Int32) from ne 7 (by omega) (by omega)), if_neg (show ¬ _ = (8 : Int32) from ne 8 (by omega) (by omega)), if_pos (show nI 9 = 9 from rfl), show (9 : Int32) = nI 9 from rfl, q_ck (by omega) (by omega), q_cl (by omega), ef 9 _ hl.1]
      · rw [f_X10_count, if_neg (show ¬ _ = (0 : Int32) from ne 0 (by omega) (by omega)), if_neg (show ¬ _ = (1 : Int32) from ne 1 (by omega) (by omega)), if_neg (show ¬ _ = (2 : Int32) from ne 2 (by omega) (by omega)), if_neg (show ¬ _ = (3 : Int32) from ne 3 (by omega) (by omega)), if_neg (show ¬ _ = (4 : Int32) from ne 4 (by omega) (by omega)), if_neg (show ¬ _ = (5 : Int32) from ne 5 (by omega) (by omega)), if_neg (show ¬ _ = (6 : Int32) from ne 6 (by omega) (by omega)), if_neg (show ¬ _ = (7 : Int32) from ne 7 (by omega) (by omega)), if_neg (show ¬ _ = (8 : Int32) from ne 8 (by omega) (by omega)), if_pos (show nI 9 = 9 from rfl), hj.c, hj.run', hk.2.1.1]; rfl
    · have e7 : mst μq (0, 0) 0 (0 : Int32) (0, 0) 7 = μq (0, 0) 7 := by rw [mst_row, mrow_self, q_upd, if_neg (by omega)]
      refine ⟨μq (0, 0) 7, mst μq (0, 0) 0 (0 : Int32), μk, ?_, ?_, hz, qp, FrX.rf⟩
      · rw [f_X11_count, if_neg (show ¬ _ = (0 : Int32) from ne 0 (by omega) (by omega)), if_neg (show ¬ _ = (1 : Int32) from ne 1 (by omega) (by omega)), if_neg (show ¬ _ = (2 : Int32) from ne 2 (by omega) (by omega)), if_neg (show ¬ _ = (3 : Int32) from ne 3 (by omega) (by omega)), if_neg (show ¬ _ = (4 : Int32) from ne 4 (by omega) (by omega)), if_neg (show ¬ _ = (5 : Int32) from ne 5 (by omega) (by omega)), if_neg (show ¬ _ = (6 : Int32) from ne 6 (by omega) (by omega)), if_neg (show ¬ _ = (7 : Int32) from ne 7 (by omega) (by omega)), if_neg (show ¬ _ = (8 : Int32) from ne 8 (by omega) (by omega)), if_neg (show ¬ _ = (9 : Int32) from ne 9 (by omega) (by omega)), if_pos (show nI 10 = 10 from rfl), e7]
      · rw [f_X10_count, if_neg (show ¬ _ = (0 : Int32) from ne 0 (by omega) (by omega)), if_neg (show ¬ _ = (1 : Int32) from ne 1 (by omega) (by omega)), if_neg (show ¬ _ = (2 : Int32) from ne 2 (by omega) (by omega)), if_neg (show ¬ _ = (3 : Int32) from ne 3 (by omega) (by omega)), if_neg (show ¬ _ = (4 : Int32) from ne 4 (by omega) (by omega)), if_neg (show ¬ _ = (5 : Int32) from ne 5 (by omega) (by omega)), if_neg (show ¬ _ = (6 : Int32) from ne 6 (by omega) (by omega)), if_neg (show ¬ _ = (7 : Int32) from ne 7 (by omega) (by omega)), if_neg (show ¬ _ = (8 : Int32) from ne 8 (by omega) (by omega)), if_neg (show ¬ _ = (9 : Int32) from ne 9 (by omega) (by omega)), if_pos (show nI 10 = 10 from rfl), h8]; rfl
  · have ne : ∀ k : Nat, k < 11 → ¬ v = nI k := fun k hk2 => not_inn_ne c hk2
    refine ⟨(-1 : Int32), mst μq (0, 0) 0 (0 : Int32), μk, ?_, ?_, hz, qp, FrX.rf⟩
    · rw [f_X11_count, if_neg (show ¬ _ = (0 : Int32) from ne 0 (by omega)), if_neg (show ¬ _ = (1 : Int32) from ne 1 (by omega)), if_neg (show ¬ _ = (2 : Int32) from ne 2 (by omega)), if_neg (show ¬ _ = (3 : Int32) from ne 3 (by omega)), if_neg (show ¬ _ = (4 : Int32) from ne 4 (by omega)), if_neg (show ¬ _ = (5 : Int32) from ne 5 (by omega)), if_neg (show ¬ _ = (6 : Int32) from ne 6 (by omega)), if_neg (show ¬ _ = (7 : Int32) from ne 7 (by omega)), if_neg (show ¬ _ = (8 : Int32) from ne 8 (by omega)), if_neg (show ¬ _ = (9 : Int32) from ne 9 (by omega)), if_neg (show ¬ _ = (10 : Int32) from ne 10 (by omega))]
    · rw [f_X10_count, if_neg (show ¬ _ = (0 : Int32) from ne 0 (by omega)), if_neg (show ¬ _ = (1 : Int32) from ne 1 (by omega)), if_neg (show ¬ _ = (2 : Int32) from ne 2 (by omega)), if_neg (show ¬ _ = (3 : Int32) from ne 3 (by omega)), if_neg (show ¬ _ = (4 : Int32) from ne 4 (by omega)), if_neg (show ¬ _ = (5 : Int32) from ne 5 (by omega)), if_neg (show ¬ _ = (6 : Int32) from ne 6 (by omega)), if_neg (show ¬ _ = (7 : Int32) from ne 7 (by omega)), if_neg (show ¬ _ = (8 : Int32) from ne 8 (by omega)), if_neg (show ¬ _ = (9 : Int32) from ne 9 (by omega)), if_neg (show ¬ _ = (10 : Int32) from ne 10 (by omega))]; rfl
end AGZ
