-- least and most; a line; all lines of the village
section LIM
variable {sh : Sh} {ln : Nat → Nat} {μ a μq μk : Mm} {T : Nat → Nat} {z b b0 d V n N w0 : Nat} {r r1 : Nat → Int32} {Λo : Option LW} {x2 : Int32}
theorem v_limit (hV : VL sh ln μq μk T z b d V n N w0 r Λo x2) (hX : VX sh ln μk d) (h15 : μq (0, 0) 15 = nI b0) (le : Bool) : VO (f_X11_readMany (mst μq (1, 0) (8 : Int32).toNatClampNeg (1 : Int32)) (bI le)) (f_X9_readLimit sh ln μk (nI b0) (bI le)) sh ln μq μk T z d Λo x2 := by
  obtain ⟨hR, hQ, hK, hS, hE⟩ := hV
  have hb := hR.2.b
  have hT := hQ.1.2.2.1
  obtain ⟨μ1, hμ1⟩ : ∃ μ1, μ1 = mst μq (1, 0) (8 : Int32).toNatClampNeg (1 : Int32) := ⟨_, rfl⟩
  have hR1 : RS μ1 V n N w0 (upd r 8 (nI 1)) := by rw [hμ1]; exact hR.tm
  have hQ1 : QC μ1 T z b := by rw [hμ1, mst_row]; exact hQ.row (by omega) (by omega)
  have h15' : μ1 (0, 0) 15 = nI b0 := by rw [hμ1, mst_row, mrow_neA (by omega)]; exact h15
  have qr1 : QR μq μ1 := by rw [hμ1]; exact QR.tm
  rw [← hμ1]
  obtain ⟨a1, qf1, q15, qy, qn⟩ := t_number hQ1 (0 : Int32) (9 : Int32)
  have hi := okN_lit (T := T) (z := z) (b := b) (lo := 0) (hi := 9) (fun c => nmv_le c) (hT b) (by omega)
  have ht := k_takeN0 (sh := sh) hK (0 : Int32) (9 : Int32)
  by_cases c1 : okN T z b (0 : Int32) (9 : Int32)
  · obtain ⟨qe1, Q1⟩ := qy c1
    obtain ⟨k1, e1, kf1, K1, n1⟩ := ht.1 c1
    obtain ⟨m, hm⟩ : ∃ m, m = nmv T z b := ⟨_, rfl⟩
    have hm9 := (hi.mp c1).2.2
    rw [← hm] at qe1 n1 hm9
    have R1 := hR1.qf qf1
    obtain ⟨a2, e2, qf2, q215, q213, T2, hW2, hy2, hn2⟩ := t_letters Q1
    have R2 := R1.qf qf2
    have w10 := hW2 10 (by omega) (by omega)
    have ht2 := k_take0 (sh := sh) K1 (v := 306) (by omega)
    have hqq : f_X11_readMany μ1 (bI le) = (f_X11_after 10 a1 (0 : Int32) (nI V - (1 : Int32))).bind fun x31 => f_X11_readMany_J34 x31.2 (bI le) (nI b0) (nI m) x31.1 := by
      rw [f_X11_readMany, qe1, Option.bind_some, h15']
      show (if 0 ≤ nI m then (f_X11_values a1).bind fun x26 => (f_X11_after 10 a1 (0 : Int32) (x26 - (1 : Int32))).bind fun x31 => f_X11_readMany_J34 x31.2 (bI le) (nI b0) (nI m) x31.1 else _) = _
      rw [if_pos (show (0 : Int32) ≤ nI m from nI_le (a := 0) (by omega) (by omega)), q_values R1, Option.bind_some]
    have hkk : f_X9_readLimit sh ln μk (nI b0) (bI le) = (f_X8_take_0 sh ln k1 (306 : Int32)).bind fun x19 => if x19.1 = 0 then some ((0 : Int32), x19.2) else (if x19.2 (6, 0) 12 = 0 then none else (ce (sh 2 ((x19.2 (6, 0) 12).toNatClampNeg - 1) = 1) ((f_X8_takeNumber_0 sh ln x19.2 (0 : Int32) ((x19.2 (13, (x19.2 (6, 0) 12).toNatClampNeg - 1) 0) - (1 : Int32))).bind fun x44 => if x44.1 = 0 then some ((0 : Int32), x44.2) else (if x44.2 (6, 0) 12 = 0 then none else (ce (sh 2 ((x44.2 (6, 0) 12).toNatClampNeg - 1) = 1) ((f_X4_sayWhetherMany sh ln ((x44.2 (6, 0) 12).toNatClampNeg - 1) x44.2 (nI m) (x19.2 (6, 0) 10) (bI le)).bind fun x64 => (f_X9_tellAll sh ln x64 (nI b0)).bind fun x69 => cb x69.1 (some (x69.1, x69.2)))))))) := by
      rw [f_X9_readLimit, e1, Option.bind_some, if_neg (show ¬ (nI 1, k1).1 = 0 by show ¬ nI 1 = 0; decide), n1]
    by_cases c2 : KN T z (nx T z b) = 306
    · rw [decide_eq_true c2] at w10
      have hw306 := (KN_w (z := z) (hT _) (w := 10) (by omega)).mp c2
      have Q2 := hy2 ⟨hw306.1, hw306.2.1⟩
      obtain ⟨k2, e3, kf2, K2⟩ := ht2.1 c2
      have F2 : KF 0 μk k2 := kf1.F.tr kf2.F
      have X2 := hX.fr (F2.V (d := d))
      have S2 := hS.kf F2
      obtain ⟨b3, hb3⟩ : ∃ b3, b3 = nx T z (nx T z b) := ⟨_, rfl⟩
      rw [← hb3] at Q2 K2
      obtain ⟨a3, qf3, q315, qy3, qn3⟩ := t_number Q2 (0 : Int32) (nI V - (1 : Int32))
      have hi3 := okN_iff (T := T) (z := z) (b := b3) (m := V) (fun c => nmv_le c) (hT b3) (by omega)
      have ht3 := k_takeN0 (sh := sh) K2 (0 : Int32) (nI V - (1 : Int32))
      have hqq2 : f_X11_readMany μ1 (bI le) = (f_X11_number a2 (0 : Int32) (nI V - (1 : Int32))).bind fun x31 => f_X11_readMany_J34 x31.2 (bI le) (nI b0) (nI m) x31.1 := by
        rw [hqq, f_X11_after, e2, Option.bind_some, w10, Option.bind_some, if_neg (show ¬ bI true = 0 by decide)]
        cases f_X11_number a2 (0 : Int32) (nI V - (1 : Int32)) with
        | none => rfl
        | some y => rfl
      have hkk2 : f_X9_readLimit sh ln μk (nI b0) (bI le) = (f_X8_takeNumber_0 sh ln k2 (0 : Int32) (nI V - (1 : Int32))).bind fun x44 => if x44.1 = 0 then some ((0 : Int32), x44.2) else (if x44.2 (6, 0) 12 = 0 then none else (ce (sh 2 ((x44.2 (6, 0) 12).toNatClampNeg - 1) = 1) ((f_X4_sayWhetherMany sh ln ((x44.2 (6, 0) 12).toNatClampNeg - 1) x44.2 (nI m) (k2 (6, 0) 10) (bI le)).bind fun x64 => (f_X9_tellAll sh ln x64 (nI b0)).bind fun x69 => cb x69.1 (some (x69.1, x69.2))))) := by
        rw [hkk, show (306 : Int32) = nI 306 from rfl, e3, Option.bind_some, if_neg (show ¬ (nI 1, k2).1 = 0 by show ¬ nI 1 = 0; decide)]
        show (if k2 (6, 0) 12 = 0 then none else (ce (sh 2 ((k2 (6, 0) 12).toNatClampNeg - 1) = 1) ((f_X8_takeNumber_0 sh ln k2 (0 : Int32) ((k2 (13, (k2 (6, 0) 12).toNatClampNeg - 1) 0) - (1 : Int32))).bind _))) = _
        rw [if_neg X2.nz, X2.c, X2.s, S2.1.c0]
      by_cases c3 : okN T z b3 (0 : Int32) (nI V - (1 : Int32))
      · obtain ⟨qe3, Q3⟩ := qy3 c3
        obtain ⟨k3, e4, kf3, K3, n3⟩ := ht3.1 c3
        obtain ⟨v, hvd⟩ : ∃ v, v = nmv T z b3 := ⟨_, rfl⟩
        have hvV := (hi3.mp c3).2
        rw [← hvd] at qe3 n3 hvV
        have F3 : KF 0 μk k3 := F2.tr kf3.F
        have X3 := hX.fr (F3.V (d := d))
        have S3 := hS.kf F3
        have R3 := R2.qf qf3
        obtain ⟨C, e5, hC⟩ := k_sayMany (sh := sh) S3.1 hX.2.2.2.1 (m := m) (v := v) (by omega) (by omega) le
        have FC : FrX k3 (mrow k3 (12, 4) C) := FrX.rf.mr (by omega) (by omega)
        have hs0 := fun (A : Nat → Int32) => R3.row (a := 9) (b := 0) A (by omega)
        obtain ⟨A, hA, e6⟩ := came_loop (f := fun z : Mm × Int32 => f_X11_readMany_L46 (bI le) (nI b0) (nI m) (nI v) z.1 z.2) (μ := a3) N (fun w => bI (if le = true then decide (m ≤ hv V n v w n) else decide (hv V n v w n ≤ m))) (fun x => (f_X11_isSo x (nI b0)).bind fun x73 => cb x73.1 (some (x73.1, x73.2))) (fun k A hk => by
          have R' := hs0 A
          have hh := hv_le V n v k n
          have eh := q_haveIn R' hk (show v < 2147483648 by omega)
          have hfin : ∀ x : Int32, x = bI (if le = true then decide (m ≤ hv V n v k n) else decide (hv V n v k n ≤ m)) → ck 512 (nI k) (some (.inl ((mst (mrow a3 (9, 0) A) (9, 0) (nI k).toNatClampNeg x), nI k + (1 : Int32)))) = (some (.inl (mrow a3 (9, 0) (upd A k (bI (if le = true then decide (m ≤ hv V n v k n) else decide (hv V n v k n ≤ m)))), nI (k + 1))) : Option ((Mm × Int32) ⊕ (Int32 × Mm))) := by
            intro x hx
            rw [q_ck (by omega) (by omega), q_cl (by omega), mst_row, mrow_mrow, mrow_self, show (1 : Int32) = nI 1 from rfl, nI_add, hx]
          show f_X11_readMany_L46 (bI le) (nI b0) (nI m) (nI v) (mrow a3 (9, 0) A) (nI k) = _
          rw [f_X11_readMany_L46, q_worlds R', Option.bind_some, if_neg (by rw [q_le (by omega) (by omega)]; omega), eh, Option.bind_some, Option.bind_some]
          have l1 : (nI (hv V n v k n) < nI m) = (hv V n v k n < m) := q_lt (by omega) (by omega)
          have l2 : (nI m < nI (hv V n v k n)) = (m < hv V n v k n) := q_lt (by omega) (by omega)
          cases le
          · rw [if_pos (show bI false = 0 from rfl)]
            by_cases c : m < hv V n v k n
            · rw [if_pos (l2.mpr c)]
              exact hfin _ (by rw [if_neg (show ¬ false = true by decide), decide_eq_false (by omega)]; rfl)
            · rw [if_neg (fun x => c (l2.mp x))]
              exact hfin _ (by rw [if_neg (show ¬ false = true by decide), decide_eq_true (by omega)]; rfl)
          · rw [if_neg (show ¬ bI true = 0 by decide)]
            by_cases c : hv V n v k n < m
            · rw [if_pos (l1.mpr c)]
              exact hfin _ (by rw [if_pos rfl, decide_eq_false (by omega)]; rfl)
            · rw [if_neg (fun x => c (l1.mp x))]
              exact hfin _ (by rw [if_pos rfl, decide_eq_true (by omega)]; rfl)) (fun A => by
          show f_X11_readMany_L46 (bI le) (nI b0) (nI m) (nI v) (mrow a3 (9, 0) A) (nI N) = _
          rw [f_X11_readMany_L46, q_worlds (hs0 A), Option.bind_some, if_pos (Int32.le_refl _)]) (fun A hA => by
          have es := q_isSo (hs0 A) (P := fun w => if le = true then decide (m ≤ hv V n v w n) else decide (hv V n v w n ≤ m)) (fun w hw => by rw [mrow_self]; exact hA w hw) (nI b0)
          show ∃ y, ((f_X11_isSo (mrow a3 (9, 0) A) (nI b0)).bind fun x73 => cb x73.1 (some (x73.1, x73.2))) = some y
          rw [es]
          rcases Classical.em ((if le = true then decide (m ≤ hv V n v w0 n) else decide (hv V n v w0 n ≤ m)) = true) with c | c
          · rw [if_pos c]; exact ⟨_, q_cb1⟩
          · rw [if_neg c]; exact ⟨_, q_cb0⟩)
        have hV2 := v_tell (b0 := b0) (first := nI b0) (hs0 A) (Q3.row (k := 9) (f := A) (by omega) (by omega)) (K3.S (FC.S (j := d))) (S3.X FC) (X3.fr (FC.Vf)) (P := fun w => if le = true then decide (m ≤ hv V n v w n) else decide (hv V n v w n ≤ m)) (fun w hw => by rw [mrow_self]; exact hA w hw) (fun w hw => by rw [mrow_self]; exact hC w hw) rfl hE.2
        have hq3 : f_X11_readMany μ1 (bI le) = ((f_X11_isSo (mrow a3 (9, 0) A) (nI b0)).bind fun x73 => cb x73.1 (some (x73.1, x73.2))) := by
          rw [hqq2, qe3, Option.bind_some, f_X11_readMany_J34]
          show (if 0 ≤ nI v then _ else _) = _
          rw [if_pos (show (0 : Int32) ≤ nI v from nI_le (a := 0) (by omega) (by omega))]
          exact e6
        have hk3 : f_X9_readLimit sh ln μk (nI b0) (bI le) = ((f_X9_tellAll sh ln (mrow k3 (12, 4) C) (nI b0)).bind fun x31 => cb x31.1 (some (x31.1, x31.2))) := by
          rw [hkk2, e4, Option.bind_some, if_neg (show ¬ (nI 1, k3).1 = 0 by show ¬ nI 1 = 0; decide)]
          show (if k3 (6, 0) 12 = 0 then none else (ce (sh 2 ((k3 (6, 0) 12).toNatClampNeg - 1) = 1) ((f_X4_sayWhetherMany sh ln ((k3 (6, 0) 12).toNatClampNeg - 1) k3 (nI m) (k2 (6, 0) 10) (bI le)).bind fun x64 => (f_X9_tellAll sh ln x64 (nI b0)).bind fun x69 => cb x69.1 (some (x69.1, x69.2))))) = _
          rw [if_neg X3.nz, X3.c, X3.s, n3, e5, Option.bind_some]
        rw [hq3, hk3]
        refine (hV2.cbq.cbk).pre ?_ (F3.V.tr FC.Vf)
        exact ((((qr1.tr qf1.R).tr qf2.R).tr qf3.R)).tr ⟨Fr.rf.mr (by decide), fun i _ _ _ _ => by rw [mrow_neA (by omega)]⟩
      · right
        refine ⟨a3, mst k2 (6, 0) 7 (nI b3), b3, ?_, ?_, q315, wr7, ((qr1.tr qf1.R).tr qf2.R).tr qf3.R, F2.V.tw FrV.wr⟩
        · rw [hqq2, qn3 c3, Option.bind_some, f_X11_readMany_J34]
          exact if_neg (show ¬ (0 : Int32) ≤ -nI 1 by decide)
        · rw [hkk2, ht3.2 c3]; rfl
    · rw [decide_eq_false c2] at w10
      right
      refine ⟨a2, mst k1 (6, 0) 7 (nI (nx T z b)), nx T z b, ?_, ?_, q215, wr7, (qr1.tr qf1.R).tr qf2.R, kf1.F.V.tw FrV.wr⟩
      · rw [hqq, f_X11_after, e2, Option.bind_some, w10, Option.bind_some, if_pos (show bI false = 0 from rfl), Option.bind_some, f_X11_readMany_J34]
        exact if_neg (show ¬ (0 : Int32) ≤ -1 by decide)
      · rw [hkk, show (306 : Int32) = nI 306 from rfl, ht2.2 c2]; rfl
  · right
    refine ⟨a1, mst μk (6, 0) 7 (nI b), b, ?_, ?_, q15, wr7, qr1.tr qf1.R, FrV.wr⟩
    · rw [f_X11_readMany, qn c1, Option.bind_some, if_neg (show ¬ (0 : Int32) ≤ -nI 1 by decide), f_X11_readMany_J34, if_neg (show ¬ (0 : Int32) ≤ -1 by decide)]
      rfl
    · rw [f_X9_readLimit, ht.2 c1]; rfl
end LIM
