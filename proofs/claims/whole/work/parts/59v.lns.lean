-- a line of the village, all its lines
section VLN
variable {sh : Sh} {ln : Nat → Nat} {μ a μq μk : Mm} {T : Nat → Nat} {z b b0 d V n N w0 : Nat} {r r1 : Nat → Int32} {Λo : Option LW} {x2 : Int32}
theorem VOA.pre {fq : Option (Int32 × Mm)} {fk : Option ((Int32 × (Nat → Nat) × Mm) × Nat × Nat)} {aq ak : Mm} (h : VOA fq fk sh ln aq ak T z d Λo x2) (hq : QR μq aq) (hk : FrV d μk ak) : VOA fq fk sh ln μq μk T z d Λo x2 := by
  rcases h with ⟨x1, x2, ln', kc, ks, V, n, N, w0, r, b, e1, e2, e3, e4, e5, e6⟩ | ⟨x1, x2, x, e1, e2, e3, e4, e5, e6⟩
  · exact Or.inl ⟨x1, x2, ln', kc, ks, V, n, N, w0, r, b, e1, e2, e3, e4, hq.tr e5, hk.tr e6⟩
  · exact Or.inr ⟨x1, x2, x, e1, e2, e3, e4, hq.tr e5, hk.tw e6⟩
theorem VO.A {fq fk : Option (Int32 × Mm)} (h : VO fq fk sh ln μq μk T z d Λo x2) : VOA fq (fk.bind fun x => cb x.1 (some ((x.1, ln, x.2), 0, 0))) sh ln μq μk T z d Λo x2 := by
  rcases h with ⟨x1, x2, V, n, N, w0, r, b, e1, e2, e3, e4, e5⟩ | ⟨x1, x2, x, e1, e2, e3⟩
  · exact Or.inl ⟨x1, x2, ln, 0, 0, V, n, N, w0, r, b, e1, by rw [e2]; exact q_cb1, GR.rf, e3, e4, e5⟩
  · exact Or.inr ⟨x1, x2, x, e1, by rw [e2]; exact q_cb0, e3⟩
theorem VOA.ck {fq : Option (Int32 × Mm)} {fk : Option ((Int32 × (Nat → Nat) × Mm) × Nat × Nat)} (h : VOA fq fk sh ln μq μk T z d Λo x2) : VOA fq (fk.bind fun x => addc x.2.1 x.2.2 (cb x.1.1 (some ((x.1.1, x.1.2.1, x.1.2.2), 0, 0)))) sh ln μq μk T z d Λo x2 := by
  rcases h with ⟨x1, x2, ln', kc, ks, V, n, N, w0, r, b, e1, e2, e3⟩ | ⟨x1, x2, x, e1, e2, e3⟩
  · exact Or.inl ⟨x1, x2, ln', kc + 0, ks + 0, V, n, N, w0, r, b, e1, by rw [e2]; rfl, e3⟩
  · exact Or.inr ⟨x1, x2, x, e1, by rw [e2]; rfl, e3⟩
theorem VOA.cq {fq : Option (Int32 × Mm)} {fk : Option ((Int32 × (Nat → Nat) × Mm) × Nat × Nat)} (h : VOA fq fk sh ln μq μk T z d Λo x2) : VOA (fq.bind fun x => cb x.1 (some (x.1, x.2))) fk sh ln μq μk T z d Λo x2 := by
  rcases h with ⟨x1, x2, ln', kc, ks, V, n, N, w0, r, b, e1, e2, e3⟩ | ⟨x1, x2, x, e1, e2, e3⟩
  · exact Or.inl ⟨x1, x2, ln', kc, ks, V, n, N, w0, r, b, by rw [e1]; exact q_cb1, e2, e3⟩
  · exact Or.inr ⟨x1, x2, x, by rw [e1]; exact q_cb0, e2, e3⟩
theorem VOA.nq {fq : Option (Int32 × Mm)} {fk : Option ((Int32 × (Nat → Nat) × Mm) × Nat × Nat)} (h : VOA fq fk sh ln μq μk T z d Λo x2) : VOA (fq.bind fun x => if x.1 = 0 then some ((0 : Int32), x.2) else (some ((1 : Int32), x.2))) fk sh ln μq μk T z d Λo x2 := by
  rcases h with ⟨x1, x2, ln', kc, ks, V, n, N, w0, r, b, e1, e2, e3⟩ | ⟨x1, x2, x, e1, e2, e3⟩
  · exact Or.inl ⟨x1, x2, ln', kc, ks, V, n, N, w0, r, b, by rw [e1]; rfl, e2, e3⟩
  · exact Or.inr ⟨x1, x2, x, by rw [e1]; rfl, e2, e3⟩
theorem ck8 {X : Type} (x : Option X) : ck 7114 (8 : Int32) x = x := q_ck (i := 8) (by omega) (by omega)
theorem v_word (hV : VL sh ln μq μk T z b d V n N w0 r Λo x2) (hX : VX sh ln μk d) {aq : Mm} (hR2 : RS aq V n N w0 r) (h15 : aq (0, 0) 15 = nI b) (hqr : QR μq aq) (hW : ∀ w, 5 ≤ w → w < 24 → f_X11_isWord w aq = some (bI (decide (KN T z b = 296 + w)))) (hy : b < z ∧ isLe (T b) = true → QC aq T z (nx T z b)) :
    VOA (f_X11_readVillageLine aq) (f_X9_readLineA sh ln μk) sh ln μq μk T z d Λo x2 := by
  obtain ⟨hR, hQ, hK, hS, hE⟩ := hV
  have hT := hQ.1.2.2.1
  have hlt := KN_lt (z := z) (hT b)
  have hw1 : ∀ w, 5 ≤ w → w < 24 → KN T z b = 296 + w → f_X11_isWord w aq = some (nI 1) := fun w h5 h24 e => (hW w h5 h24).trans (by rw [decide_eq_true e]; rfl)
  have hw0 : ∀ w, 5 ≤ w → w < 24 → KN T z b ≠ 296 + w → f_X11_isWord w aq = some (nI 0) := fun w h5 h24 e => (hW w h5 h24).trans (by rw [decide_eq_false e]; rfl)
  have z0 : nI 0 = (0 : Int32) := rfl
  have z1 : ¬ nI 1 = (0 : Int32) := by decide
  have e0 : f_X9_readLineA sh ln μk = (if (301 : Int32) ≤ nI (KN T z b) then (f_X8_step_0 sh ln μk).bind fun x31 => if nI (KN T z b) = (301 : Int32) then (f_X9_readValues sh ln x31 (nI b)).bind fun x82 => cb x82.1 (some ((x82.1, ln, x82.2), 0, 0)) else (if nI (KN T z b) = (302 : Int32) then (f_X9_readPersonA sh ln x31 (nI b)).bind fun x88 => addc x88.2.1 x88.2.2 (cb x88.1.1 (some ((x88.1.1, x88.1.2.1, x88.1.2.2), 0, 0))) else (if nI (KN T z b) = (303 : Int32) then (f_X9_readSees sh ln x31).bind fun x93 => cb x93.1 (some ((x93.1, ln, x93.2), 0, 0)) else (if nI (KN T z b) = (304 : Int32) then if nI (KN T z b) = (304 : Int32) then (f_X9_readLimit sh ln x31 (nI b) (1 : Int32)).bind fun x111 => cb x111.1 (some ((x111.1, ln, x111.2), 0, 0)) else ((f_X9_readLimit sh ln x31 (nI b) (0 : Int32)).bind fun x111 => cb x111.1 (some ((x111.1, ln, x111.2), 0, 0))) else (if nI (KN T z b) = (305 : Int32) then if nI (KN T z b) = (304 : Int32) then (f_X9_readLimit sh ln x31 (nI b) (1 : Int32)).bind fun x111 => cb x111.1 (some ((x111.1, ln, x111.2), 0, 0)) else ((f_X9_readLimit sh ln x31 (nI b) (0 : Int32)).bind fun x111 => cb x111.1 (some ((x111.1, ln, x111.2), 0, 0))) else (if nI (KN T z b) = (306 : Int32) then (f_X8_wrongAt_0 sh ln x31 (nI b)).bind fun x135 => cb x135.1 (some ((x135.1, ln, x135.2), 0, 0)) else (if nI (KN T z b) = (307 : Int32) then if nI (KN T z b) = (307 : Int32) then (f_X9_readMatch sh ln x31 (nI b) (1 : Int32)).bind fun x129 => cb x129.1 (some ((x129.1, ln, x129.2), 0, 0)) else ((f_X9_readMatch sh ln x31 (nI b) (0 : Int32)).bind fun x129 => cb x129.1 (some ((x129.1, ln, x129.2), 0, 0))) else (if nI (KN T z b) = (308 : Int32) then if nI (KN T z b) = (307 : Int32) then (f_X9_readMatch sh ln x31 (nI b) (1 : Int32)).bind fun x129 => cb x129.1 (some ((x129.1, ln, x129.2), 0, 0)) else ((f_X9_readMatch sh ln x31 (nI b) (0 : Int32)).bind fun x129 => cb x129.1 (some ((x129.1, ln, x129.2), 0, 0))) else ((f_X8_wrongAt_0 sh ln x31 (nI b)).bind fun x135 => cb x135.1 (some ((x135.1, ln, x135.2), 0, 0)))))))))) else some ((nI 0, ln, mst μk (6, 0) 7 (nI b)), 0, 0)) := by
    have wf : ((f_X8_wrongAt_0 sh ln μk (nI b)).bind fun x26 => cb x26.1 (some ((x26.1, ln, x26.2), 0, 0))) = some ((nI 0, ln, mst μk (6, 0) 7 (nI b)), 0, 0) := by
      rw [f_X8_wrongAt_0, Option.bind_some]
      exact q_cb0
    rw [f_X9_readLineA, if_neg hX.nz, hX.c, hX.s, hK.kind, hK.beg, wf]
  by_cases hc : KN T z b = 301 ∨ KN T z b = 302 ∨ KN T z b = 303 ∨ KN T z b = 304 ∨ KN T z b = 305 ∨ KN T z b = 307 ∨ KN T z b = 308
  · have hwd : ∃ w, (5 ≤ w ∧ w < 24) ∧ KN T z b = 296 + w := ⟨KN T z b - 296, by omega, by omega⟩
    obtain ⟨w, hw, ew⟩ := hwd
    have hbz := (KN_w (z := z) (hT b) hw).mp ew
    have Q2 := hy ⟨hbz.1, hbz.2.1⟩
    obtain ⟨k1, es, ks1, K1⟩ := k_step0 (sh := sh) hK hbz.1
    have X1 := hX.fr (ks1.F.V (d := d))
    have S1 := hS.kf ks1.F
    have hV1 : VL sh ln aq k1 T z (nx T z b) d V n N w0 r Λo x2 := ⟨hR2, Q2, K1, S1, hE⟩
    have fv1 : FrV d μk k1 := ks1.F.V
    rcases hc with hc | hc | hc | hc | hc | hc | hc
    · have h := (((v_values hV1 X1 (b0 := b) h15).A).cq).pre hqr fv1
      have e1 : f_X11_readVillageLine aq = ((f_X11_readValues aq).bind fun x10 => cb x10.1 (some (x10.1, x10.2))) := by
        rw [f_X11_readVillageLine, hw1 5 (by omega) (by omega) (by omega), Option.bind_some, if_neg z1]
      rw [e1, e0, hc, if_pos (by decide), es, Option.bind_some, if_pos (by decide)]
      exact h
    · have h := (((v_person hV1 X1 (b0 := b) h15).ck).cq).pre hqr fv1
      have e1 : f_X11_readVillageLine aq = ((f_X11_readPerson aq).bind fun x10 => cb x10.1 (some (x10.1, x10.2))) := by
        rw [f_X11_readVillageLine, hw0 5 (by omega) (by omega) (by omega), Option.bind_some, if_pos z0, hw1 6 (by omega) (by omega) (by omega), Option.bind_some, if_neg z1]
      rw [e1, e0, hc, if_pos (by decide), es, Option.bind_some, if_neg (by decide), if_pos (by decide)]
      exact h
    · have h := ((v_sees hV1 X1).A).pre hqr fv1
      have e1 : f_X11_readVillageLine aq = ((f_X11_readTwo (mst aq (1, 0) (8 : Int32).toNatClampNeg (1 : Int32))).bind fun x131 => if x131.1 = 0 then some ((0 : Int32), x131.2) else ((f_X11_seesFrom x131.2 (x131.2 (0, 0) 19) (x131.2 (0, 0) 20)).bind fun x148 => some ((1 : Int32), x148))) := by
        rw [f_X11_readVillageLine, hw0 5 (by omega) (by omega) (by omega), Option.bind_some, if_pos z0, hw0 6 (by omega) (by omega) (by omega), Option.bind_some, if_pos z0, hw0 8 (by omega) (by omega) (by omega), Option.bind_some, hw0 11 (by omega) (by omega) (by omega), Option.bind_some, if_pos z0, hw0 9 (by omega) (by omega) (by omega), Option.bind_some, if_pos z0, f_X11_readVillageLine_J60, if_pos z0, hw0 12 (by omega) (by omega) (by omega), Option.bind_some, if_pos z0, f_X11_readVillageLine_J79, if_pos rfl, if_pos rfl, hw1 7 (by omega) (by omega) (by omega), Option.bind_some, if_neg z1, f_X11_readVillageLine_J101, ck8, if_pos rfl, if_pos rfl]
      rw [e1, e0, hc, if_pos (by decide), es, Option.bind_some, if_neg (by decide), if_neg (by decide), if_pos (by decide)]
      exact h
    · have h := (((v_limit hV1 X1 (b0 := b) h15 true).A).cq).pre hqr fv1
      have e1 : f_X11_readVillageLine aq = ((f_X11_readMany (mst aq (1, 0) (8 : Int32).toNatClampNeg (1 : Int32)) (bI true)).bind fun x10 => cb x10.1 (some (x10.1, x10.2))) := by
        rw [f_X11_readVillageLine, hw0 5 (by omega) (by omega) (by omega), Option.bind_some, if_pos z0, hw0 6 (by omega) (by omega) (by omega), Option.bind_some, if_pos z0, hw1 8 (by omega) (by omega) (by omega), Option.bind_some, hw0 11 (by omega) (by omega) (by omega), Option.bind_some, if_neg z1, f_X11_readVillageLine_J60, if_pos z0, hw0 12 (by omega) (by omega) (by omega), Option.bind_some, if_pos z0, f_X11_readVillageLine_J79, if_neg (show ¬ (1 : Int32) = 0 by decide), f_X11_readVillageLine_J101, ck8, if_neg (show ¬ (1 : Int32) = 0 by decide)]
        rfl
      rw [e1, e0, hc, if_pos (by decide), es, Option.bind_some, if_neg (by decide), if_neg (by decide), if_neg (by decide), if_pos (by decide), if_pos (by decide)]
      exact h
    · have h := (((v_limit hV1 X1 (b0 := b) h15 false).A).cq).pre hqr fv1
      have e1 : f_X11_readVillageLine aq = ((f_X11_readMany (mst aq (1, 0) (8 : Int32).toNatClampNeg (1 : Int32)) (bI false)).bind fun x10 => cb x10.1 (some (x10.1, x10.2))) := by
        rw [f_X11_readVillageLine, hw0 5 (by omega) (by omega) (by omega), Option.bind_some, if_pos z0, hw0 6 (by omega) (by omega) (by omega), Option.bind_some, if_pos z0, hw0 8 (by omega) (by omega) (by omega), Option.bind_some, hw0 11 (by omega) (by omega) (by omega), Option.bind_some, if_pos z0, hw1 9 (by omega) (by omega) (by omega), Option.bind_some, if_neg z1, f_X11_readVillageLine_J60, if_pos z0, hw0 12 (by omega) (by omega) (by omega), Option.bind_some, if_pos z0, f_X11_readVillageLine_J79, if_neg (show ¬ (1 : Int32) = 0 by decide), f_X11_readVillageLine_J101, ck8, if_neg (show ¬ (1 : Int32) = 0 by decide)]
        rfl
      rw [e1, e0, hc, if_pos (by decide), es, Option.bind_some, if_neg (by decide), if_neg (by decide), if_neg (by decide), if_neg (by decide), if_pos (by decide), if_neg (by decide)]
      exact h
    · have h := (((v_match hV1 X1 (b0 := b) h15 true).A).cq).pre hqr fv1
      have e1 : f_X11_readVillageLine aq = ((f_X11_readAlike (mst aq (1, 0) (8 : Int32).toNatClampNeg (1 : Int32)) (bI true)).bind fun x10 => cb x10.1 (some (x10.1, x10.2))) := by
        rw [f_X11_readVillageLine, hw0 5 (by omega) (by omega) (by omega), Option.bind_some, if_pos z0, hw0 6 (by omega) (by omega) (by omega), Option.bind_some, if_pos z0, hw0 8 (by omega) (by omega) (by omega), Option.bind_some, hw1 11 (by omega) (by omega) (by omega), Option.bind_some, if_pos z0, hw0 9 (by omega) (by omega) (by omega), Option.bind_some, if_pos z0, f_X11_readVillageLine_J60, if_neg z1, f_X11_readVillageLine_J79, if_pos rfl, if_neg (show ¬ (1 : Int32) = 0 by decide), f_X11_readVillageLine_J101, ck8, if_pos rfl, if_neg (show ¬ (1 : Int32) = 0 by decide)]
        rfl
      rw [e1, e0, hc, if_pos (by decide), es, Option.bind_some, if_neg (by decide), if_neg (by decide), if_neg (by decide), if_neg (by decide), if_neg (by decide), if_neg (by decide), if_pos (by decide), if_pos (by decide)]
      exact h
    · have h := (((v_match hV1 X1 (b0 := b) h15 false).A).cq).pre hqr fv1
      have e1 : f_X11_readVillageLine aq = ((f_X11_readAlike (mst aq (1, 0) (8 : Int32).toNatClampNeg (1 : Int32)) (bI false)).bind fun x10 => cb x10.1 (some (x10.1, x10.2))) := by
        rw [f_X11_readVillageLine, hw0 5 (by omega) (by omega) (by omega), Option.bind_some, if_pos z0, hw0 6 (by omega) (by omega) (by omega), Option.bind_some, if_pos z0, hw0 8 (by omega) (by omega) (by omega), Option.bind_some, hw0 11 (by omega) (by omega) (by omega), Option.bind_some, if_pos z0, hw0 9 (by omega) (by omega) (by omega), Option.bind_some, if_pos z0, f_X11_readVillageLine_J60, if_pos z0, hw1 12 (by omega) (by omega) (by omega), Option.bind_some, if_neg z1, f_X11_readVillageLine_J79, if_pos rfl, if_neg (show ¬ (1 : Int32) = 0 by decide), f_X11_readVillageLine_J101, ck8, if_pos rfl, if_neg (show ¬ (1 : Int32) = 0 by decide)]
        rfl
      rw [e1, e0, hc, if_pos (by decide), es, Option.bind_some, if_neg (by decide), if_neg (by decide), if_neg (by decide), if_neg (by decide), if_neg (by decide), if_neg (by decide), if_neg (by decide), if_pos (by decide), if_neg (by decide)]
      exact h
  · right
    have e1 : f_X11_readVillageLine aq = some (nI 0, aq) := by
      rw [f_X11_readVillageLine, hw0 5 (by omega) (by omega) (by omega), Option.bind_some, if_pos z0, hw0 6 (by omega) (by omega) (by omega), Option.bind_some, if_pos z0, hw0 8 (by omega) (by omega) (by omega), Option.bind_some, hw0 11 (by omega) (by omega) (by omega), Option.bind_some, if_pos z0, hw0 9 (by omega) (by omega) (by omega), Option.bind_some, if_pos z0, f_X11_readVillageLine_J60, if_pos z0, hw0 12 (by omega) (by omega) (by omega), Option.bind_some, if_pos z0, f_X11_readVillageLine_J79, if_pos rfl, if_pos rfl, hw0 7 (by omega) (by omega) (by omega), Option.bind_some, if_pos z0]
      rfl
    have ne : ∀ k : Nat, k < 2147483648 → KN T z b ≠ k → ¬ nI (KN T z b) = nI k := fun k hk hne => by rw [q_eq (by omega) hk]; exact hne
    by_cases c : 301 ≤ KN T z b
    · have hbz : b < z := by
        by_cases g : b < z
        · exact g
        · have := (KN_0 (hT b)).mpr g
          omega
      obtain ⟨k1, es, ks1, K1⟩ := k_step0 (sh := sh) hK hbz
      refine ⟨aq, mst k1 (6, 0) 7 (nI b), b, e1, ?_, h15, wr7, hqr, ks1.F.V.tw FrV.wr⟩
      have wf : ((f_X8_wrongAt_0 sh ln k1 (nI b)).bind fun x26 => cb x26.1 (some ((x26.1, ln, x26.2), 0, 0))) = some ((nI 0, ln, mst k1 (6, 0) 7 (nI b)), 0, 0) := by
        rw [f_X8_wrongAt_0, Option.bind_some]
        exact q_cb0
      rw [e0, if_pos (show (301 : Int32) ≤ nI (KN T z b) from nI_le (a := 301) c (by omega)), es, Option.bind_some, if_neg (show ¬ _ = (301 : Int32) from ne 301 (by omega) (by omega)), if_neg (show ¬ _ = (302 : Int32) from ne 302 (by omega) (by omega)), if_neg (show ¬ _ = (303 : Int32) from ne 303 (by omega) (by omega)), if_neg (show ¬ _ = (304 : Int32) from ne 304 (by omega) (by omega)), if_neg (show ¬ _ = (305 : Int32) from ne 305 (by omega) (by omega))]
      by_cases c6 : KN T z b = 306
      · rw [if_pos (show nI (KN T z b) = (306 : Int32) by rw [c6]; rfl)]
        exact wf
      · rw [if_neg (show ¬ _ = (306 : Int32) from ne 306 (by omega) (by omega)), if_neg (show ¬ _ = (307 : Int32) from ne 307 (by omega) (by omega)), if_neg (show ¬ _ = (308 : Int32) from ne 308 (by omega) (by omega))]
        exact wf
    · refine ⟨aq, mst μk (6, 0) 7 (nI b), b, e1, ?_, h15, wr7, hqr, FrV.wr⟩
      have ql : ((301 : Int32) ≤ nI (KN T z b)) = (301 ≤ KN T z b) := q_le (a := 301) (by omega) (by omega)
      rw [e0, if_neg (fun x => c (ql.mp x))]
theorem v_line (hV : VL sh ln μq μk T z b d V n N w0 r Λo x2) (hX : VX sh ln μk d) {t : Nat} (ht : t < 14) : VOA (f_X11_readLine μq (1 : Int32) (nI t)) (f_X9_readLineA sh ln μk) sh ln μq μk T z d Λo x2 := by
  obtain ⟨a, e1, hF, h15, h13, hT2, hW, hy, hn⟩ := t_letters hV.2.1
  have h := (v_word hV hX (hV.1.qf hF) h15 hF.R hW hy).nq
  have e2 : f_X11_readLine μq (1 : Int32) (nI t) = ((f_X11_readVillageLine a).bind fun x => if x.1 = 0 then some ((0 : Int32), x.2) else (some ((1 : Int32), x.2))) := by
    rw [f_X11_readLine, e1, Option.bind_some, if_neg (show ¬ (1 : Int32) = 0 by decide), f_X11_readLine_J16, if_neg (by rw [show (14 : Int32) = nI 14 from rfl, q_le (by omega) (by omega)]; omega), if_neg (show ¬ (1 : Int32) = 0 by decide)]
  rw [e2]
  exact h
end VLN
